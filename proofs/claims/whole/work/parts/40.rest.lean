/-! the class's bridge, stand, standing, kept, draw, told, digest -/
def sWh (a : AS) (w : Option Nat) : AS := (a.1, a.2.1, a.2.2.1, w, 0, 0, a.2.2.2.2.2.2)
noncomputable def staA (a : AS) (x : Int32) : Rs := if x = -1 then (szI (sWh a none), sWh a none) else match rn 4 x with
  | none => rfA (-2) a
  | some x => match aX a x with
    | none => rfA (-3) a
    | some _ => (szI (sWh a (some x)), sWh a (some x))
noncomputable def stdV (a : AS) (w : Nat) : Int32 := if w = 0 then wI (aW a) else if w = 1 then szI a else if w = 2 then aC a else aLo a
noncomputable def stdA (a : AS) (w : Int32) : Rs := match rn 4 w with
  | none => rfA (-2) a
  | some w => (stdV a w, a)
noncomputable def kepA (a : AS) (u v : Int32) : Rs := match rn 10 u with
  | none => rfA (-2) a
  | some u => match rn 10 v with
    | none => rfA (-2) a
    | some v => match aW a with
      | none => rfA (-3) a
      | some _ => ((if bt (rowI (aG a) (aX a) (aW a) u) v = true then 1 else 0), a)
def drS (x : Nat) : Nat := (x * 1103515245 + 12345) % 2147483648
def drQ (x : Nat) : Nat × Nat × Nat := (x / 65536 % 10, x / 1024 % 4, x / 4096 % 10)
def drN (s : Nat) : Nat → Nat × Gr
  | 0 => (s, [])
  | k + 1 => (drS (drN s k).1, if drQ (drS (drN s k).1) ∈ (drN s k).2 then (drN s k).2 else (drN s k).2 ++ [drQ (drS (drN s k).1)])
theorem drN_len (s k : Nat) : (drN s k).2.length ≤ k := by
  induction k with
  | zero => simp [drN]
  | succ k ih =>
    unfold drN
    dsimp only
    split
    · omega
    · rw [List.length_append]
      simp
      exact ih
def drwA (a : AS) (s n : Int32) : Rs := match rn 1000000 s with
  | none => rfA (-2) a
  | some s => match rn 31 n with
    | none => rfA (-2) a
    | some n => (nI (drN s n).2.length, sG a (drN s n).2)
def tolV (a : AS) (w : Nat) : Int32 := if w = 0 then aB a else if w = 1 then aN a else if w = 2 then aF a else if w = 3 then nI (aT a).length else if w = 4 then nI (aG a).length else if w = 5 then smI (plI (aX a)) 4 else wI (aW a)
def tolA (a : AS) (w : Int32) : Rs := match rn 7 w with
  | none => rfA (-2) a
  | some w => (tolV a w, a)
def hR (f : Nat → Int32) : Nat → Int64 → Int64
  | 0, h => h
  | k + 1, h => 31 * hR f k h + (f k).toInt64
noncomputable def exV (a : AS) (x : Nat) : Int32 := match aX a x with
  | none => -1
  | some A => anI (aS a) A
noncomputable def digI (a : AS) : Int64 := hR (fun j => stdV a (j + 1)) 3 (hR (exV a) 4 (hR (fun j => ofV (aG a) (j / 3) (j % 3)) (3 * (aG a).length) (hR (tolV a) 7 1931)))
section ClRest
variable {τ : Ty} {Q : Option Value → Ty → Prop} {a : AS}
theorem bridge_spec {x u v : Int32} (hC : CIs τ a) (h : ∀ τ', OffC τ τ' → CIs τ' (briA a x u v).2 → Q (some (.int (briA a x u v).1)) τ') : RT mX10_bridge none 0 [some (.ref 0), some (.int x), some (.int u), some (.int v), none, none, none, none] [] τ Q := by
  have no : ∀ r, (r = -2 ∨ r = -3 ∨ r = -4) → briA a x u v = rfA r a → RT mX10_bridge none 7 [some (.ref 0), some (.int x), some (.int u), some (.int v), none, none, none, none] [.int r] τ Q := by
    intro r hr e
    rw [e] at h
    refine rt_run 2 rfl ?_
    refine rt_if_eq rfl (fun hc => by rcases hr with rfl | rfl | rfl <;> exact absurd hc (by decide)) (fun _ => ?_)
    refine rt_run 2 rfl ?_
    refine rt_cV (ci := 10) mX10_refuse kX10_bridge_17 okX10_refuse rfl rfl rfl rfl rfl ?_
    exact refuse_spec hC hr (fun τ' hO hC' => rt_iret rfl rfl (h τ' hO hC'))
  refine rt_run 4 rfl ?_
  refine rt_cV (ci := 10) mX10_refusalOf kX10_bridge_4 okX10_refusalOf rfl rfl rfl rfl rfl ?_
  refine refusalOf_spec hC (fun hb => no _ (Or.inl rfl) (rtA_bad hb)) (fun i j k hi hj hk e1 e2 e3 hA => ?_) (fun i j k A hi hj hk e1 e2 e3 hA hE => ?_)
  · subst e1; subst e2; subst e3
    exact no _ (Or.inr (Or.inl rfl)) (by unfold briA; rw [rtA_ok hi hj hk, hA])
  subst e1; subst e2; subst e3
  have eA : briA a (nI i) (nI j) (nI k) = (brI (aG a) A j k, a) := by unfold briA; rw [rtA_ok hi hj hk, hA]
  rw [eA] at h
  have hL := hC.1.ok none
  have hl30 := hC.1.2.2.1
  have hAwf := hE.2.2.2.2
  have hA' := hA
  have fin : ∀ d e τ' (nd : Int32) (x5 : Int32), e + d = (aG a).length → Off kX τ τ' → (∀ e', e' < (aG a).length → bt nd e' = false → farO (stL (aG a) none) A j k ≠ none → ansB (stL (aG a) (some e')) A j k = true) → (farO (stL (aG a) none) A j k = none → nd = 0) → (∀ e', e' < e → farO (stL (aG a) none) A j k ≠ none → ansB (stL (aG a) (some e')) A j k = true) →
      RT mX10_bridge none 89 [some (.ref 0), some (.int (nI i)), some (.int (nI j)), some (.int (nI k)), some (.int 0), some (.int x5), some (.int nd), some (.int (nI e))] [] τ' Q := by
    intro d
    induction d with
    | zero =>
      intro e τ' nd x5 he hO hnd hno hpre
      have hC1 : CIs τ' a := hC.scr hO.w (hC.2.2.2.2.2.1.eq hO.2)
      have hfin : Q (some (.int (brI (aG a) A j k))) τ' := h τ' (hO.c (by decide)) hC1
      unfold brI at hfin
      refine rt_run 4 rfl ?_
      refine rt_ge e (aG a).length rfl (by omega) (by omega) (fun _ => ?_) (fun _ => by omega) rfl hC1.1.1
      refine rt_run 1 rfl ?_
      cases hf : farO (stL (aG a) none) A j k with
      | none =>
        rw [hf] at hfin
        exact rt_iret rfl rfl hfin
      | some n =>
        rw [hf] at hfin
        dsimp only at hfin
        have : (List.range (aG a).length).find? (fun e => !ansB (stL (aG a) (some e)) A j k) = none := by
          rw [List.find?_eq_none]
          intro e' he'
          have := hpre e' (by have := List.mem_range.mp he'; omega) (by rw [hf]; simp)
          simp [this]
        rw [this] at hfin
        exact rt_iret rfl rfl hfin
    | succ d ih =>
      intro e τ' nd x5 he hO hnd hno hpre
      have hC1 : CIs τ' a := hC.scr hO.w (hC.2.2.2.2.2.1.eq hO.2)
      have hE1 : ExIs τ' (51 + 3 * i) A := hE.off hO (by rcases (show i = 0 ∨ i = 1 ∨ i = 2 ∨ i = 3 by omega) with rfl | rfl | rfl | rfl <;> decide)
      refine rt_run 4 rfl ?_
      refine rt_ge e (aG a).length rfl (by omega) (by omega) (fun _ => by omega) (fun hlt => ?_) rfl hC1.1.1
      have next : ∀ τ2, Off kX τ τ2 → (farO (stL (aG a) none) A j k ≠ none → ansB (stL (aG a) (some e)) A j k = true) → RT mX10_bridge none 131 [some (.ref 0), some (.int (nI i)), some (.int (nI j)), some (.int (nI k)), some (.int 0), some (.int x5), some (.int nd), some (.int (nI e))] [] τ2 Q := by
        intro τ2 hO2 hans
        refine rt_run 2 rfl ?_
        rw [← nI_succ]
        refine ih (e + 1) τ2 nd x5 (by omega) hO2 hnd hno (fun e' he' hne => ?_)
        by_cases hee : e' = e
        · subst hee; exact hans hne
        · exact hpre e' (by omega) hne
      refine rt_run 5 rfl ?_
      refine rt_if_eq rfl (fun hz => ?_) (fun hnz => ?_)
      · exact next τ' hO (fun hne => hnd e hlt (bt_f (by omega) hz) hne)
      · have hfar : farO (stL (aG a) none) A j k ≠ none := by
          intro hf
          have := bt_t (by omega) hnz
          rw [hno hf, b_0] at this
          cases this
        refine rt_run 4 rfl ?_
        refine rt_aald rfl hi ?_
        refine rt_run 3 rfl ?_
        refine rt_cV (ci := 10) mX10_isAnswerWithout kX10_bridge_122 okX10_isAnswerWithout rfl rfl rfl rfl rfl ?_
        refine isAnswerWithout_spec (isE_x hi) hE1 hC1.1 hj hk (by omega) (fun τ2 hO2 => ?_)
        have hO3 : Off kX τ τ2 := hO.tr (hO2.up (by decide))
        have hC2 : CIs τ2 a := hC.scr hO3.w (hC.2.2.2.2.2.1.eq hO3.2)
        cases hx : ansB (stL (aG a) (some e)) A j k with
        | true =>
          refine rt_if_ne rfl (fun _ => ?_) (fun hc => absurd hc (by decide))
          exact next τ2 hO3 (fun _ => hx)
        | false =>
          refine rt_if_ne rfl (fun hc => absurd rfl hc) (fun _ => ?_)
          refine rt_run 1 rfl ?_
          have hfin : Q (some (.int (brI (aG a) A j k))) τ2 := h τ2 (hO3.c (by decide)) hC2
          unfold brI at hfin
          cases hf : farO (stL (aG a) none) A j k with
          | none => exact absurd hf hfar
          | some n =>
            rw [hf] at hfin
            dsimp only at hfin
            have : (List.range (aG a).length).find? (fun e => !ansB (stL (aG a) (some e)) A j k) = some e := by
              rw [List.find?_range_eq_some]
              refine ⟨by simp [hx], List.mem_range.mpr hlt, fun e' he' => ?_⟩
              have := hpre e' he' hfar
              simp [this]
            rw [this] at hfin
            exact rt_iret rfl rfl hfin
  refine rt_run 2 rfl ?_
  refine rt_if_eq rfl (fun _ => ?_) (fun hc => absurd rfl hc)
  refine rt_run 5 rfl ?_
  refine rt_aald rfl hi ?_
  refine rt_run 4 rfl ?_
  refine rt_cV (ci := 5) mX5_trace kX10_bridge_37 okX5_trace rfl rfl rfl rfl rfl ?_
  refine trace_spec (isE_x hi) (Or.inl rfl) hE hC.2.1 hL hj hk (fun τ1 n hO1 hn hlev hlen hpath => ?_) (fun τ1 hO1 hno => ?_)
  · have hS1 := hC.2.1.off hO1 (by decide)
    have h60 := hL.1
    have loop : ∀ d m (nd : Int32), m + d = n → (∀ m' s st, m' < m → (gp (stL (aG a) none) A k n j δ0)[m']? = some s → (stL (aG a) none)[s]? = some st → bt nd st.2.2.2 = true) → RT mX10_bridge none 48 [some (.ref 0), some (.int (nI i)), some (.int (nI j)), some (.int (nI k)), some (.int 0), some (.int (nI n)), some (.int nd), some (.int (nI m))] [] τ1 Q := by
      intro d
      induction d with
      | zero =>
        intro m nd hm hnd
        refine rt_run 2 rfl ?_
        refine rt_ge m n rfl (by omega) (by omega) (fun _ => ?_) (fun _ => by omega)
        refine rt_run 2 rfl ?_
        refine fin (aG a).length 0 τ1 nd (nI n) (by omega) (hO1.up (by decide)) (fun e' he' hb _ => ?_) (fun hf => ?_) (fun e' he' => by omega)
        · rw [ansB_iff, Ans_Bk]
          have hin : ∀ s ∈ gp (stL (aG a) none) A k n j δ0, ∀ st, (stL (aG a) none)[s]? = some st → st ∈ stL (aG a) (some e') := by
            intro s hs st hst
            obtain ⟨m', hm'⟩ := List.getElem?_of_mem hs
            have hm2 := (List.getElem?_eq_some_iff.mp hm').1
            have hbt := hnd m' s st (by omega) hm' hst
            obtain ⟨i2, q, g1, g2, g3⟩ := mem_stL.mp (List.mem_of_getElem? hst)
            refine mem_stL.mpr ⟨i2, q, g1, ?_, g3⟩
            intro he
            cases he
            have e4 : st.2.2.2 = e' := by rcases g3 with rfl | rfl <;> rfl
            rw [e4, hb] at hbt
            cases hbt
          obtain ⟨p, hp1, hp2⟩ := gp_bk hL hAwf hk n j δ0 ⟨0, rfl, hlev.1⟩ hin
          have : p = 0 := of_decide_eq_true hp1
          subst this
          exact ⟨n, hp2⟩
        · rw [farO_so hlev] at hf
          cases hf
      | succ d ih =>
        intro m nd hm hnd
        have hgk : (gp (stL (aG a) none) A k n j δ0)[m]? = some (gp (stL (aG a) none) A k n j δ0)[m] := List.getElem?_eq_getElem (by omega)
        obtain ⟨p1, p2⟩ := hpath m _ hgk
        generalize (gp (stL (aG a) none) A k n j δ0)[m] = s at p1 p2 hgk
        have hls : (stL (aG a) none)[s]? = some (stL (aG a) none)[s] := List.getElem?_eq_getElem p2
        obtain ⟨g1, g2, g3, g4⟩ := hS1.2 s _ hls
        obtain ⟨i2, q, q1, q2, q3⟩ := mem_stL.mp (List.getElem_mem p2)
        have e4 : (stL (aG a) none)[s].2.2.2 = i2 := by rcases q3 with q3 | q3 <;> rw [q3]
        have hi2 := (List.getElem?_eq_some_iff.mp q1).1
        refine rt_run 2 rfl ?_
        refine rt_ge m n rfl (by omega) (by omega) (fun _ => by omega) (fun _ => ?_)
        refine rt_run 9 rfl ?_
        refine rt_ld m rfl (n := 250) rfl (by omega) ?_
        rw [p1]
        refine rt_ld s rfl (n := 60) rfl (by omega) ?_
        rw [g4]
        refine rt_run 5 rfl ?_
        rw [← nI_succ]
        refine ih (m + 1) _ (by omega) (fun m' s' st' hm' h1 h2 => ?_)
        rw [b_or]
        by_cases hmm : m' = m
        · subst hmm
          rw [hgk] at h1
          cases h1
          rw [hls] at h2
          cases h2
          rw [b_bit (by omega) (by omega)]
          simp
        · rw [hnd m' s' st' (by omega) h1 h2]
          rfl
    refine rt_run 5 rfl ?_
    exact loop n 0 0 (by omega) (fun m' s st hm' => by omega)
  · refine rt_run 5 rfl ?_
    refine rt_run 2 rfl ?_
    refine rt_ic_ge rfl (fun _ => ?_) (fun hc => absurd (by decide) hc)
    refine rt_run 2 rfl ?_
    refine fin (aG a).length 0 τ1 0 _ (by omega) (hO1.up (by decide)) (fun e' _ _ hne => absurd (farO_no hno) hne) (fun _ => rfl) (fun e' he' => by omega)
theorem stand_spec {x : Int32} (hC : CIs τ a) (h : ∀ τ', OffC τ τ' → CIs τ' (staA a x).2 → Q (some (.int (staA a x).1)) τ') : RT mX10_stand none 0 [some (.ref 0), some (.int x)] [] τ Q := by
  have fin : ∀ w, x = wI w → (∀ y, w = some y → y < 4 ∧ (aX a y).isSome = true) → staA a x = (szI (sWh a w), sWh a w) → RT mX10_stand none 43 [some (.ref 0), some (.int x)] [] τ Q := by
    intro w hx hw e
    rw [e] at h
    refine rt_run 13 rfl ?_
    have hO : Off [49] τ (sF (sF (sF τ 49 1 x) 49 2 0) 49 3 0) := (((Off.rf _ _).sF (by simp) _ _).sF (by simp) _ _).sF (by simp) _ _
    refine rt_cV (ci := 10) mX10_keepAnswers kX10_stand_68 okX10_keepAnswers rfl rfl rfl rfl rfl ?_
    refine keepAnswers_spec (a := sWh a w) ?_ (hC.2.1.off hO (by decide)) (fun τ2 hO2 hC2 => ?_)
    · obtain ⟨c1, c3, c4, c5, c6, c7, c8⟩ := hC.one
      exact ⟨c1.offW hO.w (by decide), c3.offW hO.w (by decide), c4, c5.offW hO.w (fun k g1 g2 hin => by simp at hin; omega), c6, ⟨hx, hw, rfl, rfl⟩, c8⟩
    · refine rt_run 2 rfl ?_
      refine rt_cV (ci := 6) mX6_size kX10_stand_75 okX6_size rfl rfl rfl rfl rfl ?_
      refine size_spec hC2 ?_
      exact rt_iret rfl rfl (h τ2 ((hO.c (by decide)).tr (hO2.c (by decide))) hC2)
  refine rt_run 2 rfl ?_
  refine rt_ic_eq rfl (fun hx => ?_) (fun hx => ?_)
  · refine rt_run 2 rfl ?_
    refine rt_ic_eq rfl (fun _ => ?_) (fun hc => absurd hx hc)
    exact fin none hx (fun y hy => by cases hy) (by unfold staA; rw [if_pos hx])
  · refine rt_run 1 rfl ?_
    refine rt_cS mX10_isExpression kX10_stand_6 okX10_isExpression rfl rfl ?_
    refine isExpr_spec (fun hh => ?_) (fun x' hx' ex => ?_)
    · refine rt_if_ne rfl (fun hc => absurd rfl hc) (fun _ => ?_)
      refine rt_run 2 rfl ?_
      refine rt_cV (ci := 10) mX10_refuse kX10_stand_15 okX10_refuse rfl rfl rfl rfl rfl ?_
      unfold staA at h
      rw [if_neg hx, rn_no (by decide) hh] at h
      exact refuse_spec hC (Or.inl rfl) (fun τ' hO hC' => rt_iret rfl rfl (h τ' hO hC'))
    · subst ex
      refine rt_if_ne rfl (fun _ => ?_) (fun hc => absurd hc (by decide))
      refine rt_run 2 rfl ?_
      refine rt_ic_eq rfl (fun hc => absurd hc hx) (fun _ => ?_)
      obtain ⟨f0, f1, f2, f3, f4, a0, a1, h38⟩ := isE_f (isE_x hx')
      refine rt_run 3 rfl ?_
      refine rt_aald rfl hx' ?_
      refine rt_getI rfl f4 ?_
      have eA : staA a (nI x') = match aX a x' with
          | none => rfA (-3) a
          | some _ => (szI (sWh a (some x')), sWh a (some x')) := by
        unfold staA; rw [if_neg hx, rn_so hx' (by decide)]
      rcases hC.2.2.2.2.1.told hx' with ⟨hA, e4⟩ | ⟨A, hA, e4, hE⟩
      · rw [e4]
        refine rt_if_ne rfl (fun hc => absurd rfl hc) (fun _ => ?_)
        refine rt_run 2 rfl ?_
        refine rt_cV (ci := 10) mX10_refuse kX10_stand_39 okX10_refuse rfl rfl rfl rfl rfl ?_
        rw [eA, hA] at h
        exact refuse_spec hC (Or.inr (Or.inl rfl)) (fun τ' hO hC' => rt_iret rfl rfl (h τ' hO hC'))
      · rw [e4]
        refine rt_if_ne rfl (fun _ => ?_) (fun hc => absurd hc (by decide))
        exact fin (some x') rfl (fun y hy => by cases hy; exact ⟨hx', by rw [hA]; rfl⟩) (by rw [eA, hA])
theorem std_ok {w : Nat} (hC : CIs τ a) (hw : w < 4) (h : Q (some (.int (stdV a w))) τ) : RT mX10_standing none 0 [some (.ref 0), some (.int (nI w))] [] τ Q := by
  refine rt_run 1 rfl ?_
  obtain ⟨s1, s2, s3, s4, s5⟩ := hC.2.2.2.2.2.2.1
  rcases (show w = 0 ∨ w = 1 ∨ w = 2 ∨ w = 3 by omega) with rfl | rfl | rfl | rfl
  · refine rt_tsIn (off := 31) (tgt := 32) rfl (by decide) (by decide) rfl (by decide) ?_
    refine rt_run 3 rfl ?_
    rw [s1]
    exact rt_iret rfl rfl h
  · refine rt_tsIn (off := 39) (tgt := 40) rfl (by decide) (by decide) rfl (by decide) ?_
    refine rt_run 2 rfl ?_
    refine rt_cV (ci := 6) mX6_size kX10_standing_44 okX6_size rfl rfl rfl rfl rfl ?_
    refine size_spec hC ?_
    exact rt_iret rfl rfl h
  · refine rt_tsIn (off := 47) (tgt := 48) rfl (by decide) (by decide) rfl (by decide) ?_
    refine rt_run 3 rfl ?_
    rw [s3]
    exact rt_iret rfl rfl h
  · refine rt_tsIn (off := 55) (tgt := 56) rfl (by decide) (by decide) rfl (by decide) ?_
    refine rt_run 3 rfl ?_
    rw [s4]
    exact rt_iret rfl rfl h
theorem standing_spec {w : Int32} (hC : CIs τ a) (h : ∀ τ', OffC τ τ' → CIs τ' (stdA a w).2 → Q (some (.int (stdA a w).1)) τ') : RT mX10_standing none 0 [some (.ref 0), some (.int w)] [] τ Q := by
  have out : (w.toInt < 0 ∨ 3 < w.toInt) → rn 4 w = none → RT mX10_standing none 0 [some (.ref 0), some (.int w)] [] τ Q := by
    intro h1 h2
    refine rt_run 1 rfl ?_
    refine rt_tsOut (tgt := 64) rfl h1 (by decide) ?_
    refine rt_run 2 rfl ?_
    refine rt_cV (ci := 10) mX10_refuse kX10_standing_67 okX10_refuse rfl rfl rfl rfl rfl ?_
    unfold stdA at h
    rw [h2] at h
    exact refuse_spec hC (Or.inl rfl) (fun τ' hO hC' => rt_iret rfl rfl (h τ' hO hC'))
  rcases pk_ix w (n := 4) (by decide) with g | g | ⟨w', hw, ew⟩
  · refine out (Or.inl ?_) (rn_out (Or.inl g))
    rw [Int32.lt_iff_toInt_lt] at g
    exact g
  · refine out (Or.inr ?_) (rn_out (Or.inr g))
    rw [Int32.le_iff_toInt_le] at g
    have : (nI 4).toInt = 4 := by decide
    omega
  · subst ew
    refine std_ok hC hw ?_
    unfold stdA at h
    rw [rn_so hw (by decide)] at h
    exact h τ (OffC.rf _) hC
theorem kept_spec {u v : Int32} (hC : CIs τ a) (h : ∀ τ', OffC τ τ' → CIs τ' (kepA a u v).2 → Q (some (.int (kepA a u v).1)) τ') : RT mX10_kept none 0 [some (.ref 0), some (.int u), some (.int v)] [] τ Q := by
  have no : kepA a u v = rfA (-2) a → RT mX10_kept none 14 [some (.ref 0), some (.int u), some (.int v)] [] τ Q := by
    intro e
    rw [e] at h
    refine rt_run 2 rfl ?_
    refine rt_cV (ci := 10) mX10_refuse kX10_kept_17 okX10_refuse rfl rfl rfl rfl rfl ?_
    exact refuse_spec hC (Or.inl rfl) (fun τ' hO hC' => rt_iret rfl rfl (h τ' hO hC'))
  refine rt_run 1 rfl ?_
  refine rt_cS mX10_isVertex kX10_kept_1 okX10_isVertex rfl rfl ?_
  refine isVertex_spec (fun hh => ?_) (fun u' hu eu => ?_)
  · exact rt_if_eq rfl (fun _ => no (by unfold kepA; rw [rn_no (by decide) hh])) (fun hc => absurd rfl hc)
  subst eu
  refine rt_if_eq rfl (fun hc => absurd hc (by decide)) (fun _ => ?_)
  refine rt_run 1 rfl ?_
  refine rt_cS mX10_isVertex kX10_kept_8 okX10_isVertex rfl rfl ?_
  refine isVertex_spec (fun hh => ?_) (fun v' hv ev => ?_)
  · exact rt_if_ne rfl (fun hc => absurd rfl hc) (fun _ => no (by unfold kepA; rw [rn_so hu (by decide)]; dsimp only; rw [rn_no (by decide) hh]))
  subst ev
  refine rt_if_ne rfl (fun _ => ?_) (fun hc => absurd hc (by decide))
  have eA : kepA a (nI u') (nI v') = match aW a with
      | none => rfA (-3) a
      | some _ => ((if bt (rowI (aG a) (aX a) (aW a) u') v' = true then 1 else 0), a) := by
    unfold kepA; rw [rn_so hu (by decide)]; dsimp only; rw [rn_so hv (by decide)]
  obtain ⟨s1, s2, s3, s4, s5⟩ := hC.2.2.2.2.2.2.1
  refine rt_run 4 rfl ?_
  rw [s1]
  cases hW : aW a with
  | none =>
    rw [eA, hW] at h
    refine rt_ic_ne rfl (fun hc => absurd rfl hc) (fun _ => ?_)
    refine rt_run 2 rfl ?_
    refine rt_cV (ci := 10) mX10_refuse kX10_kept_35 okX10_refuse rfl rfl rfl rfl rfl ?_
    exact refuse_spec hC (Or.inr (Or.inl rfl)) (fun τ' hO hC' => rt_iret rfl rfl (h τ' hO hC'))
  | some y =>
    have hy := (s2 y hW).1
    rw [eA, hW] at h
    dsimp only at h
    refine rt_ic_ne rfl (fun _ => ?_) (fun hc => absurd hc (neg1 (by omega)))
    refine rt_run 4 rfl ?_
    refine rt_ld u' rfl (n := 10) rfl hu ?_
    rw [s5 u' hu, hW]
    refine rt_run 4 rfl ?_
    rw [b_t1 (by omega)]
    exact rt_iret rfl rfl (h τ (OffC.rf _) hC)
theorem draw_spec {s n : Int32} (hC : CIs τ a) (h : ∀ τ', OffC τ τ' → CIs τ' (drwA a s n).2 → Q (some (.int (drwA a s n).1)) τ') : RT mX10_draw none 0 [some (.ref 0), some (.int s), some (.int n), none, none, none, none, none, none] [] τ Q := by
  have no : drwA a s n = rfA (-2) a → RT mX10_draw none 20 [some (.ref 0), some (.int s), some (.int n), none, none, none, none, none, none] [] τ Q := by
    intro e
    rw [e] at h
    refine rt_run 2 rfl ?_
    refine rt_cV (ci := 10) mX10_refuse kX10_draw_23 okX10_refuse rfl rfl rfl rfl rfl ?_
    exact refuse_spec hC (Or.inl rfl) (fun τ' hO hC' => rt_iret rfl rfl (h τ' hO hC'))
  have r1 : rn 1000000 s = none → drwA a s n = rfA (-2) a := fun e => by unfold drwA; rw [e]
  refine rt_run 1 rfl ?_
  refine rt_if_lt rfl (fun hc => no (r1 (rn_out (Or.inl hc)))) (fun hc => ?_)
  refine rt_run 2 rfl ?_
  refine rt_ic_ge rfl (fun hd => no (r1 (rn_out (Or.inr hd)))) (fun hd => ?_)
  rcases pk_ix s (n := 1000000) (by decide) with g | g | ⟨s', hs, es⟩
  · exact absurd g hc
  · exact absurd g hd
  subst es
  have r2 : rn 31 n = none → drwA a (nI s') n = rfA (-2) a := fun e => by unfold drwA; rw [rn_so hs (by decide)]; dsimp only; rw [e]
  refine rt_run 1 rfl ?_
  refine rt_if_lt rfl (fun hc => no (r2 (rn_out (Or.inl hc)))) (fun hc2 => ?_)
  refine rt_run 2 rfl ?_
  rcases pk_ix n (n := 31) (by decide) with g | g | ⟨n', hn, en⟩
  · exact absurd g hc2
  · exact rt_ic_le rfl (fun hd => absurd hd (le_no (n := 30) (by decide) g)) (fun hd => no (r2 (rn_out (Or.inr g))))
  subst en
  have eA : drwA a (nI s') (nI n') = (nI (drN s' n').2.length, sG a (drN s' n').2) := by
    unfold drwA; rw [rn_so hs (by decide)]; dsimp only; rw [rn_so hn (by decide)]
  rw [eA] at h
  refine rt_le n' 30 rfl (by omega) (by omega) (fun _ => ?_) (fun _ => by omega)
  refine rt_run 9 rfl ?_
  rw [nI_l (show s' < 2 ^ 31 by omega)]
  have hO0 : Off [1, 2, 3, 4] τ (sF τ 1 3 0) := (Off.rf _ _).sF (by simp) _ _
  have loop : ∀ d k τ' (x6 x7 x8 : Option Value), k + d = n' → Off [1, 2, 3, 4] τ τ' → EdIs τ' (drN s' k).2 → (drN s' k).1 < 2 ^ 31 → RT mX10_draw none 41 [some (.ref 0), some (.int (nI s')), some (.int (nI n')), some (.long (lN (drN s' k).1)), none, some (.int (nI k)), x6, x7, x8] [] τ' Q := by
    intro d
    induction d with
    | zero =>
      intro k τ' x6 x7 x8 hk hO hG hx
      have : k = n' := by omega
      subst this
      refine rt_run 2 rfl ?_
      refine rt_ge k k rfl (by omega) (by omega) (fun _ => ?_) (fun _ => by omega)
      refine rt_run 1 rfl ?_
      refine rt_cV (ci := 10) mX10_graphChanged kX10_draw_133 okX10_graphChanged rfl rfl rfl rfl rfl ?_
      refine graphChanged_spec (a := sG a (drN s' k).2) (hC.one.setG hO hG) (fun τ2 hO2 hC2 => ?_)
      refine rt_run 3 rfl ?_
      rw [hC2.1.1]
      exact rt_iret rfl rfl (h τ2 ((hO.c (by decide)).tr (hO2.c (by decide))) hC2)
    | succ d ih =>
      intro k τ' x6 x7 x8 hk hO hG hx
      have hlen := drN_len s' k
      refine rt_run 2 rfl ?_
      refine rt_ge k n' rfl (by omega) (by omega) (fun _ => by omega) (fun _ => ?_)
      refine rt_run 6 rfl ?_
      have e1 : lN (drN s' k).1 * 1103515245 + 12345 = lN ((drN s' k).1 * 1103515245 + 12345) := by
        rw [show (1103515245 : Int64) = lN 1103515245 from rfl, show (12345 : Int64) = lN 12345 from rfl, lN_mul, lN_add]
      rw [e1]
      have hb : (drN s' k).1 * 1103515245 + 12345 < 2 ^ 63 := by omega
      refine rt_lrem rfl (by decide) ?_
      rw [show lN ((drN s' k).1 * 1103515245 + 12345) - lN ((drN s' k).1 * 1103515245 + 12345) / 2147483648 * 2147483648 = lN (drS (drN s' k).1) from pk_lRem (b := 2147483648) hb (by decide) (by decide)]
      have hx' : drS (drN s' k).1 < 2 ^ 31 := by unfold drS; omega
      have en : drN s' (k + 1) = (drS (drN s' k).1, if drQ (drS (drN s' k).1) ∈ (drN s' k).2 then (drN s' k).2 else (drN s' k).2 ++ [drQ (drS (drN s' k).1)]) := rfl
      generalize drS (drN s' k).1 = y at hx' en
      refine rt_run 3 rfl ?_
      refine rt_ldiv rfl (by decide) ?_
      rw [show lN y / 65536 = lN (y / 65536) from pk_lDiv (b := 65536) (by omega) (by decide) (by decide)]
      refine rt_run 1 rfl ?_
      refine rt_lrem rfl (by decide) ?_
      rw [show lN (y / 65536) - lN (y / 65536) / 10 * 10 = lN (y / 65536 % 10) from pk_lRem (b := 10) (by omega) (by decide) (by decide)]
      refine rt_run 4 rfl ?_
      rw [lN_i]
      refine rt_ldiv rfl (by decide) ?_
      rw [show lN y / 1024 = lN (y / 1024) from pk_lDiv (b := 1024) (by omega) (by decide) (by decide)]
      refine rt_run 1 rfl ?_
      refine rt_lrem rfl (by decide) ?_
      rw [show lN (y / 1024) - lN (y / 1024) / 4 * 4 = lN (y / 1024 % 4) from pk_lRem (b := 4) (by omega) (by decide) (by decide)]
      refine rt_run 4 rfl ?_
      rw [lN_i]
      refine rt_ldiv rfl (by decide) ?_
      rw [show lN y / 4096 = lN (y / 4096) from pk_lDiv (b := 4096) (by omega) (by decide) (by decide)]
      refine rt_run 1 rfl ?_
      refine rt_lrem rfl (by decide) ?_
      rw [show lN (y / 4096) - lN (y / 4096) / 10 * 10 = lN (y / 4096 % 10) from pk_lRem (b := 10) (by omega) (by decide) (by decide)]
      refine rt_run 7 rfl ?_
      rw [lN_i]
      refine rt_cV (ci := 1) mX1_has kX10_draw_107 okX1_has rfl rfl rfl rfl rfl ?_
      refine has_spec hG (by omega) (by omega) (by omega) (fun hni => ?_) (fun hin => ?_)
      · have hni : drQ y ∉ (drN s' k).2 := hni
        rw [if_neg hni] at en
        refine rt_if_ne rfl (fun hc => absurd rfl hc) (fun _ => ?_)
        refine rt_run 5 rfl ?_
        refine rt_cV (ci := 1) mX1_put kX10_draw_123 okX1_put rfl rfl rfl rfl rfl ?_
        refine eput_spec hG (by omega) (by omega) (by omega) (by omega) (fun τ2 hO2 hG2 => ?_)
        refine rt_run 2 rfl ?_
        rw [← nI_succ]
        have := ih (k + 1) τ2 (some (.int (nI (y / 65536 % 10)))) (some (.int (nI (y / 1024 % 4)))) (some (.int (nI (y / 4096 % 10)))) (by omega) (hO.tr hO2) (by rw [en]; exact hG2) (by rw [en]; exact hx')
        rw [en] at this
        exact this
      · have hin : drQ y ∈ (drN s' k).2 := hin
        rw [if_pos hin] at en
        refine rt_if_ne rfl (fun _ => ?_) (fun hc => absurd hc (by decide))
        refine rt_run 2 rfl ?_
        rw [← nI_succ]
        have := ih (k + 1) τ' (some (.int (nI (y / 65536 % 10)))) (some (.int (nI (y / 1024 % 4)))) (some (.int (nI (y / 4096 % 10)))) (by omega) hO (by rw [en]; exact hG) (by rw [en]; exact hx')
        rw [en] at this
        exact this
  exact loop n' 0 _ none none none (by omega) hO0 ⟨rfl, fun i q hq => by simp [drN] at hq, by simp [drN], fun q hq => by simp [drN] at hq⟩ (by show s' < 2 ^ 31; omega)
theorem tol_ok {w : Nat} (hC : CIs τ a) (hw : w < 7) (h : Q (some (.int (tolV a w))) τ) : RT mX10_told none 0 [some (.ref 0), some (.int (nI w))] [] τ Q := by
  refine rt_run 1 rfl ?_
  obtain ⟨c1, c2, c3⟩ := hC.2.2.2.2.2.2.2
  rcases (show w = 0 ∨ w = 1 ∨ w = 2 ∨ w = 3 ∨ w = 4 ∨ w = 5 ∨ w = 6 by omega) with rfl | rfl | rfl | rfl | rfl | rfl | rfl
  · refine rt_tsIn (off := 43) (tgt := 44) rfl (by decide) (by decide) rfl (by decide) ?_
    refine rt_run 2 rfl ?_
    rw [c1]
    exact rt_iret rfl rfl h
  · refine rt_tsIn (off := 48) (tgt := 49) rfl (by decide) (by decide) rfl (by decide) ?_
    refine rt_run 2 rfl ?_
    rw [c2]
    exact rt_iret rfl rfl h
  · refine rt_tsIn (off := 53) (tgt := 54) rfl (by decide) (by decide) rfl (by decide) ?_
    refine rt_run 2 rfl ?_
    rw [c3]
    exact rt_iret rfl rfl h
  · refine rt_tsIn (off := 58) (tgt := 59) rfl (by decide) (by decide) rfl (by decide) ?_
    refine rt_run 2 rfl ?_
    rw [hC.2.2.2.1.1]
    exact rt_iret rfl rfl h
  · refine rt_tsIn (off := 63) (tgt := 64) rfl (by decide) (by decide) rfl (by decide) ?_
    refine rt_run 3 rfl ?_
    rw [hC.1.1]
    exact rt_iret rfl rfl h
  · refine rt_tsIn (off := 71) (tgt := 72) rfl (by decide) (by decide) rfl (by decide) ?_
    refine rt_run 1 rfl ?_
    refine rt_cV (ci := 10) mX10_placesOfAll kX10_told_73 okX10_placesOfAll rfl rfl rfl rfl rfl ?_
    refine placesOfAll_spec hC ?_
    exact rt_iret rfl rfl h
  · refine rt_tsIn (off := 76) (tgt := 77) rfl (by decide) (by decide) rfl (by decide) ?_
    refine rt_run 3 rfl ?_
    rw [hC.2.2.2.2.2.2.1.1]
    exact rt_iret rfl rfl h
theorem told_spec {w : Int32} (hC : CIs τ a) (h : ∀ τ', OffC τ τ' → CIs τ' (tolA a w).2 → Q (some (.int (tolA a w).1)) τ') : RT mX10_told none 0 [some (.ref 0), some (.int w)] [] τ Q := by
  have out : (w.toInt < 0 ∨ 6 < w.toInt) → rn 7 w = none → RT mX10_told none 0 [some (.ref 0), some (.int w)] [] τ Q := by
    intro h1 h2
    refine rt_run 1 rfl ?_
    refine rt_tsOut (tgt := 85) rfl h1 (by decide) ?_
    refine rt_run 2 rfl ?_
    refine rt_cV (ci := 10) mX10_refuse kX10_told_88 okX10_refuse rfl rfl rfl rfl rfl ?_
    unfold tolA at h
    rw [h2] at h
    exact refuse_spec hC (Or.inl rfl) (fun τ' hO hC' => rt_iret rfl rfl (h τ' hO hC'))
  rcases pk_ix w (n := 7) (by decide) with g | g | ⟨w', hw, ew⟩
  · refine out (Or.inl ?_) (rn_out (Or.inl g))
    rw [Int32.lt_iff_toInt_lt] at g
    exact g
  · refine out (Or.inr ?_) (rn_out (Or.inr g))
    rw [Int32.le_iff_toInt_le] at g
    have : (nI 7).toInt = 7 := by decide
    omega
  · subst ew
    refine tol_ok hC hw ?_
    unfold tolA at h
    rw [rn_so hw (by decide)] at h
    exact h τ (OffC.rf _) hC
theorem digest_spec (hC : CIs τ a) (h : ∀ τ', OffC τ τ' → CIs τ' a → Q (some (.long (digI a))) τ') : RT mX10_digest none 0 [some (.ref 0), none, none, none] [] τ Q := by
  have hl30 := hC.1.2.2.1
  have loop4 : ∀ d k τ' h0, k + d = 3 → Off kX τ τ' → digI a = hR (fun j => stdV a (j + 1)) 3 h0 → RT mX10_digest none 150 [some (.ref 0), some (.long (hR (fun j => stdV a (j + 1)) k h0)), none, some (.int (nI (k + 1)))] [] τ' Q := by
    intro d
    induction d with
    | zero =>
      intro k τ' h0 hk hO e
      have : k = 3 := by omega
      subst this
      have hC1 : CIs τ' a := hC.scr hO.w (hC.2.2.2.2.2.1.eq hO.2)
      refine rt_run 2 rfl ?_
      refine rt_gt 4 3 rfl (by omega) (by omega) (fun _ => ?_) (fun _ => by omega)
      refine rt_run 1 rfl ?_
      rw [← e]
      exact rt_lret rfl rfl (h τ' (hO.c (by decide)) hC1)
    | succ d ih =>
      intro k τ' h0 hk hO e
      have hC1 : CIs τ' a := hC.scr hO.w (hC.2.2.2.2.2.1.eq hO.2)
      refine rt_run 2 rfl ?_
      refine rt_gt (k + 1) 3 rfl (by omega) (by omega) (fun _ => by omega) (fun _ => ?_)
      refine rt_run 5 rfl ?_
      refine rt_cV (ci := 10) mX10_standing kX10_digest_162 okX10_standing rfl rfl rfl rfl rfl ?_
      refine std_ok hC1 (by omega) ?_
      refine rt_run 5 rfl ?_
      rw [← nI_succ]
      exact ih (k + 1) τ' h0 (by omega) hO e
  have loop3 : ∀ d k τ' h0, k + d = 4 → Off kX τ τ' → digI a = hR (fun j => stdV a (j + 1)) 3 (hR (exV a) 4 h0) → RT mX10_digest none 103 [some (.ref 0), some (.long (hR (exV a) k h0)), none, some (.int (nI k))] [] τ' Q := by
    intro d
    induction d with
    | zero =>
      intro k τ' h0 hk hO e
      have : k = 4 := by omega
      subst this
      refine rt_run 2 rfl ?_
      refine rt_ge 4 4 rfl (by omega) (by omega) (fun _ => ?_) (fun _ => by omega)
      refine rt_run 2 rfl ?_
      exact loop4 3 0 τ' _ rfl hO e
    | succ d ih =>
      intro k τ' h0 hk hO e
      have hC1 : CIs τ' a := hC.scr hO.w (hC.2.2.2.2.2.1.eq hO.2)
      have hk4 : k < 4 := by omega
      obtain ⟨f0, f1, f2, f3, f4, a0, a1, h38⟩ := isE_f (isE_x hk4)
      refine rt_run 2 rfl ?_
      refine rt_ge k 4 rfl (by omega) (by omega) (fun _ => by omega) (fun _ => ?_)
      refine rt_run 6 rfl ?_
      refine rt_aald rfl hk4 ?_
      refine rt_getI rfl f4 ?_
      have hs : hR (exV a) (k + 1) h0 = 31 * hR (exV a) k h0 + (exV a k).toInt64 := rfl
      rcases hC1.2.2.2.2.1.told hk4 with ⟨hA, e4⟩ | ⟨A, hA, e4, hE⟩
      · rw [e4]
        refine rt_if_eq rfl (fun _ => ?_) (fun hc => absurd rfl hc)
        refine rt_run 6 rfl ?_
        have := ih (k + 1) τ' h0 (by omega) hO e
        rw [hs, show exV a k = -1 by unfold exV; rw [hA], nI_succ] at this
        exact this
      · rw [e4]
        refine rt_if_eq rfl (fun hc => absurd hc (by decide)) (fun _ => ?_)
        refine rt_run 4 rfl ?_
        refine rt_aald rfl hk4 ?_
        refine rt_cV (ci := 10) mX10_answersOf kX10_digest_132 okX10_answersOf rfl rfl rfl rfl rfl ?_
        refine answersOf_spec (isE_x hk4) hE hC1.2.1 (hC1.1.ok _) (fun τ2 hO2 => ?_)
        refine rt_run 1 rfl ?_
        refine rt_run 5 rfl ?_
        have := ih (k + 1) τ2 h0 (by omega) (hO.tr (hO2.up (by decide))) e
        rw [hs, show exV a k = anI (aS a) A by unfold exV; rw [hA], nI_succ] at this
        exact this
  have loop2 : ∀ d k h0, k + d = (aG a).length → digI a = hR (fun j => stdV a (j + 1)) 3 (hR (exV a) 4 (hR (fun j => ofV (aG a) (j / 3) (j % 3)) (3 * (aG a).length) h0)) → RT mX10_digest none 33 [some (.ref 0), some (.long (hR (fun j => ofV (aG a) (j / 3) (j % 3)) (3 * k) h0)), none, some (.int (nI k))] [] τ Q := by
    intro d
    induction d with
    | zero =>
      intro k h0 hk e
      have : k = (aG a).length := by omega
      subst this
      refine rt_run 4 rfl ?_
      refine rt_ge (aG a).length (aG a).length rfl (by omega) (by omega) (fun _ => ?_) (fun _ => by omega) rfl hC.1.1
      refine rt_run 2 rfl ?_
      exact loop3 4 0 τ _ rfl (Off.rf _ _) e
    | succ d ih =>
      intro k h0 hk e
      refine rt_run 4 rfl ?_
      refine rt_ge k (aG a).length rfl (by omega) (by omega) (fun _ => by omega) (fun hlt => ?_) rfl hC.1.1
      have hq : (aG a)[k]? = some (aG a)[k] := List.getElem?_eq_getElem hlt
      obtain ⟨g1, g2, g3⟩ := hC.1.2.1 k _ hq
      refine rt_run 7 rfl ?_
      refine rt_ld k rfl (n := 30) rfl (by omega) ?_
      rw [g1]
      refine rt_run 10 rfl ?_
      refine rt_ld k rfl (n := 30) rfl (by omega) ?_
      rw [g2]
      refine rt_run 10 rfl ?_
      refine rt_ld k rfl (n := 30) rfl (by omega) ?_
      rw [g3]
      refine rt_run 5 rfl ?_
      have := ih (k + 1) h0 (by omega) e
      rw [show 3 * (k + 1) = 3 * k + 1 + 1 + 1 by omega] at this
      have e3 : hR (fun j => ofV (aG a) (j / 3) (j % 3)) (3 * k + 1 + 1 + 1) h0 = 31 * (31 * (31 * hR (fun j => ofV (aG a) (j / 3) (j % 3)) (3 * k) h0 + (nI (aG a)[k].1).toInt64) + (nI (aG a)[k].2.1).toInt64) + (nI (aG a)[k].2.2).toInt64 := by
        show 31 * (31 * (31 * _ + (ofV (aG a) (3 * k / 3) (3 * k % 3)).toInt64) + (ofV (aG a) ((3 * k + 1) / 3) ((3 * k + 1) % 3)).toInt64) + (ofV (aG a) ((3 * k + 1 + 1) / 3) ((3 * k + 1 + 1) % 3)).toInt64 = _
        rw [show 3 * k / 3 = k by omega, show 3 * k % 3 = 0 by omega, show (3 * k + 1) / 3 = k by omega, show (3 * k + 1) % 3 = 1 by omega, show (3 * k + 1 + 1) / 3 = k by omega, show (3 * k + 1 + 1) % 3 = 2 by omega]
        simp [ofV, hq]
      rw [e3, nI_succ] at this
      exact this
  have loop1 : ∀ d k, k + d = 7 → RT mX10_digest none 6 [some (.ref 0), some (.long (hR (tolV a) k 1931)), none, some (.int (nI k))] [] τ Q := by
    intro d
    induction d with
    | zero =>
      intro k hk
      have : k = 7 := by omega
      subst this
      refine rt_run 2 rfl ?_
      refine rt_gt 7 6 rfl (by omega) (by omega) (fun _ => ?_) (fun _ => by omega)
      refine rt_run 2 rfl ?_
      exact loop2 (aG a).length 0 _ (by omega) rfl
    | succ d ih =>
      intro k hk
      refine rt_run 2 rfl ?_
      refine rt_gt k 6 rfl (by omega) (by omega) (fun _ => by omega) (fun _ => ?_)
      refine rt_run 5 rfl ?_
      refine rt_cV (ci := 10) mX10_told kX10_digest_19 okX10_told rfl rfl rfl rfl rfl ?_
      refine tol_ok hC (by omega) ?_
      refine rt_run 5 rfl ?_
      rw [← nI_succ]
      exact ih (k + 1) (by omega)
  refine rt_run 4 rfl ?_
  exact loop1 7 0 rfl
end ClRest

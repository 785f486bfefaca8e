/-! the reference's amiss, answers, ends, pairs, far, bridge, stand, standing, kept, told, digest, draw -/
theorem lev_cnt {L : SL} {A : AE} {v : Nat} (hL : StOk L) (hA : AEwf A) (hv : v < 10) (n w p : Nat) (h : Lev L A v n w p) : n + 1 ≤ cntS (seeB L A v n) := by
  induction n generalizing w p with
  | zero =>
    have hlt := Bk_lt hL hA hv h.1
    have : 0 < cntS (seeB L A v 0) := List.countP_pos_iff.mpr ⟨(w, p), prs_mem hlt.1 hlt.2, seeB_iff.mpr ⟨0, Nat.le_refl _, h.1⟩⟩
    omega
  | succ n ih =>
    have hlt := Bk_lt hL hA hv h.1
    obtain ⟨st, hs, e1, q, a1, a2, hb⟩ := h.1
    have h1 := ih st.2.2.1 q ⟨hb, fun m hm hbm => h.2 (m + 1) (by omega) ⟨st, hs, e1, q, a1, a2, hbm⟩⟩
    have h2 : cntS (seeB L A v n) < cntS (seeB L A v (n + 1)) := by
      refine countP_lt (fun x _ hx => ?_) (prs_mem hlt.1 hlt.2) ?_ ?_
      · obtain ⟨m, hm, hb⟩ := seeB_iff.mp hx
        exact seeB_iff.mpr ⟨m, by omega, hb⟩
      · rw [Bool.eq_false_iff]
        intro hs
        obtain ⟨m, hm, hb⟩ := seeB_iff.mp hs
        exact h.2 m (by omega) hb
      · exact seeB_iff.mpr ⟨n + 1, Nat.le_refl _, h.1⟩
    omega
theorem farO_lev {L : SL} {A : AE} {u v n : Nat} (h : farO L A u v = some n) : Lev L A v n u 0 := by
  unfold farO at h
  split at h
  · rename_i hh
    cases h
    exact hh.choose_spec
  · cases h
theorem farO_lt {L : SL} {A : AE} {u v n : Nat} (hL : StOk L) (hA : AEwf A) (hv : v < 10) (h : farO L A u v = some n) : n < 250 := by
  have h1 := lev_cnt hL hA hv n u 0 (farO_lev h)
  have h2 := cntS_le (seeB L A v n)
  omega
theorem farO_ans {L : SL} {A : AE} {u v : Nat} : farO L A u v = none ↔ ansB L A u v = false := by
  constructor
  · intro h
    rw [Bool.eq_false_iff]
    intro ha
    obtain ⟨n, hn, hmin⟩ := pk_least _ (Ans_Bk.mp (ansB_iff.mp ha))
    rw [farO_so ⟨hn, hmin⟩] at h
    cases h
  · intro h
    refine farO_no (fun m hb => ?_)
    rw [ansB_iff.mpr (Ans_Bk.mpr ⟨m, hb⟩)] at h
    cases h
theorem far_m1 {L : SL} {A : AE} {u v : Nat} (hL : StOk L) (hA : AEwf A) (hv : v < 10) : wI (farO L A u v) = -1 ↔ ansB L A u v = false := by
  rw [← farO_ans]
  constructor
  · intro h
    cases hf : farO L A u v with
    | none => rfl
    | some n =>
      rw [hf] at h
      exact absurd h (neg1 (by have := farO_lt hL hA hv hf; omega))
  · intro h
    rw [h]
    rfl
theorem on_bc_row (G : Gr) (X : Nat → Option AE) (w : Option Nat) (u : Nat) : onI (rowI G X w u) = bcI (rowI G X w u) := by
  unfold rowI
  cases w with
  | none =>
    show onI 0 = bcI 0
    decide +kernel
  | some x =>
    dsimp only
    cases X x with
    | none =>
      show onI 0 = bcI 0
      decide +kernel
    | some A =>
      dsimp only
      rw [on_vb _ 10 (by decide), bc_vb _ 10 (by decide)]
theorem MI1.of2 {ks fs : List Nat} {τ τ' : Ty} {a : AS} (h : MI1 τ a) (ho : OfM ks fs τ τ') (hk : 64 ∉ ks ∧ 65 ∉ ks ∧ 66 ∉ ks ∧ 67 ∉ ks ∧ 68 ∉ ks ∧ 69 ∉ ks ∧ 70 ∉ ks) (hf : 1 ∉ fs ∧ 4 ∉ fs ∧ 9 ∉ fs ∧ 11 ∉ fs ∧ 12 ∉ fs) (h32 : gF τ' 63 32 = -1) : MI1 τ' a := by
  obtain ⟨h1, h2, h3, h4, h5, h6⟩ := h
  refine ⟨h1.of ho ⟨hk.1, hf.1⟩, ?_, h3.of ho ⟨hk.2.2.2.1, hk.2.2.2.2⟩, ?_, ?_, h32⟩
  · unfold MTx at *
    rw [ho.2.2.1 4 hf.2.1, (ho.1 66 hk.2.2.1).1]
    exact h2
  · unfold MS0 at *
    rw [ho.2.2.1 9 hf.2.2.1, ho.2.2.1 11 hf.2.2.2.1, ho.2.2.1 12 hf.2.2.2.2]
    exact h4
  · unfold MCt at *
    rw [(ho.1 65 hk.2.1).1]
    exact h5
theorem MXs.told {τ : Ty} {X : Nat → Option AE} {x : Nat} (h : MXs τ X) (hx : x < 4) : (X x = none ∧ gI τ 67 x = -1) ∨ ∃ A, X x = some A ∧ gI τ 67 x = nI A.2.2.2 ∧ A.2.2.2 ≤ 24 ∧ MEx τ x A := by
  have := h x hx
  cases hX : X x with
  | none => rw [hX] at this; exact Or.inl ⟨rfl, this⟩
  | some A => rw [hX] at this; exact Or.inr ⟨A, rfl, this.1, this.2.2.2.2.1, this.2⟩
section MdAsk
variable {τ : Ty} {Q : Option Value → Ty → Prop} {a : AS}
theorem amiss_spec {x u v : Int32} (hM : MIs τ a) (hbad : (∀ f, rtA a x u v f = rfA (-2) a) → Q (some (.int (-2))) τ) (hno : (∀ f, rtA a x u v f = rfA (-3) a) → Q (some (.int (-3))) τ)
    (hok : ∀ i j k A, i < 4 → j < 10 → k < 10 → x = nI i → u = nI j → v = nI k → aX a i = some A → MEx τ i A → (∀ f, rtA a x u v f = f A j k) → Q (some (.int 0)) τ) :
    RT mX11_amiss none 0 [some (.ref 63), some (.int x), some (.int u), some (.int v)] [] τ Q := by
  have no : (∀ f, rtA a x u v f = rfA (-2) a) → RT mX11_amiss none 21 [some (.ref 63), some (.int x), some (.int u), some (.int v)] [] τ Q := by
    intro e
    refine rt_run 2 rfl ?_
    exact rt_iret rfl rfl (hbad e)
  refine rt_run 1 rfl ?_
  refine rt_cS mX11_isOne kX11_amiss_1 okX11_isOne rfl rfl ?_
  refine mOne_spec (fun hh => ?_) (fun i hi ei => ?_)
  · exact rt_if_eq rfl (fun _ => no (fun f => by unfold rtA; rw [hh])) (fun hc => absurd rfl hc)
  subst ei
  refine rt_if_eq rfl (fun hc => absurd hc (by decide)) (fun _ => ?_)
  refine rt_run 1 rfl ?_
  refine rt_cS mX11_isVertex kX11_amiss_8 okX11_isVertex rfl rfl ?_
  refine mVertex_spec (fun hh => ?_) (fun j hj ej => ?_)
  · exact rt_if_eq rfl (fun _ => no (fun f => by unfold rtA; rw [rn_so hi (by decide)]; dsimp only; rw [hh])) (fun hc => absurd rfl hc)
  subst ej
  refine rt_if_eq rfl (fun hc => absurd hc (by decide)) (fun _ => ?_)
  refine rt_run 1 rfl ?_
  refine rt_cS mX11_isVertex kX11_amiss_15 okX11_isVertex rfl rfl ?_
  refine mVertex_spec (fun hh => ?_) (fun k hk ek => ?_)
  · exact rt_if_ne rfl (fun hc => absurd rfl hc) (fun _ => no (fun f => by unfold rtA; rw [rn_so hi (by decide)]; dsimp only; rw [rn_so hj (by decide)]; dsimp only; rw [hh]))
  subst ek
  refine rt_if_ne rfl (fun _ => ?_) (fun hc => absurd hc (by decide))
  refine rt_run 3 rfl ?_
  refine rt_ld i rfl (n := 4) rfl hi ?_
  rcases hM.1.2.2.1.told hi with ⟨hX, e⟩ | ⟨A, hX, e, hA, hE⟩
  · rw [e]
    refine rt_if_ge rfl (fun hc => absurd hc (by decide)) (fun _ => ?_)
    refine rt_run 2 rfl ?_
    exact rt_iret rfl rfl (hno (fun f => by rw [rtA_ok hi hj hk, hX]))
  · rw [e]
    refine rt_if_ge rfl (fun _ => ?_) (fun hc => absurd (nI_pos' (by omega)) hc)
    refine rt_run 1 rfl ?_
    exact rt_iret rfl rfl (hok i j k A hi hj hk rfl rfl rfl hX hE (fun f => by rw [rtA_ok hi hj hk, hX]))
theorem mw0 (hM : MIs τ a) : gF τ 63 32 = wI none := hM.1.2.2.2.2.2
theorem MIs.far {τ τ' : Ty} {a : AS} (hM : MIs τ a) (hO : OfM [78, 79, 80] [] τ τ') : MIs τ' a := hM.of hO (by decide) (by decide) (by decide)
theorem mAnswers_spec {x u v : Int32} (hM : MIs τ a) (h : ∀ τ', OffD τ τ' → MIs τ' (ansA a x u v).2 → Q (some (.int (ansA a x u v).1)) τ') : RT mX11_answers none 0 [some (.ref 63), some (.int x), some (.int u), some (.int v), none] [] τ Q := by
  have rf : ∀ r : Int32, (r = -2 ∨ r = -3 ∨ r = -4) → ansA a x u v = rfA r a → RT mX11_answers none 7 [some (.ref 63), some (.int x), some (.int u), some (.int v), none] [.int r] τ Q := by
    intro r hr e
    rw [e] at h
    refine rt_run 2 rfl ?_
    refine rt_if_eq rfl (fun hc => by rcases hr with rfl | rfl | rfl <;> cases hc) (fun _ => ?_)
    refine rt_run 2 rfl ?_
    refine rt_cV (ci := 11) mX11_refuses kX11_answers_17 okX11_refuses rfl rfl rfl rfl rfl ?_
    refine refuses_spec hM hr (fun τ' hO hC' => ?_)
    refine rt_run 1 rfl ?_
    exact rt_iret rfl rfl (h τ' hO hC')
  refine rt_run 4 rfl ?_
  refine rt_cV (ci := 11) mX11_amiss kX11_answers_4 okX11_amiss rfl rfl rfl rfl rfl ?_
  refine amiss_spec hM (fun e => rf _ (Or.inl rfl) (e _)) (fun e => rf _ (Or.inr (Or.inl rfl)) (e _)) (fun i j k A hi hj hk ei ej ek hX hE e => ?_)
  unfold ansA at h
  rw [e] at h
  subst ei ej ek
  have hL := hM.1.1.ok none
  refine rt_run 2 rfl ?_
  refine rt_if_eq rfl (fun _ => ?_) (fun hc => absurd rfl hc)
  refine rt_run 4 rfl ?_
  refine rt_cV (ci := 11) mX11_farOf kX11_answers_27 okX11_farOf rfl rfl rfl rfl rfl ?_
  refine farOf_spec (v := some k) hi hj (fun y hy => by cases hy; exact hk) hM.1.1 (mw0 hM) (fun e he => by cases he) hE (fun y hy τ1 hO1 => ?_) (fun hc => by cases hc)
  cases hy
  refine rt_run 1 rfl ?_
  have hM1 := hM.far hO1
  refine rt_ic_ne rfl (fun hne => ?_) (fun heq => ?_)
  · refine rt_run 1 rfl ?_
    have : ansB (aS a) A j k = true := by
      cases hb : ansB (aS a) A j k with
      | true => rfl
      | false => exact absurd ((far_m1 hL hE.2.2.2 hk).mpr hb) hne
    have hq := h τ1 (hO1.d (by decide)) hM1
    rw [this] at hq
    exact rt_iret rfl rfl hq
  · refine rt_run 2 rfl ?_
    have : ansB (aS a) A j k = false := (far_m1 hL hE.2.2.2 hk).mp heq
    have hq := h τ1 (hO1.d (by decide)) hM1
    rw [this] at hq
    exact rt_iret rfl rfl hq
theorem mEnds_spec {x u : Int32} (hM : MIs τ a) (h : ∀ τ', OffD τ τ' → MIs τ' (endA a x u).2 → Q (some (.int (endA a x u).1)) τ') : RT mX11_ends none 0 [some (.ref 63), some (.int x), some (.int u), none] [] τ Q := by
  have rf : ∀ r : Int32, (r = -2 ∨ r = -3 ∨ r = -4) → endA a x u = rfA r a → RT mX11_ends none 7 [some (.ref 63), some (.int x), some (.int u), none] [.int r] τ Q := by
    intro r hr e
    rw [e] at h
    refine rt_run 2 rfl ?_
    refine rt_if_eq rfl (fun hc => by rcases hr with rfl | rfl | rfl <;> cases hc) (fun _ => ?_)
    refine rt_run 2 rfl ?_
    refine rt_cV (ci := 11) mX11_refuses kX11_ends_14 okX11_refuses rfl rfl rfl rfl rfl ?_
    refine refuses_spec hM hr (fun τ' hO hC' => ?_)
    refine rt_run 1 rfl ?_
    exact rt_iret rfl rfl (h τ' hO hC')
  refine rt_run 4 rfl ?_
  refine rt_cV (ci := 11) mX11_amiss kX11_ends_4 okX11_amiss rfl rfl rfl rfl rfl ?_
  refine amiss_spec hM (fun e => rf _ (Or.inl rfl) (e _)) (fun e => rf _ (Or.inr (Or.inl rfl)) (e _)) (fun i j k A hi hj hk ei ej ek hX hE e => ?_)
  unfold endA at h
  rw [e] at h
  subst ei ej
  refine rt_run 2 rfl ?_
  refine rt_if_eq rfl (fun _ => ?_) (fun hc => absurd rfl hc)
  refine rt_run 3 rfl ?_
  refine rt_cV (ci := 11) mX11_endsOf kX11_ends_23 okX11_endsOf rfl rfl rfl rfl rfl ?_
  refine endsOf_spec hi hj hM.1.1 (mw0 hM) (fun e he => by cases he) hE (fun τ1 hO1 => ?_)
  exact rt_iret rfl rfl (h τ1 (hO1.d (by decide)) (hM.far hO1))
theorem pairsOf_spec {i : Nat} {A : AE} (hM : MIs τ a) (hi : i < 4) (hX : aX a i = some A) (h : ∀ τ', OfM [78, 79, 80] [] τ τ' → Q (some (.int (anI (aS a) A))) τ') : RT mX11_pairsOf none 0 [some (.ref 63), some (.int (nI i)), none, none] [] τ Q := by
  have loop : ∀ d u τ', u + d = 10 → OfM [78, 79, 80] [] τ τ' → RT mX11_pairsOf none 4 [some (.ref 63), some (.int (nI i)), some (.int (smI (fun u => bcI (vb (ansB (aS a) A u) 10)) u)), some (.int (nI u))] [] τ' Q := by
    intro d
    induction d with
    | zero =>
      intro u τ' hu hO
      have : u = 10 := by omega
      subst this
      refine rt_run 2 rfl ?_
      refine rt_ge 10 10 rfl (by omega) (by omega) (fun _ => ?_) (fun _ => by omega)
      refine rt_run 1 rfl ?_
      exact rt_iret rfl rfl (h τ' hO)
    | succ d ih =>
      intro u τ' hu hO
      have hM' := hM.far hO
      have hE' : MEx τ' i A := by
        rcases hM'.1.2.2.1.told hi with ⟨hX', e⟩ | ⟨A', hX', e, hA, hE⟩
        · rw [hX] at hX'; cases hX'
        · rw [hX] at hX'; cases hX'; exact hE
      refine rt_run 2 rfl ?_
      refine rt_ge u 10 rfl (by omega) (by omega) (fun _ => by omega) (fun hu10 => ?_)
      refine rt_run 4 rfl ?_
      refine rt_cV (ci := 11) mX11_endsOf kX11_pairsOf_14 okX11_endsOf rfl rfl rfl rfl rfl ?_
      refine endsOf_spec hi hu10 hM'.1.1 (mw0 hM') (fun e he => by cases he) hE' (fun τ1 hO1 => ?_)
      refine rt_cS mX11_ones kX11_pairsOf_17 okX11_ones rfl rfl ?_
      refine ones_spec ?_
      refine rt_run 4 rfl ?_
      have := ih (u + 1) τ1 (by omega) (hO.tr hO1)
      rw [nI_succ, show smI (fun u => bcI (vb (ansB (aS a) A u) 10)) (u + 1) = smI (fun u => bcI (vb (ansB (aS a) A u) 10)) u + bcI (vb (ansB (aS a) A u) 10) from rfl, bc_vb _ 10 (by decide), ← on_vb _ 10 (by decide)] at this
      exact this
  refine rt_run 4 rfl ?_
  exact loop 10 0 τ rfl (OfM.rf _ _ _)
theorem mPairs_spec {x : Int32} (hM : MIs τ a) (h : ∀ τ', OffD τ τ' → MIs τ' (paiA a x).2 → Q (some (.int (paiA a x).1)) τ') : RT mX11_pairs none 0 [some (.ref 63), some (.int x), none] [] τ Q := by
  have rf : ∀ r : Int32, (r = -2 ∨ r = -3 ∨ r = -4) → paiA a x = rfA r a → RT mX11_pairs none 7 [some (.ref 63), some (.int x), none] [.int r] τ Q := by
    intro r hr e
    rw [e] at h
    refine rt_run 2 rfl ?_
    refine rt_if_eq rfl (fun hc => by rcases hr with rfl | rfl | rfl <;> cases hc) (fun _ => ?_)
    refine rt_run 2 rfl ?_
    refine rt_cV (ci := 11) mX11_refuses kX11_pairs_14 okX11_refuses rfl rfl rfl rfl rfl ?_
    refine refuses_spec hM hr (fun τ' hO hC' => ?_)
    refine rt_run 1 rfl ?_
    exact rt_iret rfl rfl (h τ' hO hC')
  refine rt_run 4 rfl ?_
  refine rt_cV (ci := 11) mX11_amiss kX11_pairs_4 okX11_amiss rfl rfl rfl rfl rfl ?_
  refine amiss_spec hM (fun e => rf _ (Or.inl rfl) (e _)) (fun e => rf _ (Or.inr (Or.inl rfl)) (e _)) (fun i j k A hi hj hk ei ej ek hX hE e => ?_)
  unfold paiA at h
  rw [e] at h
  subst ei
  refine rt_run 2 rfl ?_
  refine rt_if_eq rfl (fun _ => ?_) (fun hc => absurd rfl hc)
  refine rt_run 2 rfl ?_
  refine rt_cV (ci := 11) mX11_pairsOf kX11_pairs_22 okX11_pairsOf rfl rfl rfl rfl rfl ?_
  refine pairsOf_spec hM hi hX (fun τ1 hO1 => ?_)
  exact rt_iret rfl rfl (h τ1 (hO1.d (by decide)) (hM.far hO1))
theorem mFar_spec {x u v : Int32} (hM : MIs τ a) (h : ∀ τ', OffD τ τ' → MIs τ' (farA a x u v).2 → Q (some (.int (farA a x u v).1)) τ') : RT mX11_far none 0 [some (.ref 63), some (.int x), some (.int u), some (.int v), none] [] τ Q := by
  have rf : ∀ r : Int32, (r = -2 ∨ r = -3 ∨ r = -4) → farA a x u v = rfA r a → RT mX11_far none 7 [some (.ref 63), some (.int x), some (.int u), some (.int v), none] [.int r] τ Q := by
    intro r hr e
    rw [e] at h
    refine rt_run 2 rfl ?_
    refine rt_if_eq rfl (fun hc => by rcases hr with rfl | rfl | rfl <;> cases hc) (fun _ => ?_)
    refine rt_run 2 rfl ?_
    refine rt_cV (ci := 11) mX11_refuses kX11_far_17 okX11_refuses rfl rfl rfl rfl rfl ?_
    refine refuses_spec hM hr (fun τ' hO hC' => ?_)
    refine rt_run 1 rfl ?_
    exact rt_iret rfl rfl (h τ' hO hC')
  refine rt_run 4 rfl ?_
  refine rt_cV (ci := 11) mX11_amiss kX11_far_4 okX11_amiss rfl rfl rfl rfl rfl ?_
  refine amiss_spec hM (fun e => rf _ (Or.inl rfl) (e _)) (fun e => rf _ (Or.inr (Or.inl rfl)) (e _)) (fun i j k A hi hj hk ei ej ek hX hE e => ?_)
  unfold farA at h
  rw [e] at h
  subst ei ej ek
  refine rt_run 2 rfl ?_
  refine rt_if_eq rfl (fun _ => ?_) (fun hc => absurd rfl hc)
  refine rt_run 4 rfl ?_
  refine rt_cV (ci := 11) mX11_farOf kX11_far_27 okX11_farOf rfl rfl rfl rfl rfl ?_
  refine farOf_spec (v := some k) hi hj (fun y hy => by cases hy; exact hk) hM.1.1 (mw0 hM) (fun e he => by cases he) hE (fun y hy τ1 hO1 => ?_) (fun hc => by cases hc)
  cases hy
  exact rt_iret rfl rfl (h τ1 (hO1.d (by decide)) (hM.far hO1))
theorem mBridge_spec {x u v : Int32} (hM : MIs τ a) (h : ∀ τ', OffD τ τ' → MIs τ' (briA a x u v).2 → Q (some (.int (briA a x u v).1)) τ') : RT mX11_bridge none 0 [some (.ref 63), some (.int x), some (.int u), some (.int v), none, none, none] [] τ Q := by
  have hl30 := hM.1.1.2.2.1
  have rf : ∀ r : Int32, (r = -2 ∨ r = -3 ∨ r = -4) → briA a x u v = rfA r a → RT mX11_bridge none 7 [some (.ref 63), some (.int x), some (.int u), some (.int v), none, none, none] [.int r] τ Q := by
    intro r hr e
    rw [e] at h
    refine rt_run 2 rfl ?_
    refine rt_if_eq rfl (fun hc => by rcases hr with rfl | rfl | rfl <;> cases hc) (fun _ => ?_)
    refine rt_run 2 rfl ?_
    refine rt_cV (ci := 11) mX11_refuses kX11_bridge_17 okX11_refuses rfl rfl rfl rfl rfl ?_
    exact refuses_spec hM hr (fun τ' hO hC' => rt_iret rfl rfl (h τ' hO hC'))
  refine rt_run 4 rfl ?_
  refine rt_cV (ci := 11) mX11_amiss kX11_bridge_4 okX11_amiss rfl rfl rfl rfl rfl ?_
  refine amiss_spec hM (fun e => rf _ (Or.inl rfl) (e _)) (fun e => rf _ (Or.inr (Or.inl rfl)) (e _)) (fun i j k A hi hj hk ei ej ek hX hE e => ?_)
  unfold briA at h
  rw [e] at h
  subst ei ej ek
  have fin : ∀ τ' (r : Int32) (l6 : Option Value), OfM [78, 79, 80] [32] τ τ' → r = brI (aG a) A j k → RT mX11_bridge none 80 [some (.ref 63), some (.int (nI i)), some (.int (nI j)), some (.int (nI k)), some (.int 0), some (.int r), l6] [] τ' Q := by
    intro τ' r l6 hO er
    refine rt_run 4 rfl ?_
    rw [er]
    have hO2 : OfM [78, 79, 80] [32] τ (sF τ' 63 32 (-1)) := hO.sF (by simp) _
    refine rt_iret rfl rfl (h _ (hO2.d (by decide)) ⟨hM.1.of2 hO2 (by decide) (by decide) rfl, fun u hu => ?_⟩)
    rw [(hO2.1 71 (by decide)).1]
    exact hM.2 u hu
  refine rt_run 2 rfl ?_
  refine rt_if_eq rfl (fun _ => ?_) (fun hc => absurd rfl hc)
  refine rt_run 6 rfl ?_
  refine rt_cV (ci := 11) mX11_farOf kX11_bridge_28 okX11_farOf rfl rfl rfl rfl rfl ?_
  refine farOf_spec (v := some k) hi hj (fun y hy => by cases hy; exact hk) hM.1.1 (mw0 hM) (fun e he => by cases he) hE (fun y hy τ1 hO1 => ?_) (fun hc => by cases hc)
  cases hy
  have hO1' : OfM [78, 79, 80] [32] τ τ1 := hO1.up (by decide) (by decide)
  refine rt_run 1 rfl ?_
  refine rt_ic_eq rfl (fun heq => ?_) (fun hne => ?_)
  · refine fin τ1 (-1) none hO1' ?_
    have hn := farO_ans.mpr ((far_m1 (hM.1.1.ok none) hE.2.2.2 hk).mp heq)
    unfold brI
    rw [hn]
  · have hsome : ∃ n, farO (stL (aG a) none) A j k = some n := by
      cases hf : farO (stL (aG a) none) A j k with
      | none => exact absurd (by rw [hf]; rfl) hne
      | some n => exact ⟨n, rfl⟩
    obtain ⟨n0, hn0⟩ := hsome
    have loop : ∀ e τ', e ≤ (aG a).length → OfM [78, 79, 80] [32] τ τ' → RT mX11_bridge none 43 [some (.ref 63), some (.int (nI i)), some (.int (nI j)), some (.int (nI k)), some (.int 0), some (.int (wI (((List.range (aG a).length).drop e).find? (fun e => !ansB (stL (aG a) (some e)) A j k)))), some (.int (nI e - 1))] [] τ' Q := by
      intro e
      induction e with
      | zero =>
        intro τ' he hO
        refine rt_run 1 rfl ?_
        refine rt_if_lt rfl (fun _ => ?_) (fun hc => absurd (show nI 0 - 1 < 0 by decide) hc)
        refine fin τ' _ _ hO ?_
        unfold brI
        rw [hn0]
        rfl
      | succ e ih =>
        intro τ' he hO
        rw [nI_pred]
        refine rt_run 1 rfl ?_
        refine rt_if_lt rfl (fun hc => absurd hc (nI_pos (by omega))) (fun _ => ?_)
        refine rt_run 7 rfl ?_
        have hO2 : OfM [78, 79, 80] [32] τ (sF τ' 63 32 (nI e)) := hO.sF (by simp) _
        refine rt_cV (ci := 11) mX11_farOf kX11_bridge_58 okX11_farOf rfl rfl rfl rfl rfl ?_
        refine farOf_spec (v := some k) (w := some e) hi hj (fun y hy => by cases hy; exact hk) (hM.1.1.of hO2 (by decide)) rfl (fun e' he' => by cases he'; omega) (hE.of hO2 (by decide)) (fun y hy τ3 hO3 => ?_) (fun hc => by cases hc)
        cases hy
        have hO3' : OfM [78, 79, 80] [32] τ τ3 := hO2.tr (hO3.up (by decide) (by decide))
        have hdr : (List.range (aG a).length).drop e = e :: (List.range (aG a).length).drop (e + 1) := by
          rw [List.drop_eq_getElem_cons (by rw [List.length_range]; omega)]
          simp
        have hih := ih τ3 (by omega) hO3'
        rw [hdr, List.find?_cons, Int32.sub_eq_add_neg] at hih
        refine rt_run 1 rfl ?_
        refine rt_ic_ne rfl (fun hne2 => ?_) (fun heq2 => ?_)
        · have hb : ansB (stL (aG a) (some e)) A j k = true := by
            cases hb : ansB (stL (aG a) (some e)) A j k with
            | true => rfl
            | false => exact absurd ((far_m1 (hM.1.1.ok (some e)) hE.2.2.2 hk).mpr hb) hne2
          rw [hb] at hih
          refine rt_run 1 rfl ?_
          refine rt_run 3 rfl ?_
          exact hih
        · have hb : ansB (stL (aG a) (some e)) A j k = false := (far_m1 (hM.1.1.ok (some e)) hE.2.2.2 hk).mp heq2
          rw [hb] at hih
          refine rt_run 2 rfl ?_
          refine rt_run 3 rfl ?_
          exact hih
    refine rt_run 5 rfl ?_
    have hm1 : gF τ1 63 1 = nI (aG a).length := by rw [hO1.2.2.1 1 (by decide)]; exact hM.1.1.1
    rw [hm1]
    have := loop (aG a).length τ1 (Nat.le_refl _) hO1'
    rw [List.drop_of_length_le (by rw [List.length_range]; exact Nat.le_refl _)] at this
    exact this
theorem MIs.wh {τ τ' : Ty} {w : Option Nat} (hM : MIs τ a) (hO : OfM [71, 78, 79, 80] [9, 11, 12] τ τ') (h9 : gF τ' 63 9 = wI w) (h11 : gF τ' 63 11 = 0) (h12 : gF τ' 63 12 = 0) (hw : ∀ x, w = some x → x < 4 ∧ (aX a x).isSome = true) (hr : ∀ u, u < 10 → gI τ' 71 u = rowI (aG a) (aX a) w u) : MIs τ' (sWh a w) := by
  obtain ⟨⟨h1, h2, h3, h4, h5, h6⟩, h7⟩ := hM
  refine ⟨⟨h1.of hO (by decide), ?_, h3.of hO (by decide), ⟨h9, hw, h11, h12⟩, ?_, ?_⟩, hr⟩
  · unfold MTx at *
    rw [hO.2.2.1 4 (by decide), (hO.1 66 (by decide)).1]
    exact h2
  · unfold MCt at *
    rw [(hO.1 65 (by decide)).1]
    exact h5
  · rw [hO.2.2.1 32 (by decide)]
    exact h6
theorem mStand_spec {x : Int32} (hM : MIs τ a) (h : ∀ τ', OffD τ τ' → MIs τ' (staA a x).2 → Q (some (.int (staA a x).1)) τ') : RT mX11_stand none 0 [some (.ref 63), some (.int x), none, none] [] τ Q := by
  have main : ∀ w : Option Nat, (∀ x, w = some x → x < 4 ∧ (aX a x).isSome = true) → x = wI w → staA a x = (szI (sWh a w), sWh a w) → RT mX11_stand none 36 [some (.ref 63), some (.int x), none, none] [] τ Q := by
    intro w hw ex es
    rw [es] at h
    subst ex
    have loop : ∀ d u τ', u + d = 10 → OfM [71, 78, 79, 80] [9, 11, 12] τ τ' → gF τ' 63 9 = wI w → gF τ' 63 11 = 0 → gF τ' 63 12 = 0 → (∀ j, j < u → gI τ' 71 j = rowI (aG a) (aX a) w j) →
        RT mX11_stand none 55 [some (.ref 63), some (.int (wI w)), some (.int (smI (fun u => bcI (rowI (aG a) (aX a) w u)) u)), some (.int (nI u))] [] τ' Q := by
      intro d
      induction d with
      | zero =>
        intro u τ' hu hO h9 h11 h12 hr
        have : u = 10 := by omega
        subst this
        refine rt_run 2 rfl ?_
        refine rt_ge 10 10 rfl (by omega) (by omega) (fun _ => ?_) (fun _ => by omega)
        refine rt_run 1 rfl ?_
        exact rt_iret rfl rfl (h τ' (hO.d (by decide)) (hM.wh hO h9 h11 h12 hw hr))
      | succ d ih =>
        intro u τ' hu hO h9 h11 h12 hr
        refine rt_run 2 rfl ?_
        refine rt_ge u 10 rfl (by omega) (by omega) (fun _ => by omega) (fun hu10 => ?_)
        have tail : ∀ τ1, OfM [78, 79, 80] [] τ' τ1 → RT mX11_stand none 80 [some (.ref 63), some (.int (wI w)), some (.int (smI (fun u => bcI (rowI (aG a) (aX a) w u)) u)), some (.int (nI u))] [.int (rowI (aG a) (aX a) w u), .int (nI u), .ref 71] τ1 Q := by
          intro τ1 hO1
          refine rt_st u rfl (n := 10) rfl hu10 ?_
          refine rt_run 4 rfl ?_
          refine rt_ld u rfl (n := 10) rfl hu10 ?_
          rw [gI_sI, if_pos rfl, pk_us]
          refine rt_cS mX11_ones kX11_stand_88 okX11_ones rfl rfl ?_
          refine ones_spec ?_
          refine rt_run 4 rfl ?_
          have := ih (u + 1) (sI τ1 71 u (rowI (aG a) (aX a) w u)) (by omega) ((hO.tr (hO1.up (by decide) (by decide))).sI (by simp) _ _) ((hO1.2.2.1 9 (by decide)).trans h9) ((hO1.2.2.1 11 (by decide)).trans h11) ((hO1.2.2.1 12 (by decide)).trans h12) (fun j hj => ?_)
          · rw [nI_succ, show smI (fun u => bcI (rowI (aG a) (aX a) w u)) (u + 1) = smI (fun u => bcI (rowI (aG a) (aX a) w u)) u + bcI (rowI (aG a) (aX a) w u) from rfl, ← on_bc_row] at this
            exact this
          · rw [gI_sI, if_pos rfl]
            by_cases hju : j = u
            · subst hju; exact pk_us
            · rw [pk_un hju, (hO1.1 71 (by decide)).1]
              exact hr j (by omega)
        refine rt_run 4 rfl ?_
        cases w with
        | none =>
          refine rt_if_ge rfl (fun hc => absurd hc (by decide)) (fun _ => ?_)
          refine rt_run 2 rfl ?_
          exact tail τ' (OfM.rf _ _ _)
        | some i =>
          obtain ⟨hi, his⟩ := hw i rfl
          refine rt_if_ge rfl (fun _ => ?_) (fun hc => absurd (nI_pos' (n := i) (by omega)) hc)
          have hG' := hM.1.1.of hO (by decide)
          have h32' : gF τ' 63 32 = wI none := by rw [hO.2.2.1 32 (by decide)]; exact mw0 hM
          rcases hM.1.2.2.1.told hi with ⟨hX, -⟩ | ⟨A, hX, -, -, hE⟩
          · rw [hX] at his; cases his
          refine rt_run 3 rfl ?_
          refine rt_cV (ci := 11) mX11_endsOf kX11_stand_77 okX11_endsOf rfl rfl rfl rfl rfl ?_
          refine endsOf_spec hi hu10 hG' h32' (fun e he => by cases he) (hE.of hO (by decide)) (fun τ1 hO1 => ?_)
          have er : rowI (aG a) (aX a) (some i) u = vb (ansB (stL (aG a) none) A u) 10 := by
            unfold rowI
            dsimp only
            rw [hX]
          rw [← er]
          exact tail τ1 hO1
    refine rt_run 13 rfl ?_
    exact loop 10 0 _ rfl (((((OfM.rf _ _ τ).sF (by simp) _).sF (by simp) _).sF (by simp) _)) rfl rfl rfl (fun j hj => by omega)
  refine rt_run 3 rfl ?_
  refine rt_cS mX11_in kX11_stand_3 okX11_in rfl rfl ?_
  refine in_gen (fun hc => ?_) (fun hc hd => ?_)
  · refine rt_if_ne rfl (fun hc => absurd rfl hc) (fun _ => ?_)
    have e : staA a x = rfA (-2) a := by
      unfold staA
      have hne : ¬ x = -1 := by
        intro e
        subst e
        rcases hc with hc | hc
        · exact absurd hc (by decide)
        · exact absurd hc (by decide)
      rw [if_neg hne]
      have : rn 4 x = none := by
        refine rn_out ?_
        rcases hc with hc | hc
        · left
          rw [Int32.lt_iff_toInt_lt] at hc ⊢
          have e1 : (-1 : Int32).toInt = -1 := by decide
          have e2 : (0 : Int32).toInt = 0 := by decide
          omega
        · right
          rw [Int32.lt_iff_toInt_lt] at hc
          rw [Int32.le_iff_toInt_le]
          have e1 : (3 : Int32).toInt = 3 := by decide
          have e2 : (nI 4).toInt = 4 := by decide
          omega
      rw [this]
    rw [e] at h
    refine rt_run 2 rfl ?_
    refine rt_cV (ci := 11) mX11_refuses kX11_stand_12 okX11_refuses rfl rfl rfl rfl rfl ?_
    exact refuses_spec hM (Or.inl rfl) (fun τ' hO hC' => rt_iret rfl rfl (h τ' hO hC'))
  refine rt_if_ne rfl (fun _ => ?_) (fun hc => absurd hc (by decide))
  refine rt_run 1 rfl ?_
  rcases pk_ix x (n := 4) (by decide) with g | g | ⟨i, hi, ei⟩
  · have ex : x = -1 := by
      rw [Int32.lt_iff_toInt_lt] at g hc
      have e1 : (-1 : Int32).toInt = -1 := by decide
      have e2 : (0 : Int32).toInt = 0 := by decide
      exact Int32.toInt_inj.mp (by omega)
    refine rt_if_lt rfl (fun _ => ?_) (fun hn => absurd g hn)
    refine main none (fun x hx => by cases hx) ex ?_
    unfold staA
    rw [if_pos ex]
  · exfalso
    rw [Int32.lt_iff_toInt_lt] at hd
    rw [Int32.le_iff_toInt_le] at g
    have e1 : (3 : Int32).toInt = 3 := by decide
    have e2 : (nI 4).toInt = 4 := by decide
    omega
  · subst ei
    have hne : ¬ nI i = -1 := neg1 (by omega)
    refine rt_if_lt rfl (fun hc => absurd hc (nI_pos (by omega))) (fun _ => ?_)
    refine rt_run 3 rfl ?_
    refine rt_ld i rfl (n := 4) rfl hi ?_
    rcases hM.1.2.2.1.told hi with ⟨hX, e⟩ | ⟨A, hX, e, hA, hE⟩
    · rw [e]
      refine rt_if_ge rfl (fun hc => absurd hc (by decide)) (fun _ => ?_)
      refine rt_run 2 rfl ?_
      refine rt_cV (ci := 11) mX11_refuses kX11_stand_32 okX11_refuses rfl rfl rfl rfl rfl ?_
      have e : staA a (nI i) = rfA (-3) a := by
        unfold staA
        rw [if_neg hne, rn_so hi (by decide)]
        dsimp only
        rw [hX]
      rw [e] at h
      exact refuses_spec hM (Or.inr (Or.inl rfl)) (fun τ' hO hC' => rt_iret rfl rfl (h τ' hO hC'))
    · rw [e]
      refine rt_if_ge rfl (fun _ => ?_) (fun hc => absurd (nI_pos' (by omega)) hc)
      refine main (some i) (fun x hx => by cases hx; exact ⟨hi, by rw [hX]; rfl⟩) rfl ?_
      unfold staA
      rw [if_neg hne, rn_so hi (by decide)]
      dsimp only
      rw [hX]
theorem standingOf_spec {w : Nat} (hM : MIs τ a) (hw : w < 4) (h : Q (some (.int (stdV a w))) τ) : RT mX11_standingOf none 0 [some (.ref 63), some (.int (nI w)), none, none] [] τ Q := by
  have loop : ∀ d u, u + d = 10 → RT mX11_standingOf none 4 [some (.ref 63), some (.int (nI w)), some (.int (smI (fun u => bcI (rowI (aG a) (aX a) (aW a) u)) u)), some (.int (nI u))] [] τ Q := by
    intro d
    induction d with
    | zero =>
      intro u hu
      have : u = 10 := by omega
      subst this
      refine rt_run 2 rfl ?_
      refine rt_ge 10 10 rfl (by omega) (by omega) (fun _ => ?_) (fun _ => by omega)
      refine rt_run 1 rfl ?_
      rcases (show w = 0 ∨ w = 1 ∨ w = 2 ∨ w = 3 by omega) with rfl | rfl | rfl | rfl
      · refine rt_if_ne rfl (fun hc => absurd rfl hc) (fun _ => ?_)
        refine rt_run 3 rfl ?_
        rw [hM.1.2.2.2.1.1]
        exact rt_iret rfl rfl h
      · refine rt_if_ne rfl (fun _ => ?_) (fun hc => absurd hc (by decide))
        refine rt_run 2 rfl ?_
        refine rt_ne 1 1 rfl (by omega) (by omega) (fun hc => absurd rfl hc) (fun _ => ?_)
        refine rt_run 2 rfl ?_
        exact rt_iret rfl rfl h
      · refine rt_if_ne rfl (fun _ => ?_) (fun hc => absurd hc (by decide))
        refine rt_run 2 rfl ?_
        refine rt_ne 2 1 rfl (by omega) (by omega) (fun _ => ?_) (fun hc => by omega)
        refine rt_run 2 rfl ?_
        refine rt_ne 2 2 rfl (by omega) (by omega) (fun hc => absurd rfl hc) (fun _ => ?_)
        refine rt_run 3 rfl ?_
        rw [hM.1.2.2.2.1.2.2.1]
        exact rt_iret rfl rfl h
      · refine rt_if_ne rfl (fun _ => ?_) (fun hc => absurd hc (by decide))
        refine rt_run 2 rfl ?_
        refine rt_ne 3 1 rfl (by omega) (by omega) (fun _ => ?_) (fun hc => by omega)
        refine rt_run 2 rfl ?_
        refine rt_ne 3 2 rfl (by omega) (by omega) (fun _ => ?_) (fun hc => by omega)
        refine rt_run 2 rfl ?_
        rw [hM.1.2.2.2.1.2.2.2]
        exact rt_iret rfl rfl h
    | succ d ih =>
      intro u hu
      refine rt_run 2 rfl ?_
      refine rt_ge u 10 rfl (by omega) (by omega) (fun _ => by omega) (fun hu10 => ?_)
      refine rt_run 4 rfl ?_
      refine rt_ld u rfl (n := 10) rfl hu10 ?_
      rw [hM.2 u hu10]
      refine rt_cS mX11_ones kX11_standingOf_17 okX11_ones rfl rfl ?_
      refine ones_spec ?_
      refine rt_run 4 rfl ?_
      have := ih (u + 1) (by omega)
      rw [nI_succ, show smI (fun u => bcI (rowI (aG a) (aX a) (aW a) u)) (u + 1) = smI (fun u => bcI (rowI (aG a) (aX a) (aW a) u)) u + bcI (rowI (aG a) (aX a) (aW a) u) from rfl, ← on_bc_row] at this
      exact this
  refine rt_run 4 rfl ?_
  exact loop 10 0 rfl
theorem mStanding_spec {w : Int32} (hM : MIs τ a) (h : ∀ τ', OffD τ τ' → MIs τ' (stdA a w).2 → Q (some (.int (stdA a w).1)) τ') : RT mX11_standing none 0 [some (.ref 63), some (.int w)] [] τ Q := by
  refine rt_run 3 rfl ?_
  refine rt_cS mX11_in kX11_standing_3 okX11_in rfl rfl ?_
  unfold stdA at h
  refine in_spec 4 (by decide) rfl (fun hh => ?_) (fun w' hw ew => ?_)
  · rw [hh] at h
    refine rt_if_eq rfl (fun _ => ?_) (fun hc => absurd rfl hc)
    refine rt_run 2 rfl ?_
    refine rt_cV (ci := 11) mX11_refuses kX11_standing_20 okX11_refuses rfl rfl rfl rfl rfl ?_
    exact refuses_spec hM (Or.inl rfl) (fun τ' hO hC' => rt_iret rfl rfl (h τ' hO hC'))
  · subst ew
    rw [rn_so hw (by decide)] at h
    refine rt_if_eq rfl (fun hc => absurd hc (by decide)) (fun _ => ?_)
    refine rt_run 2 rfl ?_
    refine rt_cV (ci := 11) mX11_standingOf kX11_standing_11 okX11_standingOf rfl rfl rfl rfl rfl ?_
    refine standingOf_spec hM hw ?_
    refine rt_run 1 rfl ?_
    exact rt_iret rfl rfl (h τ (OffD.rf _) hM)
theorem mKept_spec {u v : Int32} (hM : MIs τ a) (h : ∀ τ', OffD τ τ' → MIs τ' (kepA a u v).2 → Q (some (.int (kepA a u v).1)) τ') : RT mX11_kept none 0 [some (.ref 63), some (.int u), some (.int v)] [] τ Q := by
  have no : kepA a u v = rfA (-2) a → RT mX11_kept none 14 [some (.ref 63), some (.int u), some (.int v)] [] τ Q := by
    intro ee
    rw [ee] at h
    refine rt_run 2 rfl ?_
    refine rt_cV (ci := 11) mX11_refuses kX11_kept_17 okX11_refuses rfl rfl rfl rfl rfl ?_
    exact refuses_spec hM (Or.inl rfl) (fun τ' hO hC' => rt_iret rfl rfl (h τ' hO hC'))
  refine rt_run 1 rfl ?_
  refine rt_cS mX11_isVertex kX11_kept_1 okX11_isVertex rfl rfl ?_
  refine mVertex_spec (fun hh => ?_) (fun u' hu eu => ?_)
  · exact rt_if_eq rfl (fun _ => no (by unfold kepA; rw [hh])) (fun hc => absurd rfl hc)
  subst eu
  refine rt_if_eq rfl (fun hc => absurd hc (by decide)) (fun _ => ?_)
  refine rt_run 1 rfl ?_
  refine rt_cS mX11_isVertex kX11_kept_8 okX11_isVertex rfl rfl ?_
  refine mVertex_spec (fun hh => ?_) (fun v' hv ev => ?_)
  · exact rt_if_ne rfl (fun hc => absurd rfl hc) (fun _ => no (by unfold kepA; rw [rn_so hu (by decide)]; dsimp only; rw [hh]))
  subst ev
  refine rt_if_ne rfl (fun _ => ?_) (fun hc => absurd hc (by decide))
  unfold kepA at h
  rw [rn_so hu (by decide)] at h
  dsimp only at h
  rw [rn_so hv (by decide)] at h
  dsimp only at h
  refine rt_run 2 rfl ?_
  rw [hM.1.2.2.2.1.1]
  cases hW : aW a with
  | none =>
    rw [hW] at h
    refine rt_if_ge rfl (fun hc => absurd hc (by decide)) (fun _ => ?_)
    refine rt_run 2 rfl ?_
    refine rt_cV (ci := 11) mX11_refuses kX11_kept_31 okX11_refuses rfl rfl rfl rfl rfl ?_
    refine refuses_spec hM (Or.inr (Or.inl rfl)) (fun τ' hO hC' => ?_)
    refine rt_run 1 rfl ?_
    exact rt_iret rfl rfl (h τ' hO hC')
  | some x =>
    have hx := (hM.1.2.2.2.1.2.1 x hW).1
    have hr := hM.2 u' hu
    rw [hW] at h hr
    refine rt_if_ge rfl (fun _ => ?_) (fun hc => absurd (nI_pos' (n := x) (by omega)) hc)
    refine rt_run 3 rfl ?_
    refine rt_ld u' rfl (n := 10) rfl hu ?_
    refine rt_run 4 rfl ?_
    rw [hr, b_t1 (by omega)]
    exact rt_iret rfl rfl (h τ (OffD.rf _) hM)
theorem toldOf_spec {w : Nat} (hM : MIs τ a) (hw : w < 7) (h : Q (some (.int (tolV a w))) τ) : RT mX11_toldOf none 0 [some (.ref 63), some (.int (nI w)), none, none] [] τ Q := by
  obtain ⟨c1, c2, c3⟩ := hM.1.2.2.2.2.1
  refine rt_run 3 rfl ?_
  rcases (show w = 0 ∨ w = 1 ∨ w = 2 ∨ w = 3 ∨ w = 4 ∨ w = 5 ∨ w = 6 by omega) with rfl | rfl | rfl | rfl | rfl | rfl | rfl
  · refine rt_tsIn (off := 37) (tgt := 40) rfl (by decide) (by decide) rfl (by decide) ?_
    refine rt_run 3 rfl ?_
    refine rt_ld 0 rfl (n := 3) rfl (by decide) ?_
    rw [c1]
    exact rt_iret rfl rfl h
  · refine rt_tsIn (off := 37) (tgt := 40) rfl (by decide) (by decide) rfl (by decide) ?_
    refine rt_run 3 rfl ?_
    refine rt_ld 1 rfl (n := 3) rfl (by decide) ?_
    rw [c2]
    exact rt_iret rfl rfl h
  · refine rt_tsIn (off := 37) (tgt := 40) rfl (by decide) (by decide) rfl (by decide) ?_
    refine rt_run 3 rfl ?_
    refine rt_ld 2 rfl (n := 3) rfl (by decide) ?_
    rw [c3]
    exact rt_iret rfl rfl h
  · refine rt_tsIn (off := 44) (tgt := 47) rfl (by decide) (by decide) rfl (by decide) ?_
    refine rt_run 2 rfl ?_
    rw [hM.1.2.1.1]
    exact rt_iret rfl rfl h
  · refine rt_tsIn (off := 49) (tgt := 52) rfl (by decide) (by decide) rfl (by decide) ?_
    refine rt_run 2 rfl ?_
    rw [hM.1.1.1]
    exact rt_iret rfl rfl h
  · refine rt_tsIn (off := 54) (tgt := 57) rfl (by decide) (by decide) rfl (by decide) ?_
    have loop : ∀ d x, x + d = 4 → RT mX11_toldOf none 59 [some (.ref 63), some (.int (nI 5)), some (.int (smI (plI (aX a)) x)), some (.int (nI x))] [] τ Q := by
      intro d
      induction d with
      | zero =>
        intro x hx
        have : x = 4 := by omega
        subst this
        refine rt_run 2 rfl ?_
        refine rt_ge 4 4 rfl (by omega) (by omega) (fun _ => ?_) (fun _ => by omega)
        refine rt_run 1 rfl ?_
        exact rt_iret rfl rfl h
      | succ d ih =>
        intro x hx
        have hx4 : x < 4 := by omega
        refine rt_run 2 rfl ?_
        refine rt_ge x 4 rfl (by omega) (by omega) (fun _ => by omega) (fun _ => ?_)
        refine rt_run 4 rfl ?_
        refine rt_ld x rfl (n := 4) rfl hx4 ?_
        have hih := ih (x + 1) (by omega)
        rw [nI_succ x, show smI (plI (aX a)) (x + 1) = smI (plI (aX a)) x + plI (aX a) x from rfl] at hih
        rcases hM.1.2.2.1.told hx4 with ⟨hX, e⟩ | ⟨A, hX, e, hA, hE⟩
        · rw [e]
          rw [show plI (aX a) x = 0 by unfold plI; rw [hX]] at hih
          refine rt_if_ge rfl (fun hc => absurd hc (by decide)) (fun _ => ?_)
          refine rt_run 2 rfl ?_
          refine rt_run 4 rfl ?_
          exact hih
        · rw [e]
          rw [show plI (aX a) x = nI A.2.2.2 by unfold plI; rw [hX]] at hih
          refine rt_if_ge rfl (fun _ => ?_) (fun hc => absurd (nI_pos' (by omega)) hc)
          refine rt_run 3 rfl ?_
          refine rt_ld x rfl (n := 4) rfl hx4 ?_
          rw [e]
          refine rt_run 4 rfl ?_
          exact hih
    refine rt_run 2 rfl ?_
    exact loop 4 0 rfl
  · refine rt_tsOut (tgt := 94) rfl (Or.inr (by decide)) (by decide) ?_
    refine rt_run 2 rfl ?_
    rw [hM.1.2.2.2.1.1]
    exact rt_iret rfl rfl h
theorem mTold_spec {w : Int32} (hM : MIs τ a) (h : ∀ τ', OffD τ τ' → MIs τ' (tolA a w).2 → Q (some (.int (tolA a w).1)) τ') : RT mX11_told none 0 [some (.ref 63), some (.int w)] [] τ Q := by
  refine rt_run 3 rfl ?_
  refine rt_cS mX11_in kX11_told_4 okX11_in rfl rfl ?_
  unfold tolA at h
  refine in_spec 7 (by decide) rfl (fun hh => ?_) (fun w' hw ew => ?_)
  · rw [hh] at h
    refine rt_if_eq rfl (fun _ => ?_) (fun hc => absurd rfl hc)
    refine rt_run 2 rfl ?_
    refine rt_cV (ci := 11) mX11_refuses kX11_told_21 okX11_refuses rfl rfl rfl rfl rfl ?_
    exact refuses_spec hM (Or.inl rfl) (fun τ' hO hC' => rt_iret rfl rfl (h τ' hO hC'))
  · subst ew
    rw [rn_so hw (by decide)] at h
    refine rt_if_eq rfl (fun hc => absurd hc (by decide)) (fun _ => ?_)
    refine rt_run 2 rfl ?_
    refine rt_cV (ci := 11) mX11_toldOf kX11_told_12 okX11_toldOf rfl rfl rfl rfl rfl ?_
    refine toldOf_spec hM hw ?_
    refine rt_run 1 rfl ?_
    exact rt_iret rfl rfl (h τ (OffD.rf _) hM)
theorem mDigest_spec (hM : MIs τ a) (h : ∀ τ', OffD τ τ' → MIs τ' a → Q (some (.long (digI a))) τ') : RT mX11_digest none 0 [some (.ref 63), none, none, none] [] τ Q := by
  have hl30 := hM.1.1.2.2.1
  have loop4 : ∀ d k τ' h0, k + d = 3 → OfM [78, 79, 80] [] τ τ' → digI a = hR (fun j => stdV a (j + 1)) 3 h0 → RT mX11_digest none 104 [some (.ref 63), some (.long (hR (fun j => stdV a (j + 1)) k h0)), none, some (.int (nI (k + 1)))] [] τ' Q := by
    intro d
    induction d with
    | zero =>
      intro k τ' h0 hk hO e
      have : k = 3 := by omega
      subst this
      refine rt_run 2 rfl ?_
      refine rt_ge 4 4 rfl (by omega) (by omega) (fun _ => ?_) (fun _ => by omega)
      refine rt_run 1 rfl ?_
      rw [← e]
      exact rt_lret rfl rfl (h τ' (hO.d (by decide)) (hM.far hO))
    | succ d ih =>
      intro k τ' h0 hk hO e
      have hM1 := hM.far hO
      refine rt_run 2 rfl ?_
      refine rt_ge (k + 1) 4 rfl (by omega) (by omega) (fun _ => by omega) (fun _ => ?_)
      refine rt_run 5 rfl ?_
      refine rt_cV (ci := 11) mX11_standingOf kX11_digest_116 okX11_standingOf rfl rfl rfl rfl rfl ?_
      refine standingOf_spec hM1 (by omega) ?_
      refine rt_run 5 rfl ?_
      rw [← nI_succ]
      exact ih (k + 1) τ' h0 (by omega) hO e
  have loop3 : ∀ d k τ' h0, k + d = 4 → OfM [78, 79, 80] [] τ τ' → digI a = hR (fun j => stdV a (j + 1)) 3 (hR (exV a) 4 h0) → RT mX11_digest none 65 [some (.ref 63), some (.long (hR (exV a) k h0)), none, some (.int (nI k))] [] τ' Q := by
    intro d
    induction d with
    | zero =>
      intro k τ' h0 hk hO e
      have : k = 4 := by omega
      subst this
      refine rt_run 2 rfl ?_
      refine rt_ge 4 4 rfl (by omega) (by omega) (fun _ => ?_) (fun _ => by omega)
      refine rt_run 2 rfl ?_
      exact loop4 3 0 τ' _ rfl hO e
    | succ d ih =>
      intro k τ' h0 hk hO e
      have hM1 := hM.far hO
      have hk4 : k < 4 := by omega
      refine rt_run 2 rfl ?_
      refine rt_ge k 4 rfl (by omega) (by omega) (fun _ => by omega) (fun _ => ?_)
      refine rt_run 6 rfl ?_
      refine rt_ld k rfl (n := 4) rfl hk4 ?_
      have hs : hR (exV a) (k + 1) h0 = 31 * hR (exV a) k h0 + (exV a k).toInt64 := rfl
      rcases hM1.1.2.2.1.told hk4 with ⟨hX, e4⟩ | ⟨A, hX, e4, hA, hE⟩
      · rw [e4]
        refine rt_if_ge rfl (fun hc => absurd hc (by decide)) (fun _ => ?_)
        refine rt_run 2 rfl ?_
        refine rt_run 5 rfl ?_
        have := ih (k + 1) τ' h0 (by omega) hO e
        rw [hs, show exV a k = -1 by unfold exV; rw [hX], nI_succ] at this
        exact this
      · rw [e4]
        refine rt_if_ge rfl (fun _ => ?_) (fun hc => absurd (nI_pos' (by omega)) hc)
        refine rt_run 2 rfl ?_
        refine rt_cV (ci := 11) mX11_pairsOf kX11_digest_90 okX11_pairsOf rfl rfl rfl rfl rfl ?_
        refine pairsOf_spec hM1 hk4 hX (fun τ2 hO2 => ?_)
        refine rt_run 5 rfl ?_
        have := ih (k + 1) τ2 h0 (by omega) (hO.tr hO2) e
        rw [hs, show exV a k = anI (aS a) A by unfold exV; rw [hX], nI_succ] at this
        exact this
  have loop2 : ∀ d k h0, k + d = 3 * (aG a).length → digI a = hR (fun j => stdV a (j + 1)) 3 (hR (exV a) 4 (hR (fun j => ofV (aG a) (j / 3) (j % 3)) (3 * (aG a).length) h0)) → RT mX11_digest none 33 [some (.ref 63), some (.long (hR (fun j => ofV (aG a) (j / 3) (j % 3)) k h0)), none, some (.int (nI k))] [] τ Q := by
    intro d
    induction d with
    | zero =>
      intro k h0 hk e
      have : k = 3 * (aG a).length := by omega
      subst this
      refine rt_run 5 rfl ?_
      rw [hM.1.1.1]
      refine rt_ge (3 * (aG a).length) (3 * (aG a).length) rfl (by omega) (by omega) (fun _ => ?_) (fun _ => by omega) rfl (by rw [← pk_mul]; rfl)
      refine rt_run 2 rfl ?_
      exact loop3 4 0 τ _ rfl (OfM.rf _ _ _) e
    | succ d ih =>
      intro k h0 hk e
      refine rt_run 5 rfl ?_
      rw [hM.1.1.1]
      refine rt_ge k (3 * (aG a).length) rfl (by omega) (by omega) (fun _ => by omega) (fun hlt => ?_) rfl (by rw [← pk_mul]; rfl)
      have hk3 : k / 3 < (aG a).length := by omega
      have hq : (aG a)[k / 3]? = some (aG a)[k / 3] := List.getElem?_eq_getElem hk3
      obtain ⟨g1, g2, g3⟩ := hM.1.1.2.1 (k / 3) _ hq
      have ev : gI τ 64 k = ofV (aG a) (k / 3) (k % 3) := by
        unfold ofV
        rw [hq]
        dsimp only
        rcases (show k % 3 = 0 ∨ k % 3 = 1 ∨ k % 3 = 2 by omega) with h3 | h3 | h3
        · rw [if_pos h3, ← g1]; congr 1; omega
        · rw [if_neg (by omega), if_pos h3, ← g2]; congr 1; omega
        · rw [if_neg (by omega), if_neg (by omega), ← g3]; congr 1; omega
      refine rt_run 6 rfl ?_
      refine rt_ld k rfl (n := 90) rfl (by omega) ?_
      rw [ev]
      refine rt_run 5 rfl ?_
      have := ih (k + 1) h0 (by omega) e
      rw [nI_succ] at this
      exact this
  have loop1 : ∀ d k, k + d = 7 → RT mX11_digest none 6 [some (.ref 63), some (.long (hR (tolV a) k 1931)), none, some (.int (nI k))] [] τ Q := by
    intro d
    induction d with
    | zero =>
      intro k hk
      have : k = 7 := by omega
      subst this
      refine rt_run 2 rfl ?_
      refine rt_ge 7 7 rfl (by omega) (by omega) (fun _ => ?_) (fun _ => by omega)
      refine rt_run 2 rfl ?_
      exact loop2 (3 * (aG a).length) 0 _ (by omega) rfl
    | succ d ih =>
      intro k hk
      refine rt_run 2 rfl ?_
      refine rt_ge k 7 rfl (by omega) (by omega) (fun _ => by omega) (fun _ => ?_)
      refine rt_run 5 rfl ?_
      refine rt_cV (ci := 11) mX11_toldOf kX11_digest_19 okX11_toldOf rfl rfl rfl rfl rfl ?_
      refine toldOf_spec hM (by omega) ?_
      refine rt_run 5 rfl ?_
      rw [← nI_succ]
      exact ih (k + 1) (by omega)
  refine rt_run 4 rfl ?_
  exact loop1 7 0 rfl
theorem mDraw_spec {s n : Int32} (hM : MIs τ a) (h : ∀ τ', OffD τ τ' → MIs τ' (drwA a s n).2 → Q (some (.int (drwA a s n).1)) τ') : RT mX11_draw none 0 [some (.ref 63), some (.int s), some (.int n), none, none, none, none, none, none] [] τ Q := by
  have no : drwA a s n = rfA (-2) a → RT mX11_draw none 20 [some (.ref 63), some (.int s), some (.int n), none, none, none, none, none, none] [] τ Q := by
    intro e
    rw [e] at h
    refine rt_run 2 rfl ?_
    refine rt_cV (ci := 11) mX11_refuses kX11_draw_23 okX11_refuses rfl rfl rfl rfl rfl ?_
    exact refuses_spec hM (Or.inl rfl) (fun τ' hO hC' => rt_iret rfl rfl (h τ' hO hC'))
  refine rt_run 3 rfl ?_
  refine rt_cS mX11_in kX11_draw_4 okX11_in rfl rfl ?_
  refine in_spec 1000000 (by decide) rfl (fun hh => ?_) (fun s' hs es => ?_)
  · exact rt_if_eq rfl (fun _ => no (by unfold drwA; rw [hh])) (fun hc => absurd rfl hc)
  subst es
  refine rt_if_eq rfl (fun hc => absurd hc (by decide)) (fun _ => ?_)
  refine rt_run 3 rfl ?_
  refine rt_cS mX11_in kX11_draw_14 okX11_in rfl rfl ?_
  refine in_spec 31 (by decide) rfl (fun hh => ?_) (fun n' hn en => ?_)
  · exact rt_if_ne rfl (fun hc => absurd rfl hc) (fun _ => no (by unfold drwA; rw [rn_so hs (by decide)]; dsimp only; rw [hh]))
  subst en
  refine rt_if_ne rfl (fun _ => ?_) (fun hc => absurd hc (by decide))
  have eA : drwA a (nI s') (nI n') = (nI (drN s' n').2.length, sG a (drN s' n').2) := by
    unfold drwA; rw [rn_so hs (by decide)]; dsimp only; rw [rn_so hn (by decide)]
  rw [eA] at h
  refine rt_run 8 rfl ?_
  rw [nI_l (show s' < 2 ^ 31 by omega)]
  have hO0 : OfM [64] [1] τ (sF τ 63 1 0) := (OfM.rf _ _ _).sF (by simp) _
  have loop : ∀ d k τ' (x6 x7 x8 : Option Value), k + d = n' → OfM [64] [1] τ τ' → MEd τ' (drN s' k).2 → (drN s' k).1 < 2 ^ 31 → RT mX11_draw none 38 [some (.ref 63), some (.int (nI s')), some (.int (nI n')), some (.long (lN (drN s' k).1)), none, some (.int (nI k)), x6, x7, x8] [] τ' Q := by
    intro d
    induction d with
    | zero =>
      intro k τ' x6 x7 x8 hk hO hG hx
      have : k = n' := by omega
      subst this
      refine rt_run 2 rfl ?_
      refine rt_ge k k rfl (by omega) (by omega) (fun _ => ?_) (fun _ => by omega)
      refine rt_run 2 rfl ?_
      have hM1 := hM.1.setG hO hG
      refine rt_cV (ci := 11) mX11_stays kX11_draw_125 okX11_stays rfl rfl rfl rfl rfl ?_
      refine stays_spec (b := true) (K := fun u => rowI (aG a) (aX a) (aW a) u) hM1 (fun u hu => by rw [(hO.1 71 (by decide)).1]; exact hM.2 u hu) (fun hW u hu => mrow0 hM hW u hu) (fun τ2 hO2 hM2 => ?_)
      refine rt_run 3 rfl ?_
      rw [hM2.1.1.1]
      exact rt_iret rfl rfl (h τ2 ((hO.d (by decide)).tr (hO2.d (by decide))) hM2)
    | succ d ih =>
      intro k τ' x6 x7 x8 hk hO hG hx
      have hlen := drN_len s' k
      refine rt_run 2 rfl ?_
      refine rt_ge k n' rfl (by omega) (by omega) (fun _ => by omega) (fun _ => ?_)
      refine rt_run 6 rfl ?_
      have e1 : lN (drN s' k).1 * 1103515245 + 12345 = lN ((drN s' k).1 * 1103515245 + 12345) := by
        rw [show (1103515245 : Int64) = lN 1103515245 from rfl, show (12345 : Int64) = lN 12345 from rfl, lN_mul, lN_add]
      rw [e1]
      have hb : (drN s' k).1 * 1103515245 + 12345 < 2 ^ 63 := by omega
      refine rt_lrem rfl (by decide) ?_
      rw [show lN ((drN s' k).1 * 1103515245 + 12345) - lN ((drN s' k).1 * 1103515245 + 12345) / 2147483648 * 2147483648 = lN (drS (drN s' k).1) from pk_lRem (b := 2147483648) hb (by decide) (by decide)]
      have hx' : drS (drN s' k).1 < 2 ^ 31 := by unfold drS; omega
      have en : drN s' (k + 1) = (drS (drN s' k).1, if drQ (drS (drN s' k).1) ∈ (drN s' k).2 then (drN s' k).2 else (drN s' k).2 ++ [drQ (drS (drN s' k).1)]) := rfl
      generalize drS (drN s' k).1 = y at hx' en
      refine rt_run 3 rfl ?_
      refine rt_ldiv rfl (by decide) ?_
      rw [show lN y / 65536 = lN (y / 65536) from pk_lDiv (b := 65536) (by omega) (by decide) (by decide)]
      refine rt_run 1 rfl ?_
      refine rt_lrem rfl (by decide) ?_
      rw [show lN (y / 65536) - lN (y / 65536) / 10 * 10 = lN (y / 65536 % 10) from pk_lRem (b := 10) (by omega) (by decide) (by decide)]
      refine rt_run 4 rfl ?_
      rw [lN_i]
      refine rt_ldiv rfl (by decide) ?_
      rw [show lN y / 1024 = lN (y / 1024) from pk_lDiv (b := 1024) (by omega) (by decide) (by decide)]
      refine rt_run 1 rfl ?_
      refine rt_lrem rfl (by decide) ?_
      rw [show lN (y / 1024) - lN (y / 1024) / 4 * 4 = lN (y / 1024 % 4) from pk_lRem (b := 4) (by omega) (by decide) (by decide)]
      refine rt_run 4 rfl ?_
      rw [lN_i]
      refine rt_ldiv rfl (by decide) ?_
      rw [show lN y / 4096 = lN (y / 4096) from pk_lDiv (b := 4096) (by omega) (by decide) (by decide)]
      refine rt_run 1 rfl ?_
      refine rt_lrem rfl (by decide) ?_
      rw [show lN (y / 4096) - lN (y / 4096) / 10 * 10 = lN (y / 4096 % 10) from pk_lRem (b := 10) (by omega) (by decide) (by decide)]
      refine rt_run 6 rfl ?_
      rw [lN_i]
      refine rt_cV (ci := 11) mX11_isThere kX11_draw_101 okX11_isThere rfl rfl rfl rfl rfl ?_
      refine isThere_spec hG (by omega) (by omega) (by omega) ?_
      by_cases hin : drQ y ∈ (drN s' k).2
      · rw [decide_eq_true (show (y / 65536 % 10, y / 1024 % 4, y / 4096 % 10) ∈ (drN s' k).2 from hin)]
        rw [if_pos hin] at en
        refine rt_if_ne rfl (fun _ => ?_) (fun hc => absurd hc (by decide))
        refine rt_run 2 rfl ?_
        rw [← nI_succ]
        have := ih (k + 1) τ' (some (.int (nI (y / 65536 % 10)))) (some (.int (nI (y / 1024 % 4)))) (some (.int (nI (y / 4096 % 10)))) (by omega) hO (by rw [en]; exact hG) (by rw [en]; exact hx')
        rw [en] at this
        exact this
      · rw [decide_eq_false (show ¬ (y / 65536 % 10, y / 1024 % 4, y / 4096 % 10) ∈ (drN s' k).2 from hin)]
        rw [if_neg hin] at en
        refine rt_if_ne rfl (fun hc => absurd rfl hc) (fun _ => ?_)
        refine rt_run 4 rfl ?_
        refine rt_cV (ci := 11) mX11_adds kX11_draw_114 okX11_adds rfl rfl rfl rfl rfl ?_
        refine adds_spec hG (by omega) (by omega) (by omega) (by omega) (fun τ2 hO2 hG2 => ?_)
        refine rt_run 2 rfl ?_
        rw [← nI_succ]
        have := ih (k + 1) τ2 (some (.int (nI (y / 65536 % 10)))) (some (.int (nI (y / 1024 % 4)))) (some (.int (nI (y / 4096 % 10)))) (by omega) (hO.tr hO2) (by rw [en]; exact hG2) (by rw [en]; exact hx')
        rw [en] at this
        exact this
  refine loop n' 0 _ none none none (by omega) hO0 ⟨rfl, fun i q hq => by simp [drN] at hq, by simp [drN], fun q hq => by simp [drN] at hq⟩ (by show s' < 2 ^ 31; omega)
end MdAsk

/-! Tally.stateBehind, advancesFrom -/
theorem ta_nodup {τ : Ty} {wa wb : Nat} {A : AE} {K : List Nat} {W T : WF} (h : TaIs τ wa wb A K W T) : K.Nodup := by
  have := h.2.1.2.2.2.2.1
  exact List.Pairwise.of_map lN (fun a b h e => h (by rw [e])) this
theorem nodup_ix {K : List Nat} (h : K.Nodup) {i j c : Nat} (hi : K[i]? = some c) (hj : K[j]? = some c) : i = j := by
  exact (List.getElem?_inj (List.getElem?_eq_some_iff.mp hi).1 h).mp (hi.trans hj.symm)
theorem TaIs.len {τ : Ty} {wa wb : Nat} {A : AE} {K : List Nat} {W T : WF} (h : TaIs τ wa wb A K W T) : K.length ≤ 400 := by
  have := h.2.1.2.2.1
  rwa [List.length_map] at this
theorem ta_off42 {τ : Ty} {i : Nat} {x : Int32} : Off [42] τ (sI τ 42 i x) := (Off.rf _ _).sI (by simp) _ _
theorem TaIs.setNx {τ : Ty} {wa wb s c sg t : Nat} {A : AE} {K : List Nat} {W T : WF} (hw : isW wa wb) (h : TaIs τ wa wb A K W T) (hs : K[s]? = some c) (hsg : sg < 8) (ht : K[t]? = some (nx A c sg)) : TaIs (sI τ 42 (s * 8 + sg) (nI t)) wa wb A K W T := by
  obtain ⟨w1, w2, w3, w4, w5⟩ := isW_f hw
  obtain ⟨t1, t2, t3, t4, t5, t6, t7, t8⟩ := id h
  have n42 : ∀ x, x ∈ [43, 44] → gI (sI τ 42 (s * 8 + sg) (nI t)) x = gI τ x := by
    intro x hx
    rw [gI_sI, if_neg (by intro e; subst e; revert hx; decide)]
  refine ⟨t1, t2.off ta_off42 (by decide), t3, fun s' c' hs' sg' hsg' => ?_, fun s' c' hs' w hw' => ?_, fun s' c' hs' w hw' => ?_, t7, t8⟩
  · rw [gI_sI, if_pos rfl]
    by_cases he : s' * 8 + sg' = s * 8 + sg
    · have e1 : s' = s := by omega
      have e2 : sg' = sg := by omega
      subst e1; subst e2
      rw [hs] at hs'
      cases hs'
      rw [pk_us]
      exact Or.inr ⟨t, ht, rfl⟩
    · rw [pk_un he]
      exact t4 s' c' hs' sg' hsg'
  · rw [n42 wa w4]; exact t5 s' c' hs' w hw'
  · rw [n42 wb w5]; exact t6 s' c' hs' w hw'
theorem addK_at {K : List Nat} {s c x : Nat} (h : K[s]? = some c) : (addK K x)[s]? = some c := by
  unfold addK
  split
  · exact h
  · rw [List.getElem?_append_left (List.getElem?_eq_some_iff.mp h).1]; exact h
theorem stateBehind_spec {ke wa wb s c sg : Nat} {A : AE} {K : List Nat} {W T : WF} {τ : Ty} {Q : Option Value → Ty → Prop} (hw : isW wa wb) (hke : isE ke) (hE : ExIs τ ke A) (hT : TaIs τ wa wb A K W T) (hs : K[s]? = some c) (hsg : sg < 8)
    (h1 : ∀ τ' t, Off kTa τ τ' → TaIs τ' wa wb A (addK K (nx A c sg)) W T → (addK K (nx A c sg))[t]? = some (nx A c sg) → (nx A c sg ∈ K ∨ K.length < 400) → Q (some (.int (nI t))) τ') (h2 : nx A c sg ∉ K → 400 ≤ K.length → ∀ τ', Off kTa τ τ' → Q (some (.int (-1))) τ') :
    RT mX9_stateBehind none 0 [some (.ref 38), some (.ref ke), some (.int (nI s)), some (.int (nI sg)), none] [] τ Q := by
  have hlen := hT.len
  have hsl := (List.getElem?_eq_some_iff.mp hs).1
  have hix : nI s * 8 + nI sg = nI (s * 8 + sg) := by simp only [← nI_add, ← pk_mul]; rfl
  refine rt_run 6 rfl ?_
  rw [hix]
  refine rt_run 1 rfl ?_
  refine rt_g1 rfl ?_
  refine rt_run 1 rfl ?_
  refine rt_ld (s * 8 + sg) rfl (n := 3200) rfl (by omega) ?_
  refine rt_run 1 rfl ?_
  refine rt_ic_ne rfl (fun hne => ?_) (fun heq => ?_)
  · rcases hT.2.2.2.1 s c hs sg hsg with h | ⟨t, ht, hv⟩
    · exact absurd h hne
    · have hin : nx A c sg ∈ K := List.mem_of_getElem? ht
      have hadd : addK K (nx A c sg) = K := by unfold addK; rw [if_pos hin]
      refine rt_run 1 rfl ?_
      refine rt_g1 rfl ?_
      refine rt_run 1 rfl ?_
      refine rt_ld (s * 8 + sg) rfl (n := 3200) rfl (by omega) ?_
      rw [hv]
      exact rt_iret rfl rfl (h1 τ t (Off.rf _ _) (by rw [hadd]; exact hT) (by rw [hadd]; exact ht) (Or.inl hin))
  · have hkey := hT.2.1.2.2.2.2.2.1 s (lN c) (by rw [List.getElem?_map, hs]; rfl)
    refine rt_run 1 rfl ?_
    refine rt_g1 rfl ?_
    refine rt_run 4 rfl ?_
    refine rt_g0 rfl ?_
    refine rt_run 2 rfl ?_
    refine rt_ldL s rfl (n := 400) rfl (by omega) ?_
    rw [hkey]
    refine rt_run 2 rfl ?_
    rw [lN_i]
    refine rt_cV (ci := 2) mX2_after kX9_stateBehind_38 okX2_after (isE_s hke) rfl rfl rfl rfl ?_
    refine after_specN hke hE hsg ?_
    refine rt_cV (ci := 9) mX9_stateOf kX9_stateBehind_41 okX9_stateOf rfl rfl rfl rfl rfl ?_
    have fin : ∀ τ' K' t, Off kTa τ τ' → TaIs τ' wa wb A K' W T → K' = addK K (nx A c sg) → K'[s]? = some c → K'[t]? = some (nx A c sg) → (nx A c sg ∈ K ∨ K.length < 400) →
        RT mX9_stateBehind none 44 [some (.ref 38), some (.ref ke), some (.int (nI s)), some (.int (nI sg)), some (.int (nI (s * 8 + sg)))] [.int (nI t), .int (nI (s * 8 + sg)), .ref 42] τ' Q := by
      intro τ' K' t hO hT' hK' hs' ht hor
      refine rt_st (s * 8 + sg) rfl (n := 3200) rfl (by omega) ?_
      refine rt_run 1 rfl ?_
      refine rt_g1 rfl ?_
      refine rt_run 1 rfl ?_
      refine rt_ld (s * 8 + sg) rfl (n := 3200) rfl (by omega) ?_
      rw [show gI (sI τ' 42 (s * 8 + sg) (nI t)) 42 (s * 8 + sg) = nI t by rw [gI_sI, if_pos rfl, pk_us]]
      refine rt_iret rfl rfl (h1 _ t (hO.sI (by simp) _ _) ?_ (by rw [← hK']; exact ht) hor)
      rw [← hK']
      exact hT'.setNx hw hs' hsg ht
    refine stateOf_spec hw hT (nx_lt _ _ _) (fun t ht => ?_) (fun hn hl τ' hO hT' _ => ?_) (fun hn hl => ?_)
    · have hin : nx A c sg ∈ K := List.mem_of_getElem? ht
      have hadd : addK K (nx A c sg) = K := by unfold addK; rw [if_pos hin]
      exact fin τ K t (Off.rf _ _) hT hadd.symm hs ht (Or.inl hin)
    · have hadd : addK K (nx A c sg) = K ++ [nx A c sg] := by unfold addK; rw [if_neg hn]
      refine fin τ' (K ++ [nx A c sg]) K.length hO hT' hadd.symm ?_ ?_ (Or.inr hl)
      · rw [List.getElem?_append_left hsl]; exact hs
      · rw [List.getElem?_append_right (Nat.le_refl _), Nat.sub_self]; rfl
    · refine rt_st (s * 8 + sg) rfl (n := 3200) rfl (by omega) ?_
      refine rt_run 1 rfl ?_
      refine rt_g1 rfl ?_
      refine rt_run 1 rfl ?_
      refine rt_ld (s * 8 + sg) rfl (n := 3200) rfl (by omega) ?_
      rw [show gI (sI τ 42 (s * 8 + sg) (-1)) 42 (s * 8 + sg) = -1 by rw [gI_sI, if_pos rfl, pk_us]]
      exact rt_iret rfl rfl (h2 hn hl _ ((Off.rf _ _).sI (by simp) _ _))
def updT (T : WF) (x w v : Nat) : WF := fun c' w' => if c' = x ∧ w' = w then v else T c' w'
def adv1 (A : AE) (W : WF) (c : Nat) (st : Nat × Nat × Nat × Nat) (KT : List Nat × WF) : Option (List Nat × WF) :=
  if W c st.1 = 0 then some KT else if nx A c st.2.1 ∈ KT.1 ∨ KT.1.length < 400 then some (addK KT.1 (nx A c st.2.1), updT KT.2 (nx A c st.2.1) st.2.2.1 (min CM (KT.2 (nx A c st.2.1) st.2.2.1 + W c st.1))) else none
def advN (A : AE) (W : WF) (c : Nat) (L : SL) (KT : List Nat × WF) : Nat → Option (List Nat × WF)
  | 0 => some KT
  | i + 1 => (advN A W c L KT i).bind (fun KT' => match L[i]? with
    | some st => adv1 A W c st KT'
    | none => some KT')
theorem advN_s {A : AE} {W : WF} {c i : Nat} {L : SL} {KT KT' : List Nat × WF} {st : Nat × Nat × Nat × Nat} (h : advN A W c L KT i = some KT') (hq : L[i]? = some st) : advN A W c L KT (i + 1) = adv1 A W c st KT' := by
  show (advN A W c L KT i).bind _ = _
  rw [h]
  show (match L[i]? with
    | some st => adv1 A W c st KT'
    | none => some KT') = _
  rw [hq]
theorem advN_none {A : AE} {W : WF} {c i t : Nat} {L : SL} {KT : List Nat × WF} (h : advN A W c L KT i = none) (hit : i ≤ t) : advN A W c L KT t = none := by
  induction t with
  | zero => have : i = 0 := by omega
            subst this; exact h
  | succ t ih =>
    by_cases hs : i = t + 1
    · subst hs; exact h
    · unfold advN
      rw [ih (by omega)]; rfl
theorem TaIs.setT {τ : Ty} {wa wb t x w v : Nat} {A : AE} {K : List Nat} {W T : WF} (hw : isW wa wb) (h : TaIs τ wa wb A K W T) (ht : K[t]? = some x) (hww : w < 10) (hv : v ≤ CM) : TaIs (sI τ wb (t * 10 + w) (nI v)) wa wb A K W (updT T x w v) := by
  obtain ⟨w1, w2, w3, w4, w5⟩ := isW_f hw
  have hnd := ta_nodup h
  obtain ⟨t1, t2, t3, t4, t5, t6, t7, t8⟩ := id h
  have hoff : Off [wb] τ (sI τ wb (t * 10 + w) (nI v)) := (Off.rf _ _).sI (by simp) _ _
  refine ⟨t1, t2.off hoff (by rcases hw with ⟨rfl, rfl⟩ | ⟨rfl, rfl⟩ <;> decide), t3, fun s' c' hs' sg' hsg' => ?_, fun s' c' hs' w' hw' => ?_, fun s' c' hs' w' hw' => ?_, t7, ⟨fun c' w' => ?_, fun c' w' hc' => ?_⟩⟩
  · rw [gI_sI, if_neg (by rcases hw with ⟨rfl, rfl⟩ | ⟨rfl, rfl⟩ <;> decide)]
    exact t4 s' c' hs' sg' hsg'
  · rw [gI_sI, if_neg w3]; exact t5 s' c' hs' w' hw'
  · rw [gI_sI, if_pos rfl]
    unfold updT
    by_cases he : s' * 10 + w' = t * 10 + w
    · have e1 : s' = t := by omega
      have e2 : w' = w := by omega
      subst e1; subst e2
      rw [ht] at hs'
      cases hs'
      rw [pk_us, if_pos ⟨rfl, rfl⟩]
    · rw [pk_un he, if_neg]
      · exact t6 s' c' hs' w' hw'
      · rintro ⟨rfl, rfl⟩
        have := nodup_ix hnd hs' ht
        subst this
        exact he rfl
  · unfold updT
    split
    · exact hv
    · exact t8.1 c' w'
  · unfold updT
    rw [if_neg]
    · exact t8.2 c' w' hc'
    · rintro ⟨rfl, -⟩
      exact hc' (List.mem_of_getElem? ht)
theorem minI {a : Nat} (ha : a < 2 ^ 31) : (if nI a < 1000000001 then nI a else (1000000001 : Int32)) = nI (min CM a) := by
  have e : (1000000001 : Int32) = nI CM := rfl
  by_cases h : a < CM
  · rw [e, if_pos (nI_lt h (by decide)), Nat.min_eq_right (by omega)]
  · rw [e, if_neg (nI_nlt (by omega) ha), Nat.min_eq_left (by omega)]
set_option maxHeartbeats 2000000 in
theorem advancesFrom_spec {ke ks wa wb s c : Nat} {A : AE} {L : SL} {K : List Nat} {W T : WF} {τ : Ty} {Q : Option Value → Ty → Prop} (hw : isW wa wb) (hke : isE ke) (hks : isS ks) (hE : ExIs τ ke A) (hS : StIs τ ks L) (hL : StOk L) (hT : TaIs τ wa wb A K W T) (hs : K[s]? = some c)
    (h1 : ∀ τ' K' T', advN A W c L (K, T) L.length = some (K', T') → Off kTa τ τ' → TaIs τ' wa wb A K' W T' → K'[s]? = some c → Q (some (.int 1)) τ') (h2 : advN A W c L (K, T) L.length = none → ∀ τ', Off kTa τ τ' → Q (some (.int 0)) τ') :
    RT mX9_advancesFrom none 0 [some (.ref 38), some (.ref ke), some (.ref ks), some (.int (nI s)), none, none, none, none] [] τ Q := by
  obtain ⟨w1, w2, w3, w4, w5⟩ := isW_f hw
  obtain ⟨s0, s1, s2, s3, s4, b0, b1, b2, b3, q38⟩ := isS_f hks
  have hl := hL.1
  have loop : ∀ d i τ' K' T' (x5 x6 x7 : Option Value), i + d = L.length → Off kTa τ τ' → advN A W c L (K, T) i = some (K', T') → TaIs τ' wa wb A K' W T' → K'[s]? = some c → RT mX9_advancesFrom none 3 [some (.ref 38), some (.ref ke), some (.ref ks), some (.int (nI s)), some (.int (nI i)), x5, x6, x7] [] τ' Q := by
    intro d
    induction d with
    | zero =>
      intro i τ' K' T' x5 x6 x7 hi hO ha hT' hs'
      have hS' := hS.off hO (kTa_S hks)
      refine rt_run 2 rfl ?_
      refine rt_getI rfl s4 ?_
      refine rt_ge i L.length rfl (by omega) (by omega) (fun _ => ?_) (fun _ => by omega) rfl hS'.1
      refine rt_run 1 rfl ?_
      rw [show i = L.length by omega] at ha
      exact rt_zret rfl rfl (Or.inr rfl) (h1 τ' K' T' ha hO hT' hs')
    | succ d ih =>
      intro i τ' K' T' x5 x6 x7 hi hO ha hT' hs'
      have hS' := hS.off hO (kTa_S hks)
      have hE' := hE.off hO (kTa_E hke)
      have hlen := hT'.len
      have hsl := (List.getElem?_eq_some_iff.mp hs').1
      refine rt_run 2 rfl ?_
      refine rt_getI rfl s4 ?_
      refine rt_ge i L.length rfl (by omega) (by omega) (fun _ => by omega) (fun hlt => ?_) rfl hS'.1
      have hq : L[i]? = some L[i] := List.getElem?_eq_getElem hlt
      obtain ⟨g1, g2, g3, g4⟩ := hS'.2 i _ hq
      obtain ⟨c1, c2, c3⟩ := hL.2 _ (List.getElem_mem hlt)
      have hnext := advN_s ha hq
      refine rt_run 1 rfl ?_
      refine rt_getW1 rfl hT'.1 ?_
      refine rt_run 4 rfl ?_
      refine rt_getQ rfl s0 q38 ?_
      refine rt_run 1 rfl ?_
      refine rt_ld i rfl b0 (by omega) ?_
      rw [g1]
      refine rt_run 1 rfl ?_
      refine rt_ld (s * 10 + L[i].1) rfl w1 (by omega) ?_ (by simp only [← nI_add, ← pk_mul]; rfl)
      rw [hT'.2.2.2.2.1 s c hs' _ c1]
      have hWb : W c L[i].1 ≤ 1000000001 := hT'.2.2.2.2.2.2.1.1 c L[i].1
      refine rt_run 2 rfl ?_
      refine rt_if_eq rfl (fun hz => ?_) (fun hz => ?_)
      · have hz0 : W c L[i].1 = 0 := by
          by_cases h0 : W c L[i].1 = 0
          · exact h0
          · exact absurd hz (nI_ne0 (by omega) (by omega))
        refine rt_run 2 rfl ?_
        rw [← nI_succ]
        refine ih (i + 1) τ' K' T' _ _ _ (by omega) hO ?_ hT' hs'
        rw [hnext]
        unfold adv1
        rw [if_pos hz0]
      · have hz0 : ¬ W c L[i].1 = 0 := fun e => hz (by rw [e]; rfl)
        refine rt_run 4 rfl ?_
        refine rt_getQ rfl s1 q38 ?_
        refine rt_run 1 rfl ?_
        refine rt_ld i rfl b1 (by omega) ?_
        rw [g2]
        refine rt_cV (ci := 9) mX9_stateBehind kX9_advancesFrom_46 okX9_stateBehind rfl rfl rfl rfl rfl ?_
        refine stateBehind_spec hw hke hE' hT' hs' c2 (fun τ2 t hO2 hT2 ht hor => ?_) (fun hn hfull τ2 hO2 => ?_)
        · have hS2 := hS'.off hO2 (kTa_S hks)
          obtain ⟨k1, k2, k3, k4⟩ := hS2.2 i _ hq
          have htl := (List.getElem?_eq_some_iff.mp ht).1
          have hlen2 := hT2.len
          have hTb : T' (nx A c L[i].2.1) L[i].2.2.1 ≤ 1000000001 := hT2.2.2.2.2.2.2.2.1 (nx A c L[i].2.1) L[i].2.2.1
          refine rt_run 3 rfl ?_
          refine rt_ic_ne rfl (fun _ => ?_) (fun hc => absurd hc (neg1 (by omega)))
          refine rt_run 4 rfl ?_
          refine rt_getQ rfl s2 q38 ?_
          refine rt_run 1 rfl ?_
          refine rt_ld i rfl b2 (by omega) ?_
          rw [k3]
          have hcell : nI t * 10 + nI L[i].2.2.1 = nI (t * 10 + L[i].2.2.1) := by simp only [← nI_add, ← pk_mul]; rfl
          refine rt_run 3 rfl ?_
          rw [hcell]
          refine rt_getW2 rfl hT2.1 ?_
          refine rt_run 3 rfl ?_
          refine rt_getW2 rfl hT2.1 ?_
          refine rt_run 1 rfl ?_
          refine rt_ld (t * 10 + L[i].2.2.1) rfl w2 (by omega) ?_
          rw [hT2.2.2.2.2.2.1 t _ ht _ c3]
          refine rt_run 2 rfl ?_
          refine rt_min rfl (by decide +kernel) (by decide) (Nat.le_of_ble_eq_true rfl) ?_
          rw [nI_add, minI (by omega)]
          refine rt_st (t * 10 + L[i].2.2.1) rfl w2 (by omega) ?_
          refine rt_run 2 rfl ?_
          rw [← nI_succ]
          refine ih (i + 1) _ (addK K' (nx A c L[i].2.1)) (updT T' (nx A c L[i].2.1) L[i].2.2.1 (min CM (T' (nx A c L[i].2.1) L[i].2.2.1 + W c L[i].1))) _ _ _ (by omega) ((hO.tr hO2).sI (by rcases hw with ⟨rfl, rfl⟩ | ⟨rfl, rfl⟩ <;> decide) _ _) ?_ (hT2.setT hw ht c3 (Nat.min_le_left _ _)) (addK_at hs')
          rw [hnext]
          unfold adv1
          rw [if_neg hz0, if_pos hor]
        · refine rt_run 3 rfl ?_
          refine rt_ic_ne rfl (fun hc => absurd rfl hc) (fun _ => ?_)
          refine rt_run 1 rfl ?_
          refine rt_zret rfl rfl (Or.inl rfl) (h2 ?_ τ2 (hO.tr hO2))
          refine advN_none (i := i + 1) ?_ (by omega)
          rw [hnext]
          unfold adv1
          rw [if_neg hz0, if_neg]
          rintro (h | h)
          · exact hn h
          · exact absurd h (by show ¬ K'.length < 400; omega)
  refine rt_run 2 rfl ?_
  exact loop L.length 0 τ K T none none none (by omega) (Off.rf _ _) rfl hT hs

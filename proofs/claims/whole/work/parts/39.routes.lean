/-! the class's answers, ends, pairs, far, count, route, bridge -/
theorem mem_fwd {G : Gr} {w : Option Nat} {n : Nat} {st : Nat × Nat × Nat × Nat} : st ∈ fwdN G w n ↔ ∃ i q, i < n ∧ G[i]? = some q ∧ w ≠ some i ∧ st = (q.1, q.2.1, q.2.2, i) := by
  induction n with
  | zero => simp [fwdN]
  | succ n ih =>
    unfold fwdN
    rw [List.mem_append, ih]
    constructor
    · rintro (⟨i, q, h1, h2⟩ | h)
      · exact ⟨i, q, by omega, h2⟩
      · cases hg : G[n]? with
        | none => rw [hg] at h; simp at h
        | some q =>
          rw [hg] at h
          dsimp only at h
          split at h
          · simp at h
          · rename_i hw
            simp at h
            exact ⟨n, q, by omega, hg, hw, h⟩
    · rintro ⟨i, q, h1, h2, h3, h4⟩
      by_cases hi : i = n
      · subst hi
        right
        rw [h2]
        dsimp only
        rw [if_neg h3, h4]
        simp
      · exact Or.inl ⟨i, q, by omega, h2, h3, h4⟩
theorem mem_bwd {G : Gr} {w : Option Nat} {n : Nat} {st : Nat × Nat × Nat × Nat} : st ∈ bwdN G w n ↔ ∃ i q, i < n ∧ G[i]? = some q ∧ w ≠ some i ∧ st = (q.2.2, q.2.1 + 4, q.1, i) := by
  induction n with
  | zero => simp [bwdN]
  | succ n ih =>
    unfold bwdN
    rw [List.mem_append, ih]
    constructor
    · rintro (⟨i, q, h1, h2⟩ | h)
      · exact ⟨i, q, by omega, h2⟩
      · cases hg : G[n]? with
        | none => rw [hg] at h; simp at h
        | some q =>
          rw [hg] at h
          dsimp only at h
          split at h
          · simp at h
          · rename_i hw
            simp at h
            exact ⟨n, q, by omega, hg, hw, h⟩
    · rintro ⟨i, q, h1, h2, h3, h4⟩
      by_cases hi : i = n
      · subst hi
        right
        rw [h2]
        dsimp only
        rw [if_neg h3, h4]
        simp
      · exact Or.inl ⟨i, q, by omega, h2, h3, h4⟩
theorem mem_stL {G : Gr} {w : Option Nat} {st : Nat × Nat × Nat × Nat} : st ∈ stL G w ↔ ∃ i q, G[i]? = some q ∧ w ≠ some i ∧ (st = (q.1, q.2.1, q.2.2, i) ∨ st = (q.2.2, q.2.1 + 4, q.1, i)) := by
  unfold stL
  rw [List.mem_append, mem_fwd, mem_bwd]
  constructor
  · rintro (⟨i, q, h1, h2, h3, h4⟩ | ⟨i, q, h1, h2, h3, h4⟩)
    · exact ⟨i, q, h2, h3, Or.inl h4⟩
    · exact ⟨i, q, h2, h3, Or.inr h4⟩
  · rintro ⟨i, q, h2, h3, h4 | h4⟩
    · exact Or.inl ⟨i, q, (List.getElem?_eq_some_iff.mp h2).1, h2, h3, h4⟩
    · exact Or.inr ⟨i, q, (List.getElem?_eq_some_iff.mp h2).1, h2, h3, h4⟩
theorem Rch_run {L : SL} {A : AE} {u v n k w p : Nat} (h1 : Rch L A u k w p) (h2 : Bk L A v n w p) : ∃ q, Rch L A u (k + n) v q ∧ A.2.2.1 q = true := by
  induction n generalizing k w p with
  | zero => obtain ⟨rfl, h3⟩ := h2; exact ⟨p, h1, h3⟩
  | succ n ih =>
    obtain ⟨st, hst, rfl, q, g1, g2, g3⟩ := h2
    have := ih (k := k + 1) (w := st.2.2.1) (p := q) ⟨st, hst, rfl, ⟨p, h1, g1⟩, g2⟩ g3
    rw [show k + (n + 1) = k + 1 + n by omega]
    exact this
theorem Ans_Bk {L : SL} {A : AE} {u v : Nat} : Ans L A u v ↔ ∃ n, Bk L A v n u 0 := by
  constructor
  · rintro ⟨m, q, h1, h2⟩
    exact ⟨m + 0, Rch_Bk h1 ⟨rfl, h2⟩⟩
  · rintro ⟨n, h⟩
    obtain ⟨q, h1, h2⟩ := Rch_run (k := 0) (w := u) (p := 0) ⟨rfl, rfl⟩ h
    exact ⟨_, q, h1, h2⟩
theorem gp_bk {L L' : SL} {A : AE} {v : Nat} (hL : StOk L) (hA : AEwf A) (hv : v < 10) (r a : Nat) (S : Nat → Bool) (hS : ∃ p, S p = true ∧ Bk L A v r a p) (hin : ∀ i ∈ gp L A v r a S, ∀ st, L[i]? = some st → st ∈ L') : ∃ p, S p = true ∧ Bk L' A v r a p := by
  induction r generalizing a S with
  | zero =>
    obtain ⟨p, h1, h2⟩ := hS
    exact ⟨p, h1, h2⟩
  | succ r ih =>
    obtain ⟨p, h1, h2⟩ := hS
    have hp := (Bk_lt hL hA hv h2).2
    obtain ⟨st, hst, e1, q, g1, g2, g3⟩ := h2
    obtain ⟨j, hj⟩ := List.getElem?_of_mem hst
    have hc : Cnd L A v a S r j := ⟨st, hj, e1, q, nxt_iff.mpr ⟨p, hp, h1, g1⟩, g2, g3⟩
    cases hf : fstI L A v a S r with
    | none =>
      exfalso
      unfold fstI at hf
      have := List.find?_eq_none.mp hf j (List.mem_range.mpr (List.getElem?_eq_some_iff.mp hj).1)
      exact this (cndB_iff.mpr hc)
    | some i =>
      have hci : Cnd L A v a S r i := by
        unfold fstI at hf
        exact cndB_iff.mp (List.find?_some (p := fun i => cndB L A v a S r i) hf)
      obtain ⟨st2, k1, k2, q2, k3, k4, k5⟩ := hci
      have hgp := gp_s hf k1
      rw [hgp] at hin
      obtain ⟨q3, m1, m2⟩ := ih st2.2.2.1 (fun q => nxt A S q && A.2.1 st2.2.1 q) ⟨q2, by simp only [k3, k4]; rfl, k5⟩ (fun i' hi' => hin i' (List.mem_cons_of_mem _ hi'))
      have m1 : (nxt A S q3 && A.2.1 st2.2.1 q3) = true := m1
      rw [Bool.and_eq_true] at m1
      obtain ⟨p3, n1, n2, n3⟩ := nxt_iff.mp m1.1
      exact ⟨p3, n2, st2, hin i List.mem_cons_self st2 k1, k2, q3, n3, m1.2, m2⟩
/-- how far it is, if at all -/
noncomputable def farO (L : SL) (A : AE) (u v : Nat) : Option Nat := @dite _ (∃ n, Lev L A v n u 0) (Classical.propDecidable _) (fun h => some h.choose) (fun _ => none)
theorem farO_so {L : SL} {A : AE} {u v n : Nat} (h : Lev L A v n u 0) : farO L A u v = some n := by
  unfold farO
  have hex : ∃ n, Lev L A v n u 0 := ⟨n, h⟩
  rw [dif_pos hex]
  have h2 := hex.choose_spec
  congr 1
  rcases Nat.lt_trichotomy hex.choose n with g | g | g
  · exact absurd h2.1 (h.2 _ g)
  · exact g
  · exact absurd h.1 (h2.2 _ g)
theorem farO_no {L : SL} {A : AE} {u v : Nat} (h : ∀ m, ¬ Bk L A v m u 0) : farO L A u v = none := by
  unfold farO
  rw [dif_neg]
  rintro ⟨n, hn⟩
  exact h n hn.1
def rtA (a : AS) (x u v : Int32) (f : AE → Nat → Nat → Rs) : Rs := match rn 4 x with
  | none => rfA (-2) a
  | some x => match rn 10 u with
    | none => rfA (-2) a
    | some u => match rn 10 v with
      | none => rfA (-2) a
      | some v => match aX a x with
        | none => rfA (-3) a
        | some A => f A u v
theorem rtA_bad {a : AS} {x u v : Int32} {f : AE → Nat → Nat → Rs} (h : ¬ ((∃ i, i < 4 ∧ x = nI i) ∧ (∃ j, j < 10 ∧ u = nI j) ∧ ∃ k, k < 10 ∧ v = nI k)) : rtA a x u v f = rfA (-2) a := by
  unfold rtA
  by_cases h1 : ∃ i, i < 4 ∧ x = nI i
  · obtain ⟨i, hi, rfl⟩ := id h1
    rw [rn_so hi (by decide)]
    dsimp only
    by_cases h2 : ∃ j, j < 10 ∧ u = nI j
    · obtain ⟨j, hj, rfl⟩ := id h2
      rw [rn_so hj (by decide)]
      dsimp only
      rw [rn_no (by decide) (fun h3 => h ⟨h1, h2, h3⟩)]
    · rw [rn_no (by decide) h2]
  · rw [rn_no (by decide) h1]
theorem rtA_ok {a : AS} {i j k : Nat} (hi : i < 4) (hj : j < 10) (hk : k < 10) (f : AE → Nat → Nat → Rs) : rtA a (nI i) (nI j) (nI k) f = match aX a i with
    | none => rfA (-3) a
    | some A => f A j k := by
  unfold rtA
  rw [rn_so hi (by decide)]
  dsimp only
  rw [rn_so hj (by decide)]
  dsimp only
  rw [rn_so hk (by decide)]
abbrev aS (a : AS) : SL := stL (aG a) none
noncomputable def ansA (a : AS) (x u v : Int32) : Rs := rtA a x u v (fun A u v => ((if ansB (aS a) A u v = true then 1 else 0), a))
noncomputable def endA (a : AS) (x u : Int32) : Rs := rtA a x u 0 (fun A u _ => (vb (ansB (aS a) A u) 10, a))
noncomputable def paiA (a : AS) (x : Int32) : Rs := rtA a x 0 0 (fun A _ _ => (anI (aS a) A, a))
noncomputable def farA (a : AS) (x u v : Int32) : Rs := rtA a x u v (fun A u v => (wI (farO (aS a) A u v), a))
def couA (a : AS) (x u v n : Int32) : Rs := match rn 13 n with
  | none => rfA (-2) a
  | some n => rtA a x u v (fun A u v => orA (rouI A (aS a) u v n) a)
noncomputable def rouV (L : SL) (A : AE) (u v k w : Nat) : Int32 := match farO L A u v with
  | none => -1
  | some n => match (gp L A v n u δ0)[k]? with
    | none => -1
    | some i => match L[i]? with
      | none => -1
      | some st => if w = 0 then nI st.2.2.2 else if w = 1 then nI (st.2.1 / 4) else nI st.2.2.1
noncomputable def rouA (a : AS) (x u v k w : Int32) : Rs := if k < 0 then rfA (-2) a else match rn 3 w with
  | none => rfA (-2) a
  | some w => rtA a x u v (fun A u v => (rouV (aS a) A u v k.toNatClampNeg w, a))
noncomputable def brI (G : Gr) (A : AE) (u v : Nat) : Int32 := match farO (stL G none) A u v with
  | none => -1
  | some _ => wI ((List.range G.length).find? (fun e => !ansB (stL G (some e)) A u v))
noncomputable def briA (a : AS) (x u v : Int32) : Rs := rtA a x u v (fun A u v => (brI (aG a) A u v, a))
section ClRoutes
variable {τ : Ty} {Q : Option Value → Ty → Prop} {a : AS}
theorem answers_spec {x u v : Int32} (hC : CIs τ a) (h : ∀ τ', OffC τ τ' → CIs τ' (ansA a x u v).2 → Q (some (.int (ansA a x u v).1)) τ') : RT mX10_answers none 0 [some (.ref 0), some (.int x), some (.int u), some (.int v), none] [] τ Q := by
  have no : ∀ r, (r = -2 ∨ r = -3 ∨ r = -4) → ansA a x u v = rfA r a → RT mX10_answers none 7 [some (.ref 0), some (.int x), some (.int u), some (.int v), none] [.int r] τ Q := by
    intro r hr e
    rw [e] at h
    refine rt_run 2 rfl ?_
    refine rt_if_eq rfl (fun hc => by rcases hr with rfl | rfl | rfl <;> exact absurd hc (by decide)) (fun _ => ?_)
    refine rt_run 2 rfl ?_
    refine rt_cV (ci := 10) mX10_refuse kX10_answers_17 okX10_refuse rfl rfl rfl rfl rfl ?_
    exact refuse_spec hC hr (fun τ' hO hC' => rt_iret rfl rfl (h τ' hO hC'))
  refine rt_run 4 rfl ?_
  refine rt_cV (ci := 10) mX10_refusalOf kX10_answers_4 okX10_refusalOf rfl rfl rfl rfl rfl ?_
  refine refusalOf_spec hC (fun hb => no _ (Or.inl rfl) (rtA_bad hb)) (fun i j k hi hj hk e1 e2 e3 hA => ?_) (fun i j k A hi hj hk e1 e2 e3 hA hE => ?_)
  · subst e1; subst e2; subst e3
    exact no _ (Or.inr (Or.inl rfl)) (by unfold ansA; rw [rtA_ok hi hj hk, hA])
  · subst e1; subst e2; subst e3
    have eA : ansA a (nI i) (nI j) (nI k) = ((if ansB (aS a) A j k = true then 1 else 0), a) := by unfold ansA; rw [rtA_ok hi hj hk, hA]
    rw [eA] at h
    refine rt_run 2 rfl ?_
    refine rt_if_eq rfl (fun _ => ?_) (fun hc => absurd rfl hc)
    refine rt_run 5 rfl ?_
    refine rt_aald rfl hi ?_
    refine rt_run 3 rfl ?_
    refine rt_cV (ci := 3) mX3_endsFrom kX10_answers_36 okX3_endsFrom rfl rfl rfl rfl rfl ?_
    refine endsFrom_spec (isE_x hi) (Or.inl rfl) hE hC.2.1 (hC.1.ok _) hj (fun τ1 hO1 => ?_)
    refine rt_run 4 rfl ?_
    have hb : bt (vb (ansB (aS a) A j) 10) k = ansB (aS a) A j k := by
      rw [vb_bt _ _ (by omega) (by omega)]; simp [hk]
    rw [b_t1 (by omega), hb]
    exact rt_iret rfl rfl (h τ1 (hO1.c (by decide)) (hC.scr (hO1.w.up (by decide)) (hC.2.2.2.2.2.1.eq hO1.2)))
theorem ends_spec {x u : Int32} (hC : CIs τ a) (h : ∀ τ', OffC τ τ' → CIs τ' (endA a x u).2 → Q (some (.int (endA a x u).1)) τ') : RT mX10_ends none 0 [some (.ref 0), some (.int x), some (.int u), none] [] τ Q := by
  have no : ∀ r, (r = -2 ∨ r = -3 ∨ r = -4) → endA a x u = rfA r a → RT mX10_ends none 7 [some (.ref 0), some (.int x), some (.int u), none] [.int r] τ Q := by
    intro r hr e
    rw [e] at h
    refine rt_run 2 rfl ?_
    refine rt_if_eq rfl (fun hc => by rcases hr with rfl | rfl | rfl <;> exact absurd hc (by decide)) (fun _ => ?_)
    refine rt_run 2 rfl ?_
    refine rt_cV (ci := 10) mX10_refuse kX10_ends_14 okX10_refuse rfl rfl rfl rfl rfl ?_
    exact refuse_spec hC hr (fun τ' hO hC' => rt_iret rfl rfl (h τ' hO hC'))
  refine rt_run 4 rfl ?_
  refine rt_cV (ci := 10) mX10_refusalOf kX10_ends_4 okX10_refusalOf rfl rfl rfl rfl rfl ?_
  refine refusalOf_spec hC (fun hb => no _ (Or.inl rfl) (rtA_bad (fun g => hb ⟨g.1, g.2.1, g.2.1⟩))) (fun i j k hi hj hk e1 e2 e3 hA => ?_) (fun i j k A hi hj hk e1 e2 e3 hA hE => ?_)
  · subst e1; subst e2
    exact no _ (Or.inr (Or.inl rfl)) (by unfold endA; rw [show (0 : Int32) = nI 0 from rfl, rtA_ok hi hj (by decide), hA])
  · subst e1; subst e2
    have eA : endA a (nI i) (nI j) = (vb (ansB (aS a) A j) 10, a) := by unfold endA; rw [show (0 : Int32) = nI 0 from rfl, rtA_ok hi hj (by decide), hA]
    rw [eA] at h
    refine rt_run 2 rfl ?_
    refine rt_if_eq rfl (fun _ => ?_) (fun hc => absurd rfl hc)
    refine rt_run 5 rfl ?_
    refine rt_aald rfl hi ?_
    refine rt_run 3 rfl ?_
    refine rt_cV (ci := 3) mX3_endsFrom kX10_ends_33 okX3_endsFrom rfl rfl rfl rfl rfl ?_
    refine endsFrom_spec (isE_x hi) (Or.inl rfl) hE hC.2.1 (hC.1.ok _) hj (fun τ1 hO1 => ?_)
    exact rt_iret rfl rfl (h τ1 (hO1.c (by decide)) (hC.scr (hO1.w.up (by decide)) (hC.2.2.2.2.2.1.eq hO1.2)))
theorem pairs_spec {x : Int32} (hC : CIs τ a) (h : ∀ τ', OffC τ τ' → CIs τ' (paiA a x).2 → Q (some (.int (paiA a x).1)) τ') : RT mX10_pairs none 0 [some (.ref 0), some (.int x), none] [] τ Q := by
  have no : ∀ r, (r = -2 ∨ r = -3 ∨ r = -4) → paiA a x = rfA r a → RT mX10_pairs none 7 [some (.ref 0), some (.int x), none] [.int r] τ Q := by
    intro r hr e
    rw [e] at h
    refine rt_run 2 rfl ?_
    refine rt_if_eq rfl (fun hc => by rcases hr with rfl | rfl | rfl <;> exact absurd hc (by decide)) (fun _ => ?_)
    refine rt_run 2 rfl ?_
    refine rt_cV (ci := 10) mX10_refuse kX10_pairs_14 okX10_refuse rfl rfl rfl rfl rfl ?_
    exact refuse_spec hC hr (fun τ' hO hC' => rt_iret rfl rfl (h τ' hO hC'))
  refine rt_run 4 rfl ?_
  refine rt_cV (ci := 10) mX10_refusalOf kX10_pairs_4 okX10_refusalOf rfl rfl rfl rfl rfl ?_
  refine refusalOf_spec hC (fun hb => no _ (Or.inl rfl) (rtA_bad hb)) (fun i j k hi hj hk e1 e2 e3 hA => ?_) (fun i j k A hi hj hk e1 e2 e3 hA hE => ?_)
  · subst e1
    exact no _ (Or.inr (Or.inl rfl)) (by unfold paiA; rw [show (0 : Int32) = nI 0 from rfl, rtA_ok hi (by decide) (by decide), hA])
  · subst e1
    have eA : paiA a (nI i) = (anI (aS a) A, a) := by unfold paiA; rw [show (0 : Int32) = nI 0 from rfl, rtA_ok hi (by decide) (by decide), hA]
    rw [eA] at h
    refine rt_run 2 rfl ?_
    refine rt_if_eq rfl (fun _ => ?_) (fun hc => absurd rfl hc)
    refine rt_run 4 rfl ?_
    refine rt_aald rfl hi ?_
    refine rt_cV (ci := 10) mX10_answersOf kX10_pairs_25 okX10_answersOf rfl rfl rfl rfl rfl ?_
    refine answersOf_spec (isE_x hi) hE hC.2.1 (hC.1.ok _) (fun τ1 hO1 => ?_)
    exact rt_iret rfl rfl (h τ1 (hO1.c (by decide)) (hC.scr (hO1.w.up (by decide)) (hC.2.2.2.2.2.1.eq hO1.2)))
theorem far_spec {x u v : Int32} (hC : CIs τ a) (h : ∀ τ', OffC τ τ' → CIs τ' (farA a x u v).2 → Q (some (.int (farA a x u v).1)) τ') : RT mX10_far none 0 [some (.ref 0), some (.int x), some (.int u), some (.int v), none] [] τ Q := by
  have no : ∀ r, (r = -2 ∨ r = -3 ∨ r = -4) → farA a x u v = rfA r a → RT mX10_far none 7 [some (.ref 0), some (.int x), some (.int u), some (.int v), none] [.int r] τ Q := by
    intro r hr e
    rw [e] at h
    refine rt_run 2 rfl ?_
    refine rt_if_eq rfl (fun hc => by rcases hr with rfl | rfl | rfl <;> exact absurd hc (by decide)) (fun _ => ?_)
    refine rt_run 2 rfl ?_
    refine rt_cV (ci := 10) mX10_refuse kX10_far_17 okX10_refuse rfl rfl rfl rfl rfl ?_
    exact refuse_spec hC hr (fun τ' hO hC' => rt_iret rfl rfl (h τ' hO hC'))
  refine rt_run 4 rfl ?_
  refine rt_cV (ci := 10) mX10_refusalOf kX10_far_4 okX10_refusalOf rfl rfl rfl rfl rfl ?_
  refine refusalOf_spec hC (fun hb => no _ (Or.inl rfl) (rtA_bad hb)) (fun i j k hi hj hk e1 e2 e3 hA => ?_) (fun i j k A hi hj hk e1 e2 e3 hA hE => ?_)
  · subst e1; subst e2; subst e3
    exact no _ (Or.inr (Or.inl rfl)) (by unfold farA; rw [rtA_ok hi hj hk, hA])
  · subst e1; subst e2; subst e3
    have eA : farA a (nI i) (nI j) (nI k) = (wI (farO (aS a) A j k), a) := by unfold farA; rw [rtA_ok hi hj hk, hA]
    rw [eA] at h
    refine rt_run 2 rfl ?_
    refine rt_if_eq rfl (fun _ => ?_) (fun hc => absurd rfl hc)
    refine rt_run 5 rfl ?_
    refine rt_aald rfl hi ?_
    refine rt_run 4 rfl ?_
    refine rt_cV (ci := 5) mX5_lengthOf kX10_far_37 okX5_lengthOf rfl rfl rfl rfl rfl ?_
    refine lengthOf_spec (isE_x hi) (Or.inl rfl) hE hC.2.1 (hC.1.ok _) hj hk (fun τ1 n hO1 hn hlev _ => ?_) (fun τ1 hO1 hno => ?_)
    · rw [farO_so hlev] at h
      exact rt_iret rfl rfl (h τ1 (hO1.c (by decide)) (hC.scr (hO1.w.up (by decide)) (hC.2.2.2.2.2.1.eq hO1.2)))
    · rw [farO_no hno] at h
      exact rt_iret rfl rfl (h τ1 (hO1.c (by decide)) (hC.scr (hO1.w.up (by decide)) (hC.2.2.2.2.2.1.eq hO1.2)))
theorem count_spec {x u v n : Int32} (hC : CIs τ a) (h : ∀ τ', OffC τ τ' → CIs τ' (couA a x u v n).2 → Q (some (.int (couA a x u v n).1)) τ') : RT mX10_count none 0 [some (.ref 0), some (.int x), some (.int u), some (.int v), some (.int n), none] [] τ Q := by
  have no : ∀ r, (r = -2 ∨ r = -3 ∨ r = -4) → couA a x u v n = rfA r a → RT mX10_count none 24 [some (.ref 0), some (.int x), some (.int u), some (.int v), some (.int n), none] [.int r] τ Q := by
    intro r hr e
    rw [e] at h
    refine rt_run 2 rfl ?_
    refine rt_if_eq rfl (fun hc => by rcases hr with rfl | rfl | rfl <;> exact absurd hc (by decide)) (fun _ => ?_)
    refine rt_run 2 rfl ?_
    refine rt_cV (ci := 10) mX10_refuse kX10_count_34 okX10_refuse rfl rfl rfl rfl rfl ?_
    exact refuse_spec hC hr (fun τ' hO hC' => rt_iret rfl rfl (h τ' hO hC'))
  have bad : rn 13 n = none → RT mX10_count none 12 [some (.ref 0), some (.int x), some (.int u), some (.int v), some (.int n), none] [] τ Q := by
    intro e
    refine rt_run 2 rfl ?_
    exact no _ (Or.inl rfl) (by unfold couA; rw [e])
  refine rt_run 1 rfl ?_
  refine rt_if_lt rfl (fun hc => bad (rn_out (Or.inl hc))) (fun hc => ?_)
  refine rt_run 2 rfl ?_
  rcases pk_ix n (n := 13) (by decide) with g | g | ⟨n', hn, en⟩
  · exact absurd g hc
  · exact rt_ic_le rfl (fun hd => absurd hd (le_no (n := 12) (by decide) g)) (fun hd => bad (rn_out (Or.inr g)))
  subst en
  refine rt_le n' 12 rfl (by omega) (by omega) (fun _ => ?_) (fun _ => by omega)
  have e0 : couA a x u v (nI n') = rtA a x u v (fun A u v => orA (rouI A (aS a) u v n') a) := by unfold couA; rw [rn_so hn (by decide)]
  rw [e0] at h no
  refine rt_run 4 rfl ?_
  refine rt_cV (ci := 10) mX10_refusalOf kX10_count_21 okX10_refusalOf rfl rfl rfl rfl rfl ?_
  refine refusalOf_spec hC (fun hb => no _ (Or.inl rfl) (rtA_bad hb)) (fun i j k hi hj hk e1 e2 e3 hA => ?_) (fun i j k A hi hj hk e1 e2 e3 hA hE => ?_)
  · subst e1; subst e2; subst e3
    exact no _ (Or.inr (Or.inl rfl)) (by rw [rtA_ok hi hj hk, hA])
  · subst e1; subst e2; subst e3
    rw [rtA_ok hi hj hk, hA] at h
    dsimp only at h
    obtain ⟨wa, wb, hw1, hw2⟩ := hC.2.2.2.2.2.1
    refine rt_run 2 rfl ?_
    refine rt_if_eq rfl (fun _ => ?_) (fun hc => absurd rfl hc)
    refine rt_run 6 rfl ?_
    refine rt_aald rfl hi ?_
    refine rt_run 5 rfl ?_
    refine rt_cV (ci := 9) mX9_routesOf kX10_count_57 okX9_routesOf rfl rfl rfl rfl rfl ?_
    refine routesOf_spec hw1 hw2 (isE_x hi) (Or.inl rfl) hE hC.2.1 (hC.1.ok _) hj hk (by omega) (fun τ1 wa' wb' hO1 hw1' hw2' => ?_)
    refine rt_cV (ci := 10) mX10_orRefused kX10_count_60 okX10_orRefused rfl rfl rfl rfl rfl ?_
    refine orRefused_spec (a := a) (hC.scr (hO1.up (by decide)) ⟨wa', wb', hw1', hw2'⟩) (fun τ2 hO2 hC2 => ?_)
    exact rt_iret rfl rfl (h τ2 ((hO1.c (by decide)).tr hO2) hC2)
theorem route_spec {x u v k w : Int32} (hC : CIs τ a) (h : ∀ τ', OffC τ τ' → CIs τ' (rouA a x u v k w).2 → Q (some (.int (rouA a x u v k w).1)) τ') : RT mX10_route none 0 [some (.ref 0), some (.int x), some (.int u), some (.int v), some (.int k), some (.int w), none, none, none] [] τ Q := by
  have no : ∀ r, (r = -2 ∨ r = -3 ∨ r = -4) → rouA a x u v k w = rfA r a → RT mX10_route none 28 [some (.ref 0), some (.int x), some (.int u), some (.int v), some (.int k), some (.int w), none, none, none] [.int r] τ Q := by
    intro r hr e
    rw [e] at h
    refine rt_run 2 rfl ?_
    refine rt_if_eq rfl (fun hc => by rcases hr with rfl | rfl | rfl <;> exact absurd hc (by decide)) (fun _ => ?_)
    refine rt_run 2 rfl ?_
    refine rt_cV (ci := 10) mX10_refuse kX10_route_38 okX10_refuse rfl rfl rfl rfl rfl ?_
    exact refuse_spec hC hr (fun τ' hO hC' => rt_iret rfl rfl (h τ' hO hC'))
  have bad : rouA a x u v k w = rfA (-2) a → RT mX10_route none 16 [some (.ref 0), some (.int x), some (.int u), some (.int v), some (.int k), some (.int w), none, none, none] [] τ Q := by
    intro e
    refine rt_run 2 rfl ?_
    exact no _ (Or.inl rfl) e
  refine rt_run 1 rfl ?_
  refine rt_if_lt rfl (fun hc => bad (by unfold rouA; rw [if_pos hc])) (fun hk0 => ?_)
  obtain ⟨k', hk', ek⟩ := nI_of hk0
  have rl : rn 3 w = none → rouA a x u v k w = rfA (-2) a := fun e => by unfold rouA; rw [if_neg hk0, e]
  refine rt_run 1 rfl ?_
  refine rt_if_lt rfl (fun hc => bad (rl (rn_out (Or.inl hc)))) (fun hc => ?_)
  refine rt_run 2 rfl ?_
  rcases pk_ix w (n := 3) (by decide) with g | g | ⟨w', hw, ew⟩
  · exact absurd g hc
  · exact rt_ic_le rfl (fun hd => absurd hd (le_no (n := 2) (by decide) g)) (fun hd => bad (rl (rn_out (Or.inr g))))
  subst ew
  refine rt_le w' 2 rfl (by omega) (by omega) (fun _ => ?_) (fun _ => by omega)
  subst ek
  have e0 : rouA a x u v (nI k') (nI w') = rtA a x u v (fun A u v => (rouV (aS a) A u v k' w', a)) := by
    unfold rouA; rw [if_neg hk0, rn_so hw (by decide), nI_clamp hk']
  rw [e0] at h no
  refine rt_run 4 rfl ?_
  refine rt_cV (ci := 10) mX10_refusalOf kX10_route_25 okX10_refusalOf rfl rfl rfl rfl rfl ?_
  refine refusalOf_spec hC (fun hb => no _ (Or.inl rfl) (rtA_bad hb)) (fun i j l hi hj hl e1 e2 e3 hA => ?_) (fun i j l A hi hj hl e1 e2 e3 hA hE => ?_)
  · subst e1; subst e2; subst e3
    exact no _ (Or.inr (Or.inl rfl)) (by rw [rtA_ok hi hj hl, hA])
  · subst e1; subst e2; subst e3
    rw [rtA_ok hi hj hl, hA] at h
    dsimp only at h
    have hL := hC.1.ok none
    refine rt_run 2 rfl ?_
    refine rt_if_eq rfl (fun _ => ?_) (fun hc => absurd rfl hc)
    refine rt_run 5 rfl ?_
    refine rt_aald rfl hi ?_
    refine rt_run 4 rfl ?_
    refine rt_cV (ci := 5) mX5_trace kX10_route_58 okX5_trace rfl rfl rfl rfl rfl ?_
    refine trace_spec (isE_x hi) (Or.inl rfl) hE hC.2.1 hL hj hl (fun τ1 n hO1 hn hlev hlen hpath => ?_) (fun τ1 hO1 hno => ?_)
    · have hC1 : CIs τ1 a := hC.scr (hO1.w.up (by decide)) (hC.2.2.2.2.2.1.eq hO1.2)
      have hfin : Q (some (.int (rouV (stL (aG a) none) A j l k' w'))) τ1 := h τ1 (hO1.c (by decide)) hC1
      unfold rouV at hfin
      rw [farO_so hlev] at hfin
      dsimp only at hfin
      refine rt_run 3 rfl ?_
      refine rt_lt k' n rfl (by omega) (by omega) (fun hlt => ?_) (fun hge => ?_)
      · have hgk : (gp (stL (aG a) none) A l n j δ0)[k']? = some (gp (stL (aG a) none) A l n j δ0)[k'] := List.getElem?_eq_getElem (by omega)
        obtain ⟨p1, p2⟩ := hpath k' _ hgk
        rw [hgk] at hfin
        dsimp only at hfin
        generalize (gp (stL (aG a) none) A l n j δ0)[k'] = s at p1 p2 hfin
        have hls : (stL (aG a) none)[s]? = some (stL (aG a) none)[s] := List.getElem?_eq_getElem p2
        rw [hls] at hfin
        dsimp only at hfin
        obtain ⟨g1, g2, g3, g4⟩ := hC1.2.1.2 s _ hls
        obtain ⟨c1, c2, c3⟩ := hL.2 _ (List.getElem_mem p2)
        have h60 := hL.1
        refine rt_run 4 rfl ?_
        refine rt_ld k' rfl (n := 250) rfl (by omega) ?_
        rw [p1]
        refine rt_run 2 rfl ?_
        refine rt_if_ne rfl (fun hw0 => ?_) (fun hw0 => ?_)
        · have : w' ≠ 0 := fun e => hw0 (by rw [e]; rfl)
          rw [if_neg this] at hfin
          refine rt_run 2 rfl ?_
          refine rt_ne w' 1 rfl (by omega) (by omega) (fun hw1 => ?_) (fun hw1 => ?_)
          · rw [if_neg hw1] at hfin
            refine rt_run 4 rfl ?_
            refine rt_ld s rfl (n := 60) rfl (by omega) ?_
            rw [g3]
            exact rt_iret rfl rfl hfin
          · rw [if_pos hw1] at hfin
            refine rt_run 4 rfl ?_
            refine rt_ld s rfl (n := 60) rfl (by omega) ?_
            rw [g2]
            refine rt_run 1 rfl ?_
            refine rt_idiv rfl (by decide) ?_
            rw [show nI (stL (aG a) none)[s].2.1 / 4 = nI ((stL (aG a) none)[s].2.1 / 4) from pk_div (d := 4) (by omega) (by decide) (by decide)]
            refine rt_run 1 rfl ?_
            exact rt_iret rfl rfl hfin
        · have : w' = 0 := by
            by_cases hz : w' = 0
            · exact hz
            · exact absurd hw0 (nI_ne0 (by omega) (by omega))
          rw [if_pos this] at hfin
          refine rt_run 4 rfl ?_
          refine rt_ld s rfl (n := 60) rfl (by omega) ?_
          rw [g4]
          exact rt_iret rfl rfl hfin
      · rw [List.getElem?_eq_none (by omega)] at hfin
        refine rt_run 1 rfl ?_
        exact rt_iret rfl rfl hfin
    · have hC1 : CIs τ1 a := hC.scr (hO1.w.up (by decide)) (hC.2.2.2.2.2.1.eq hO1.2)
      have hfin : Q (some (.int (rouV (stL (aG a) none) A j l k' w'))) τ1 := h τ1 (hO1.c (by decide)) hC1
      unfold rouV at hfin
      rw [farO_no hno] at hfin
      refine rt_run 3 rfl ?_
      refine rt_ic_lt rfl (fun hc => ?_) (fun _ => ?_)
      · exfalso
        rw [Int32.lt_iff_toInt_lt, nI_toInt hk'] at hc
        have : (-1 : Int32).toInt = -1 := by decide
        omega
      · refine rt_run 1 rfl ?_
        exact rt_iret rfl rfl hfin
end ClRoutes

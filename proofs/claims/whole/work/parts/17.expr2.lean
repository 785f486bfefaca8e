/-! Expression: the rest of its methods -/
theorem finishes_spec {k : Nat} {set : Int32} {τ : Ty} {Q : Option Value → Ty → Prop} (hk : isE k) (h : Q (some (.int (if set &&& gF τ k 2 = 0 then 0 else 1))) τ) : RT mX2_finishes none 0 [some (.ref k), some (.int set)] [] τ Q := by
  obtain ⟨f0, f1, f2, f3, f4, a0, a1, h38⟩ := isE_f hk
  refine rt_run 2 rfl ?_
  refine rt_getI rfl f2 ?_
  refine rt_run 1 rfl ?_
  refine rt_if_eq rfl (fun hc => ?_) (fun hc => ?_)
  · refine rt_run 1 rfl ?_
    rw [if_pos hc] at h
    exact rt_zret rfl rfl (Or.inl rfl) h
  · refine rt_run 2 rfl ?_
    rw [if_neg hc] at h
    exact rt_zret rfl rfl (Or.inr rfl) h
/-- the places whose row meets a set -/
def ahL (f : Nat → Int32) (s : Int32) : Nat → Int32
  | 0 => 0
  | p + 1 => if f p &&& s = 0 then ahL f s p else ahL f s p ||| (1 <<< (nI p &&& 31))
theorem aheadOf_spec {k n : Nat} {set : Int32} {τ : Ty} {Q : Option Value → Ty → Prop} (hk : isE k) (hn : gF τ k 3 = nI n) (hn24 : n ≤ 24) (h : Q (some (.int (ahL (gI τ (k + 1)) set (n + 1)))) τ) : RT mX2_aheadOf none 0 [some (.ref k), some (.int set), none, none] [] τ Q := by
  obtain ⟨f0, f1, f2, f3, f4, a0, a1, h38⟩ := isE_f hk
  have loop : ∀ d p, p + d = n + 1 → RT mX2_aheadOf none 4 [some (.ref k), some (.int set), some (.int (ahL (gI τ (k + 1)) set p)), some (.int (nI p))] [] τ Q := by
    intro d
    induction d with
    | zero =>
      intro p hp
      refine rt_run 2 rfl ?_
      refine rt_getI rfl f3 ?_
      refine rt_gt p n rfl (by omega) (by omega) (fun _ => ?_) (fun _ => by omega)
      refine rt_run 1 rfl ?_
      exact rt_iret rfl rfl (by rw [show p = n + 1 by omega]; exact h)
    | succ d ih =>
      intro p hp
      refine rt_run 2 rfl ?_
      refine rt_getI rfl f3 ?_
      refine rt_gt p n rfl (by omega) (by omega) (fun _ => by omega) (fun _ => ?_)
      refine rt_run 1 rfl ?_
      refine rt_getQ rfl f0 h38 ?_
      refine rt_run 1 rfl ?_
      refine rt_ld p rfl a0 (by omega) ?_
      refine rt_run 2 rfl ?_
      have := ih (p + 1) (by omega)
      rw [nI_succ] at this
      refine rt_if_eq rfl (fun hc => ?_) (fun hc => ?_)
      · refine rt_run 2 rfl ?_
        rw [show ahL (gI τ (k + 1)) set (p + 1) = ahL (gI τ (k + 1)) set p by simp only [ahL, if_pos hc]] at this
        exact this
      · refine rt_run 8 rfl ?_
        rw [show ahL (gI τ (k + 1)) set (p + 1) = ahL (gI τ (k + 1)) set p ||| (1 <<< (nI p &&& 31)) by simp only [ahL, if_neg hc]] at this
        exact this
  refine rt_run 4 rfl ?_
  exact loop (n + 1) 0 (by omega)
theorem after_spec {k n s : Nat} {set : Int32} {τ : Ty} {Q : Option Value → Ty → Prop} (hk : isE k) (hn : gF τ k 3 = nI n) (hn24 : n ≤ 24) (hs : s < 8) (h : Q (some (.int (orL (gI τ (k + 1)) set (n + 1) &&& gI τ (k + 2) s))) τ) : RT mX2_after none 0 [some (.ref k), some (.int set), some (.int (nI s))] [] τ Q := by
  obtain ⟨f0, f1, f2, f3, f4, a0, a1, h38⟩ := isE_f hk
  refine rt_run 2 rfl ?_
  refine rt_cV (ci := 2) mX2_behind kX2_after_2 okX2_behind (isE_s hk) rfl rfl rfl rfl ?_
  refine behind_spec hk hn hn24 ?_
  refine rt_run 1 rfl ?_
  refine rt_getQ rfl f1 h38 ?_
  refine rt_run 1 rfl ?_
  refine rt_ld s rfl a1 hs ?_
  refine rt_run 1 rfl ?_
  exact rt_iret rfl rfl h
theorem wipe_spec {k : Nat} {τ : Ty} {Q : Option Value → Ty → Prop} (hk : isE k) (h : ∀ f g : Nat → Int32, (∀ j, j < 25 → f j = 0) → (∀ j, j < 8 → g j = 0) → Q none (sF (sF (sF (sA (sA τ (k + 1) f) (k + 2) g) k 2 0) k 3 0) k 4 0)) : RT mX2_wipe none 0 [some (.ref k)] [] τ Q := by
  obtain ⟨f0, f1, f2, f3, f4, a0, a1, h38⟩ := isE_f hk
  refine rt_run 1 rfl ?_
  refine rt_getQ rfl f0 h38 ?_
  refine rt_run 1 rfl ?_
  refine rt_cS mJ7_fill_53178 kX2_wipe_5 okJ7_fill_53178 rfl rfl ?_
  refine fill_spec a0 (fun f hf => ?_)
  refine rt_run 1 rfl ?_
  refine rt_getQ rfl f1 h38 ?_
  refine rt_run 1 rfl ?_
  refine rt_cS mJ7_fill_53178 kX2_wipe_13 okJ7_fill_53178 rfl rfl ?_
  refine fill_spec a1 (fun g hg => ?_)
  refine rt_run 2 rfl ?_
  refine rt_putI rfl f2 rfl ?_
  refine rt_run 2 rfl ?_
  refine rt_putI rfl f3 rfl ?_
  refine rt_run 2 rfl ?_
  refine rt_putZ rfl f4 rfl (Or.inl rfl) ?_
  exact rt_vret rfl rfl (h f g hf hg)
theorem become_spec {k k1 : Nat} {τ : Ty} {Q : Option Value → Ty → Prop} (hk : isE k) (hk1 : isE k1) (hne : k ≠ k1) (h : ∀ f g : Nat → Int32, (∀ j, j < 25 → f j = gI τ (k1 + 1) j) → (∀ j, j < 8 → g j = gI τ (k1 + 2) j) → Q none (sF (sF (sF (sA (sA τ (k + 1) f) (k + 2) g) k 2 (gF τ k1 2)) k 3 (gF τ k1 3)) k 4 1)) : RT mX2_become none 0 [some (.ref k), some (.ref k1)] [] τ Q := by
  obtain ⟨f0, f1, f2, f3, f4, a0, a1, h38⟩ := isE_f hk
  obtain ⟨p0, p1, p2, p3, p4, b0, b1, q38⟩ := isE_f hk1
  refine rt_run 1 rfl ?_
  refine rt_getQ rfl p0 q38 ?_
  refine rt_run 2 rfl ?_
  refine rt_getQ rfl f0 h38 ?_
  refine rt_run 2 rfl ?_
  refine rt_copy rfl (by decide +kernel) b0 a0 (by decide) (by decide) (by decide) (by decide) (by decide) (by decide) (by decide) ?_
  refine rt_run 1 rfl ?_
  refine rt_getQ rfl p1 q38 ?_
  refine rt_run 2 rfl ?_
  refine rt_getQ rfl f1 h38 ?_
  refine rt_run 2 rfl ?_
  refine rt_copy rfl (by decide +kernel) b1 a1 (by decide) (by decide) (by decide) (by decide) (by decide) (by decide) (by decide) ?_
  refine rt_run 2 rfl ?_
  refine rt_getI rfl p2 ?_
  refine rt_putI rfl f2 rfl ?_
  refine rt_run 2 rfl ?_
  refine rt_getI rfl p3 ?_
  refine rt_putI rfl f3 rfl ?_
  refine rt_run 2 rfl ?_
  refine rt_putZ rfl f4 rfl (Or.inr rfl) ?_
  refine rt_vret rfl rfl ?_
  have hf3 : gF (sF (sA (sA τ (k + 1) (va_cpy (gI τ (k1 + 1)) (gI τ (k + 1)) 0 0 25)) (k + 2) (va_cpy (gI (sA τ (k + 1) (va_cpy (gI τ (k1 + 1)) (gI τ (k + 1)) 0 0 25)) (k1 + 2)) (gI (sA τ (k + 1) (va_cpy (gI τ (k1 + 1)) (gI τ (k + 1)) 0 0 25)) (k + 2)) 0 0 8)) k 2 (gF τ k1 2)) k1 3 = gF τ k1 3 := by
    rw [gF_sF, if_neg (fun e => hne e.symm)]; rfl
  have hq := h (va_cpy (gI τ (k1 + 1)) (gI τ (k + 1)) 0 0 25) (va_cpy (gI (sA τ (k + 1) (va_cpy (gI τ (k1 + 1)) (gI τ (k + 1)) 0 0 25)) (k1 + 2)) (gI (sA τ (k + 1) (va_cpy (gI τ (k1 + 1)) (gI τ (k + 1)) 0 0 25)) (k + 2)) 0 0 8)
    (fun j hj => by rw [pk_cpy_in (by omega) (by omega)]; congr 1; omega)
    (fun j hj => by
      rw [pk_cpy_in (by omega) (by omega), gI_sA]
      have : ¬ k1 + 2 = k + 1 := by
        rcases hk with rfl | rfl | rfl | rfl | rfl <;> rcases hk1 with rfl | rfl | rfl | rfl | rfl <;> omega
      rw [if_neg this]; congr 1; omega)
  rw [← hf3] at hq
  exact hq
theorem newPlace_spec {k n : Nat} {signs : Int32} {τ : Ty} {Q : Option Value → Ty → Prop} (hk : isE k) (hn : gF τ k 3 = nI n) (hn24 : n < 24)
    (h : ∀ g : Nat → Int32, (∀ s, s < 8 → g s = if bt signs s = true then gI τ (k + 2) s ||| (1 <<< (nI (n + 1) &&& 31)) else gI τ (k + 2) s) → Q (some (.int (1 <<< (nI (n + 1) &&& 31)))) (sA (sF τ k 3 (nI (n + 1))) (k + 2) g)) : RT mX2_newPlace none 0 [some (.ref k), some (.int signs), none, none] [] τ Q := by
  obtain ⟨f0, f1, f2, f3, f4, a0, a1, h38⟩ := isE_f hk
  refine rt_run 1 rfl ?_
  refine rt_getI rfl f3 ?_
  refine rt_run 1 rfl ?_
  refine rt_lt n 24 rfl (by omega) (by omega) (fun _ => ?_) (fun _ => by omega)
  refine rt_run 2 rfl ?_
  refine rt_getI rfl f3 ?_
  refine rt_run 2 rfl ?_
  refine rt_putI rfl f3 rfl ?_
  rw [hn, ← nI_succ]
  refine rt_run 2 rfl ?_
  refine rt_getI rfl f3 ?_
  rw [show gF (sF τ k 3 (nI (n + 1))) k 3 = nI (n + 1) by rw [gF_sF, if_pos rfl]; exact pk_us]
  refine rt_run 4 rfl ?_
  have loop : ∀ d s (g : Nat → Int32), s + d = 8 → (∀ j, j < s → g j = if bt signs j = true then gI τ (k + 2) j ||| (1 <<< (nI (n + 1) &&& 31)) else gI τ (k + 2) j) → (∀ j, s ≤ j → g j = gI τ (k + 2) j) →
      RT mX2_newPlace none 30 [some (.ref k), some (.int signs), some (.int (1 <<< (nI (n + 1) &&& 31))), some (.int (nI s))] [] (sA (sF τ k 3 (nI (n + 1))) (k + 2) g) Q := by
    intro d
    induction d with
    | zero =>
      intro s g hs hg _
      refine rt_run 2 rfl ?_
      refine rt_ge s 8 rfl (by omega) (by omega) (fun _ => ?_) (fun _ => by omega)
      refine rt_run 1 rfl ?_
      exact rt_iret rfl rfl (h g (fun s' hs' => hg s' (by omega)))
    | succ d ih =>
      intro s g hs hg hg2
      refine rt_run 2 rfl ?_
      refine rt_ge s 8 rfl (by omega) (by omega) (fun _ => by omega) (fun _ => ?_)
      refine rt_run 5 rfl ?_
      refine rt_if_eq rfl (fun hc => ?_) (fun hc => ?_)
      · refine rt_run 2 rfl ?_
        have := ih (s + 1) g (by omega) (fun j hj => by
          by_cases hjs : j = s
          · subst hjs; rw [bt_f (by omega) hc]; exact hg2 j (Nat.le_refl _)
          · exact hg j (by omega)) (fun j hj => hg2 j (by omega))
        rw [nI_succ s] at this
        exact this
      · refine rt_run 1 rfl ?_
        refine rt_getQ rfl f1 h38 ?_
        refine rt_run 2 rfl ?_
        refine rt_ld s rfl a1 (by omega) ?_
        refine rt_run 2 rfl ?_
        refine rt_st s rfl a1 (by omega) ?_
        rw [sI_sA, gI_sA, if_pos rfl]
        refine rt_run 2 rfl ?_
        have := ih (s + 1) (upd g s (g s ||| (1 <<< (nI (n + 1) &&& 31)))) (by omega) (fun j hj => by
          by_cases hjs : j = s
          · subst hjs; rw [pk_us, bt_t (by omega) hc, hg2 j (Nat.le_refl _)]; rfl
          · rw [pk_un hjs]; exact hg j (by omega)) (fun j hj => by rw [pk_un (by omega)]; exact hg2 j (by omega))
        rw [nI_succ s] at this
        exact this
  have := loop 8 0 (gI τ (k + 2)) (by omega) (fun j hj => by omega) (fun _ _ => rfl)
  rw [show gI τ (k + 2) = gI (sF τ k 3 (nI (n + 1))) (k + 2) from rfl, sA_self] at this
  exact this
theorem link_spec {k n : Nat} {these beh : Int32} {τ : Ty} {Q : Option Value → Ty → Prop} (hk : isE k) (hn : gF τ k 3 = nI n) (hn24 : n ≤ 24)
    (h : ∀ f : Nat → Int32, (∀ p, f p = if 1 ≤ p ∧ p ≤ n ∧ bt these p = true then gI τ (k + 1) p ||| (beh &&& -2) else gI τ (k + 1) p) → Q none (sA τ (k + 1) f)) : RT mX2_link none 0 [some (.ref k), some (.int these), some (.int beh), none] [] τ Q := by
  obtain ⟨f0, f1, f2, f3, f4, a0, a1, h38⟩ := isE_f hk
  have loop : ∀ d s (f : Nat → Int32), s + d = n + 1 → 1 ≤ s → (∀ j, f j = if 1 ≤ j ∧ j < s ∧ bt these j = true then gI τ (k + 1) j ||| (beh &&& -2) else gI τ (k + 1) j) →
      RT mX2_link none 2 [some (.ref k), some (.int these), some (.int beh), some (.int (nI s))] [] (sA τ (k + 1) f) Q := by
    intro d
    induction d with
    | zero =>
      intro s f hs h1 hf
      refine rt_run 2 rfl ?_
      refine rt_getI rfl f3 ?_
      refine rt_gt s n rfl (by omega) (by omega) (fun _ => ?_) (fun _ => by omega)
      refine rt_vret rfl rfl (h f (fun p => ?_))
      rw [hf p]
      have : (1 ≤ p ∧ p < s ∧ bt these p = true) ↔ (1 ≤ p ∧ p ≤ n ∧ bt these p = true) := by
        constructor <;> intro hh <;> exact ⟨hh.1, by omega, hh.2.2⟩
      simp only [this]
    | succ d ih =>
      intro s f hs h1 hf
      refine rt_run 2 rfl ?_
      refine rt_getI rfl f3 ?_
      refine rt_gt s n rfl (by omega) (by omega) (fun _ => by omega) (fun _ => ?_)
      refine rt_run 5 rfl ?_
      refine rt_if_eq rfl (fun hc => ?_) (fun hc => ?_)
      · refine rt_run 2 rfl ?_
        have := ih (s + 1) f (by omega) (by omega) (fun j => by
          rw [hf j]
          by_cases hjs : j = s
          · subst hjs
            have hb := bt_f (by omega) hc
            simp [hb]
          · have : (1 ≤ j ∧ j < s ∧ bt these j = true) ↔ (1 ≤ j ∧ j < s + 1 ∧ bt these j = true) := by
              constructor <;> intro hh <;> exact ⟨hh.1, by omega, hh.2.2⟩
            simp only [this])
        rw [nI_succ] at this
        exact this
      · refine rt_run 1 rfl ?_
        refine rt_getQ rfl f0 h38 ?_
        refine rt_run 2 rfl ?_
        refine rt_ld s rfl a0 (by omega) ?_
        refine rt_run 4 rfl ?_
        refine rt_st s rfl a0 (by omega) ?_
        rw [sI_sA, gI_sA, if_pos rfl]
        refine rt_run 2 rfl ?_
        have := ih (s + 1) (upd f s (f s ||| (beh &&& -2))) (by omega) (by omega) (fun j => by
          by_cases hjs : j = s
          · subst hjs
            rw [pk_us, hf j, if_neg (by omega), if_pos ⟨h1, by omega, bt_t (by omega) hc⟩]
          · rw [pk_un hjs, hf j]
            have : (1 ≤ j ∧ j < s ∧ bt these j = true) ↔ (1 ≤ j ∧ j < s + 1 ∧ bt these j = true) := by
              constructor <;> intro hh <;> exact ⟨hh.1, by omega, hh.2.2⟩
            simp only [this])
        rw [nI_succ] at this
        exact this
  refine rt_run 2 rfl ?_
  have := loop n 1 (gI τ (k + 1)) (by omega) (by omega) (fun j => by rw [if_neg (by omega)])
  rw [sA_self] at this
  exact this

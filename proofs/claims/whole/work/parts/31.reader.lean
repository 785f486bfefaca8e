/-! Reader: its state, and what each of its methods makes of it -/
/-- by depth: the row's firsts and lasts, the choice's firsts and lasts; the part's; the stage; the depth; the draft's rows, signs, number of places -/
abbrev PSt : Type := (Nat → Int32) × (Nat → Int32) × (Nat → Int32) × (Nat → Int32) × Int32 × Int32 × Nat × Nat × (Nat → Int32) × (Nat → Int32) × Nat
def RdIs (τ : Ty) : PSt → Prop
  | (rf, rl, cf, cl, pf, pl, sg, d, fol, be, n) => gF τ 22 5 = nI d ∧ d ≤ 80 ∧ (sg = 2 → gF τ 22 6 = pf) ∧ (sg = 2 → gF τ 22 7 = pl) ∧ gF τ 22 8 = nI sg ∧ sg ≤ 2 ∧ (∀ j, j ≤ d → gI τ 26 j = rf j ∧ gI τ 27 j = rl j ∧ gI τ 28 j = cf j ∧ gI τ 29 j = cl j) ∧ gF τ 23 3 = nI n ∧ n ≤ 24 ∧ (∀ p, p < 25 → gI τ 24 p = fol p) ∧ ∀ s, s < 8 → gI τ 25 s = be s
abbrev kR : List Nat := [22, 23, 24, 25, 26, 27, 28, 29]
def lnkF (fol : Nat → Int32) (n : Nat) (these beh : Int32) : Nat → Int32 := fun p => if 1 ≤ p ∧ p ≤ n ∧ bt these p = true then fol p ||| (beh &&& -2) else fol p
def pRow : PSt → PSt
  | (rf, rl, cf, cl, pf, pl, sg, d, fol, be, n) => (upd rf d 1, upd rl d 1, cf, cl, pf, pl, sg, d, fol, be, n)
def pChoice : PSt → PSt
  | (rf, rl, cf, cl, pf, pl, sg, d, fol, be, n) => (upd rf d 1, upd rl d 1, upd cf d 0, upd cl d 0, pf, pl, sg, d, fol, be, n)
def pClose : PSt → PSt
  | (rf, rl, cf, cl, pf, pl, sg, d, fol, be, n) => if sg = 2 then (upd rf d (if rf d &&& 1 = 0 then rf d else (rf d &&& -2) ||| pf), upd rl d (if pl &&& 1 = 0 then pl else rl d ||| (pl &&& -2)), cf, cl, pf, pl, sg, d, lnkF fol n (rl d) pf, be, n) else (rf, rl, cf, cl, pf, pl, sg, d, fol, be, n)
def pCloseR (S : PSt) : PSt := match pClose S with
  | (rf, rl, cf, cl, pf, pl, sg, d, fol, be, n) => (rf, rl, upd cf d (cf d ||| rf d), upd cl d (cl d ||| rl d), pf, pl, sg, d, fol, be, n)
def pOpenPart (f l : Int32) : PSt → PSt
  | (rf, rl, cf, cl, _, _, _, d, fol, be, n) => (rf, rl, cf, cl, f, l, 2, d, fol, be, n)
def pDepth (d' : Nat) : PSt → PSt
  | (rf, rl, cf, cl, pf, pl, sg, _, fol, be, n) => (rf, rl, cf, cl, pf, pl, sg, d', fol, be, n)
def pStage (sg' : Nat) : PSt → PSt
  | (rf, rl, cf, cl, pf, pl, _, d, fol, be, n) => (rf, rl, cf, cl, pf, pl, sg', d, fol, be, n)
abbrev qStage (S : PSt) : Nat := S.2.2.2.2.2.2.1
abbrev qDepth (S : PSt) : Nat := S.2.2.2.2.2.2.2.1
abbrev qN (S : PSt) : Nat := S.2.2.2.2.2.2.2.2.2.2
theorem beginRow_spec {S : PSt} {τ : Ty} {Q : Option Value → Ty → Prop} (hR : RdIs τ S) (h : ∀ τ', Off kR τ τ' → RdIs τ' (pRow S) → Q none τ') : RT mX4_beginRow none 0 [some (.ref 22)] [] τ Q := by
  obtain ⟨rf, rl, cf, cl, pf, pl, sg, d, fol, be, n⟩ := S
  obtain ⟨r1, r2, r3, r4, r5, r6, r7, r8, r9, r10, r11⟩ := hR
  refine rt_run 5 rfl ?_
  refine rt_st d rfl (n := 81) rfl (by omega) ?_ r1
  refine rt_run 5 rfl ?_
  refine rt_st d rfl (n := 81) rfl (by omega) ?_ r1
  refine rt_vret rfl rfl (h _ (((Off.rf _ _).sI (by simp) _ _).sI (by simp) _ _) ⟨r1, r2, r3, r4, r5, r6, fun j hj => ?_, r8, r9, r10, r11⟩)
  obtain ⟨q1, q2, q3, q4⟩ := r7 j hj
  refine ⟨?_, ?_, q3, q4⟩
  · show upd (gI τ 26) d 1 j = upd rf d 1 j
    unfold upd; split; rfl; exact q1
  · show upd (gI τ 27) d 1 j = upd rl d 1 j
    unfold upd; split; rfl; exact q2
theorem beginChoice_spec {S : PSt} {τ : Ty} {Q : Option Value → Ty → Prop} (hR : RdIs τ S) (h : ∀ τ', Off kR τ τ' → RdIs τ' (pChoice S) → Q none τ') : RT mX4_beginChoice none 0 [some (.ref 22)] [] τ Q := by
  obtain ⟨rf, rl, cf, cl, pf, pl, sg, d, fol, be, n⟩ := S
  obtain ⟨r1, r2, r3, r4, r5, r6, r7, r8, r9, r10, r11⟩ := hR
  refine rt_run 5 rfl ?_
  refine rt_st d rfl (n := 81) rfl (by omega) ?_ r1
  refine rt_run 5 rfl ?_
  refine rt_st d rfl (n := 81) rfl (by omega) ?_ r1
  refine rt_run 1 rfl ?_
  refine rt_cV (ci := 4) mX4_beginRow kX4_beginChoice_21 okX4_beginRow rfl rfl rfl rfl rfl ?_
  refine beginRow_spec (S := (rf, rl, upd cf d 0, upd cl d 0, pf, pl, sg, d, fol, be, n)) ⟨r1, r2, r3, r4, r5, r6, fun j hj => ?_, r8, r9, r10, r11⟩ (fun τ' hO hR' => ?_)
  · obtain ⟨q1, q2, q3, q4⟩ := r7 j hj
    refine ⟨q1, q2, ?_, ?_⟩
    · show upd (gI τ 28) d 0 j = upd cf d 0 j
      unfold upd; split; rfl; exact q3
    · show upd (gI τ 29) d 0 j = upd cl d 0 j
      unfold upd; split; rfl; exact q4
  · exact rt_vret rfl rfl (h τ' ((((Off.rf _ _).sI (by simp) _ _).sI (by simp) _ _).tr hO) hR')
theorem closePart_spec {S : PSt} {τ : Ty} {Q : Option Value → Ty → Prop} (hR : RdIs τ S) (h : ∀ τ', Off kR τ τ' → RdIs τ' (pClose S) → Q none τ') : RT mX4_closePart none 0 [some (.ref 22)] [] τ Q := by
  obtain ⟨rf, rl, cf, cl, pf, pl, sg, d, fol, be, n⟩ := S
  obtain ⟨r1, r2, r3, r4, r5, r6, r7, r8, r9, r10, r11⟩ := hR
  refine rt_run 3 rfl ?_
  refine rt_eq sg 2 rfl (by omega) (by omega) (fun e => ?_) (fun e => ?_) r5
  · obtain ⟨q1, q2, q3, q4⟩ := r7 d (Nat.le_refl _)
    refine rt_run 6 rfl ?_
    refine rt_ld d rfl (n := 81) rfl (by omega) ?_ r1
    refine rt_run 2 rfl ?_
    rw [q2, r3 e]
    refine rt_cV (ci := 2) mX2_link kX4_closePart_26 okX2_link rfl rfl rfl rfl rfl ?_
    refine link_spec (n := n) (Or.inl rfl) r8 r9 (fun f hf => ?_)
    have hP : pClose (rf, rl, cf, cl, pf, pl, sg, d, fol, be, n) = (upd rf d (if rf d &&& 1 = 0 then rf d else (rf d &&& -2) ||| pf), upd rl d (if pl &&& 1 = 0 then pl else rl d ||| (pl &&& -2)), cf, cl, pf, pl, sg, d, lnkF fol n (rl d) pf, be, n) := by
      show (if sg = 2 then _ else _) = _
      rw [if_pos e]
    rw [hP] at h
    have hfol : ∀ p, p < 25 → f p = lnkF fol n (rl d) pf p := by
      intro p hp
      rw [hf p]
      unfold lnkF
      rw [show gI τ (23 + 1) p = fol p from r10 p hp]
    -- the lasts, behind the firsts
    have lasts : ∀ τ1 (rf' : Nat → Int32), Off kR τ τ1 → RdIs τ1 (rf', rl, cf, cl, pf, pl, sg, d, lnkF fol n (rl d) pf, be, n) → rf' = upd rf d (if rf d &&& 1 = 0 then rf d else (rf d &&& -2) ||| pf) → RT mX4_closePart none 69 [some (.ref 22)] [] τ1 Q := by
      intro τ1 rf' hO1 hR1 hrf
      subst hrf
      obtain ⟨s1, s2, s3, s4, s5, s6, s7, s8, s9, s10, s11⟩ := hR1
      obtain ⟨q1, q2, q3, q4⟩ := s7 d (Nat.le_refl _)
      refine rt_run 2 rfl ?_
      rw [s4 e]
      refine rt_run 2 rfl ?_
      have done : ∀ x : Int32, x = (if pl &&& 1 = 0 then pl else rl d ||| (pl &&& -2)) → RT mX4_closePart none 113 [some (.ref 22)] [] (sI τ1 27 d x) Q := by
        intro x hx
        refine rt_vret rfl rfl (h _ (hO1.sI (by simp) _ _) ⟨s1, s2, s3, s4, s5, s6, fun j hj => ?_, s8, s9, s10, s11⟩)
        obtain ⟨q1, q2, q3, q4⟩ := s7 j hj
        refine ⟨q1, ?_, q3, q4⟩
        show upd (gI τ1 27) d x j = upd rl d _ j
        rw [← hx]
        unfold upd; split; rfl; exact q2
      refine rt_if_eq rfl (fun hc => ?_) (fun hc => ?_)
      · refine rt_run 6 rfl ?_
        rw [s4 e]
        refine rt_st d rfl (n := 81) rfl (by omega) ?_ s1
        exact done _ (by rw [if_pos hc])
      · refine rt_run 5 rfl ?_
        refine rt_ld d rfl (n := 81) rfl (by omega) ?_ s1
        refine rt_run 5 rfl ?_
        rw [s4 e, q2]
        refine rt_st d rfl (n := 81) rfl (by omega) ?_ s1
        refine rt_run 1 rfl ?_
        exact done _ (by rw [if_neg hc])
    refine rt_run 4 rfl ?_
    refine rt_ld d rfl (n := 81) rfl (by omega) ?_ r1
    rw [show gI (sA τ (23 + 1) f) 26 d = rf d from q1]
    refine rt_run 2 rfl ?_
    have hO0 : Off kR τ (sA τ (23 + 1) f) := (Off.rf _ _).sA (by simp) _
    refine rt_if_eq rfl (fun hc => ?_) (fun hc => ?_)
    · refine lasts _ rf hO0 ⟨r1, r2, r3, r4, r5, r6, r7, r8, r9, hfol, r11⟩ ?_
      funext j
      rw [if_pos hc]
      unfold upd
      split
      · rename_i e; rw [e]
      · rfl
    · refine rt_run 8 rfl ?_
      refine rt_ld d rfl (n := 81) rfl (by omega) ?_ r1
      rw [show gI (sA τ (23 + 1) f) 26 d = rf d from q1]
      refine rt_run 5 rfl ?_
      rw [show gF (sA τ (23 + 1) f) 22 6 = pf from r3 e]
      refine rt_st d rfl (n := 81) rfl (by omega) ?_ r1
      refine lasts _ (upd rf d ((rf d &&& -2) ||| pf)) (hO0.sI (by simp) _ _) ⟨r1, r2, r3, r4, r5, r6, fun j hj => ?_, r8, r9, hfol, r11⟩ (by rw [if_neg hc])
      obtain ⟨q1, q2, q3, q4⟩ := r7 j hj
      refine ⟨?_, q2, q3, q4⟩
      show upd (gI τ 26) d _ j = upd rf d _ j
      unfold upd; split; rfl; exact q1
  · have hP : pClose (rf, rl, cf, cl, pf, pl, sg, d, fol, be, n) = (rf, rl, cf, cl, pf, pl, sg, d, fol, be, n) := by
      show (if sg = 2 then _ else _) = _
      rw [if_neg e]
    rw [hP] at h
    exact rt_vret rfl rfl (h τ (Off.rf _ _) ⟨r1, r2, r3, r4, r5, r6, r7, r8, r9, r10, r11⟩)
theorem closeRow_spec {S : PSt} {τ : Ty} {Q : Option Value → Ty → Prop} (hR : RdIs τ S) (h : ∀ τ', Off kR τ τ' → RdIs τ' (pCloseR S) → Q none τ') : RT mX4_closeRow none 0 [some (.ref 22)] [] τ Q := by
  refine rt_run 1 rfl ?_
  refine rt_cV (ci := 4) mX4_closePart kX4_closeRow_1 okX4_closePart rfl rfl rfl rfl rfl ?_
  refine closePart_spec hR (fun τ1 hO1 hR1 => ?_)
  unfold pCloseR at h
  generalize pClose S = S1 at hR1 h
  obtain ⟨rf, rl, cf, cl, pf, pl, sg, d, fol, be, n⟩ := S1
  obtain ⟨r1, r2, r3, r4, r5, r6, r7, r8, r9, r10, r11⟩ := hR1
  obtain ⟨q1, q2, q3, q4⟩ := r7 d (Nat.le_refl _)
  refine rt_run 5 rfl ?_
  refine rt_ld d rfl (n := 81) rfl (by omega) ?_ r1
  refine rt_run 4 rfl ?_
  refine rt_ld d rfl (n := 81) rfl (by omega) ?_ r1
  refine rt_run 1 rfl ?_
  rw [q1, q3]
  refine rt_st d rfl (n := 81) rfl (by omega) ?_ r1
  refine rt_run 5 rfl ?_
  refine rt_ld d rfl (n := 81) rfl (by omega) ?_ r1
  refine rt_run 4 rfl ?_
  refine rt_ld d rfl (n := 81) rfl (by omega) ?_ r1
  refine rt_run 1 rfl ?_
  rw [show gI (sI τ1 28 d (cf d ||| rf d)) 29 d = cl d from q4, show gI (sI τ1 28 d (cf d ||| rf d)) 27 d = rl d from q2]
  refine rt_st d rfl (n := 81) rfl (by omega) ?_ r1
  refine rt_vret rfl rfl (h _ ((hO1.sI (by simp) _ _).sI (by simp) _ _) ⟨r1, r2, r3, r4, r5, r6, fun j hj => ?_, r8, r9, r10, r11⟩)
  obtain ⟨q1, q2, q3, q4⟩ := r7 j hj
  refine ⟨q1, q2, ?_, ?_⟩
  · show upd (gI τ1 28) d _ j = upd cf d _ j
    unfold upd; split; rfl; exact q3
  · show upd (gI τ1 29) d _ j = upd cl d _ j
    unfold upd; split; rfl; exact q4
theorem openPart_spec {S : PSt} {f l : Int32} {τ : Ty} {Q : Option Value → Ty → Prop} (hR : RdIs τ S) (h : ∀ τ', Off kR τ τ' → RdIs τ' (pOpenPart f l S) → Q none τ') : RT mX4_openPart none 0 [some (.ref 22), some (.int f), some (.int l)] [] τ Q := by
  obtain ⟨rf, rl, cf, cl, pf, pl, sg, d, fol, be, n⟩ := S
  obtain ⟨r1, r2, r3, r4, r5, r6, r7, r8, r9, r10, r11⟩ := hR
  refine rt_run 9 rfl ?_
  exact rt_vret rfl rfl (h _ ((((Off.rf _ _).sF (by simp) _ _).sF (by simp) _ _).sF (by simp) _ _) ⟨r1, r2, fun _ => rfl, fun _ => rfl, rfl, by decide, r7, r8, r9, r10, r11⟩)

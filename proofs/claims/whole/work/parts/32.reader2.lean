/-! Reader: what a byte makes of its state; takes, faultOf -/
def tkOpen (S : PSt) : Option PSt := if 80 ≤ qDepth S then none else some (pStage 1 (pChoice (pDepth (qDepth S + 1) (pClose S))))
def tkClose (S : PSt) : Option PSt := if qDepth S = 0 ∨ qStage S = 0 then none else match pCloseR S with
  | (rf, rl, cf, cl, _, _, _, d, fol, be, n) => some (rf, rl, cf, cl, cf d, cl d, 2, d - 1, fol, be, n)
def tkTurn (S : PSt) : Option PSt := if qStage S = 2 then some (pStage 0 (pRow (pCloseR S))) else none
def tkRep (b : Nat) (S : PSt) : Option PSt := if qStage S = 2 then (match S with
  | (rf, rl, cf, cl, pf, pl, sg, d, fol, be, n) => some (rf, rl, cf, cl, (if b = 43 then pf else pf ||| 1), (if b = 43 then pl else pl ||| 1), sg, d, (if b = 63 then fol else lnkF fol n pl pf), be, n)) else none
def tkPlace (s : Int32) (S : PSt) : Option PSt := if s = 0 ∨ 24 ≤ qN S then none else match pClose S with
  | (rf, rl, cf, cl, _, _, _, d, fol, be, n) => some (rf, rl, cf, cl, 1 <<< (nI (n + 1) &&& 31), 1 <<< (nI (n + 1) &&& 31), 2, d, fol, fun x => if bt s x = true then be x ||| (1 <<< (nI (n + 1) &&& 31)) else be x, n + 1)
def sgnI (b : Nat) : Int32 := if 97 ≤ b ∧ b ≤ 100 then 1 <<< (nI (b - 97) &&& 31) else if 65 ≤ b ∧ b ≤ 68 then 1 <<< (nI (b - 65 + 4) &&& 31) else if b = 46 then 15 else if b = 45 then 240 else 0
def tk (b : Nat) (S : PSt) : Option PSt := if b = 32 then some S else if b = 40 then tkOpen S else if b = 41 then tkClose S else if b = 124 then tkTurn S else if b = 42 ∨ b = 43 ∨ b = 63 then tkRep b S else tkPlace (sgnI b) S
theorem pClose_depth (S : PSt) : qDepth (pClose S) = qDepth S ∧ qN (pClose S) = qN S ∧ qStage (pClose S) = qStage S := by
  obtain ⟨rf, rl, cf, cl, pf, pl, sg, d, fol, be, n⟩ := S
  by_cases h : sg = 2
  · simp [pClose, h]
  · simp [pClose, h]
theorem pCloseR_depth (S : PSt) : qDepth (pCloseR S) = qDepth S ∧ qN (pCloseR S) = qN S ∧ qStage (pCloseR S) = qStage S := pClose_depth S
section RdBytes
variable {S : PSt} {τ : Ty} {Q : Option Value → Ty → Prop}
theorem opens_spec (hR : RdIs τ S) (h1 : ∀ τ' S', tkOpen S = some S' → Off kR τ τ' → RdIs τ' S' → Q (some (.int 1)) τ') (h0 : tkOpen S = none → Q (some (.int 0)) τ) : RT mX4_opens none 0 [some (.ref 22)] [] τ Q := by
  have hR0 := hR
  obtain ⟨rf, rl, cf, cl, pf, pl, sg, d, fol, be, n⟩ := S
  obtain ⟨r1, r2, -⟩ := hR
  refine rt_run 3 rfl ?_
  refine rt_lt d 80 rfl (by omega) (by omega) (fun hlt => ?_) (fun hge => ?_) r1
  · refine rt_run 1 rfl ?_
    refine rt_cV (ci := 4) mX4_closePart kX4_opens_12 okX4_closePart rfl rfl rfl rfl rfl ?_
    refine closePart_spec hR0 (fun τ1 hO1 hR1 => ?_)
    have hd := (pClose_depth (rf, rl, cf, cl, pf, pl, sg, d, fol, be, n)).1
    have hk1 : ∀ τ' S', some (pStage 1 (pChoice (pDepth (d + 1) (pClose (rf, rl, cf, cl, pf, pl, sg, d, fol, be, n))))) = some S' → Off kR τ τ' → RdIs τ' S' → Q (some (.int 1)) τ' := by
      intro τ' S' he
      refine h1 τ' S' ?_
      unfold tkOpen
      rw [if_neg (show ¬ 80 ≤ d by omega)]
      exact he
    generalize pClose (rf, rl, cf, cl, pf, pl, sg, d, fol, be, n) = S1 at hR1 hk1 hd
    obtain ⟨rf1, rl1, cf1, cl1, pf1, pl1, sg1, d1, fol1, be1, n1⟩ := S1
    have hd : d1 = d := hd
    subst hd
    obtain ⟨s1, s2, s3, s4, s5, s6, s7, s8, s9, s10, s11⟩ := hR1
    refine rt_run 6 rfl ?_
    rw [s1, ← nI_succ]
    refine rt_run 1 rfl ?_
    refine rt_cV (ci := 4) mX4_beginChoice kX4_opens_26 okX4_beginChoice rfl rfl rfl rfl rfl ?_
    -- the rows above the old depth hold what they held
    refine beginChoice_spec (S := (fun j => gI τ1 26 j, fun j => gI τ1 27 j, fun j => gI τ1 28 j, fun j => gI τ1 29 j, pf1, pl1, sg1, d1 + 1, fol1, be1, n1)) ⟨rfl, by omega, s3, s4, s5, s6, fun j _ => ⟨rfl, rfl, rfl, rfl⟩, s8, s9, s10, s11⟩ (fun τ2 hO2 hR2 => ?_)
    obtain ⟨u1, u2, u3, u4, u5, u6, u7, u8, u9, u10, u11⟩ := hR2
    refine rt_run 4 rfl ?_
    refine rt_zret rfl rfl (Or.inr rfl) (hk1 _ _ rfl (((hO1.sF (by simp) _ _).tr hO2).sF (by simp) _ _) ⟨u1, u2, (fun e => by cases e), (fun e => by cases e), rfl, by decide, fun j hj => ?_, u8, u9, u10, u11⟩)
    obtain ⟨q1, q2, q3, q4⟩ := u7 j hj
    have key : ∀ (g1 : Nat → Int32) (a : Nat) (x : Int32), (∀ i, i ≤ d1 → gI τ1 a i = g1 i) → upd (fun j => gI τ1 a j) (d1 + 1) x j = upd g1 (d1 + 1) x j := by
      intro g1 a x hg
      unfold upd
      split
      · rfl
      · exact hg j (by omega)
    refine ⟨q1.trans (key _ 26 _ (fun i hi => (s7 i hi).1)), q2.trans (key _ 27 _ (fun i hi => (s7 i hi).2.1)), q3.trans (key _ 28 _ (fun i hi => (s7 i hi).2.2.1)), q4.trans (key _ 29 _ (fun i hi => (s7 i hi).2.2.2))⟩
  · refine rt_run 1 rfl ?_
    refine rt_zret rfl rfl (Or.inl rfl) (h0 ?_)
    unfold tkOpen
    rw [if_pos (show 80 ≤ d from hge)]
theorem closes_spec (hR : RdIs τ S) (h1 : ∀ τ' S', tkClose S = some S' → Off kR τ τ' → RdIs τ' S' → Q (some (.int 1)) τ') (h0 : tkClose S = none → Q (some (.int 0)) τ) : RT mX4_closes none 0 [some (.ref 22), none] [] τ Q := by
  have hR0 := hR
  obtain ⟨rf, rl, cf, cl, pf, pl, sg, d, fol, be, n⟩ := S
  obtain ⟨r1, r2, r3, r4, r5, r6, -⟩ := hR
  have no : (d = 0 ∨ sg = 0) → RT mX4_closes none 14 [some (.ref 22), none] [] τ Q := by
    intro hh
    refine rt_run 1 rfl ?_
    refine rt_zret rfl rfl (Or.inl rfl) (h0 ?_)
    unfold tkClose
    rw [if_pos (show d = 0 ∨ sg = 0 from hh)]
  refine rt_run 2 rfl ?_
  rw [r1]
  refine rt_if_eq rfl (fun hz => no (Or.inl ?_)) (fun hz => ?_)
  · by_cases h : d = 0
    · exact h
    · exact absurd hz (nI_ne0 (by omega) (by omega))
  · have hd0 : d ≠ 0 := fun e => hz (by rw [e]; rfl)
    refine rt_run 2 rfl ?_
    rw [r5]
    refine rt_if_ne rfl (fun hs => ?_) (fun hs => no (Or.inr ?_))
    · have hs0 : sg ≠ 0 := fun e => hs (by rw [e]; rfl)
      refine rt_run 1 rfl ?_
      refine rt_cV (ci := 4) mX4_closeRow kX4_closes_17 okX4_closeRow rfl rfl rfl rfl rfl ?_
      refine closeRow_spec hR0 (fun τ1 hO1 hR1 => ?_)
      have hd := (pCloseR_depth (rf, rl, cf, cl, pf, pl, sg, d, fol, be, n)).1
      have hk1 : ∀ τ' S', (match pCloseR (rf, rl, cf, cl, pf, pl, sg, d, fol, be, n) with
          | (rf, rl, cf, cl, _, _, _, d, fol, be, n) => some (rf, rl, cf, cl, cf d, cl d, 2, d - 1, fol, be, n)) = some S' → Off kR τ τ' → RdIs τ' S' → Q (some (.int 1)) τ' := by
        intro τ' S' he
        refine h1 τ' S' ?_
        unfold tkClose
        rw [if_neg (show ¬ (d = 0 ∨ sg = 0) by omega)]
        exact he
      generalize pCloseR (rf, rl, cf, cl, pf, pl, sg, d, fol, be, n) = S1 at hR1 hk1 hd
      obtain ⟨rf1, rl1, cf1, cl1, pf1, pl1, sg1, d1, fol1, be1, n1⟩ := S1
      have hd : d1 = d := hd
      subst hd
      obtain ⟨s1, s2, s3, s4, s5, s6, s7, s8, s9, s10, s11⟩ := hR1
      obtain ⟨q1, q2, q3, q4⟩ := s7 d1 (Nat.le_refl _)
      refine rt_run 3 rfl ?_
      rw [s1]
      refine rt_run 6 rfl ?_
      rw [s1, show nI d1 - 1 = nI (d1 - 1) by rw [show d1 = (d1 - 1) + 1 by omega, nI_pred, Nat.add_sub_cancel]]
      refine rt_run 4 rfl ?_
      refine rt_ld d1 rfl (n := 81) rfl (by omega) ?_
      refine rt_run 3 rfl ?_
      refine rt_ld d1 rfl (n := 81) rfl (by omega) ?_
      rw [show gI (sF τ1 22 5 (nI (d1 - 1))) 28 d1 = cf1 d1 from q3, show gI (sF τ1 22 5 (nI (d1 - 1))) 29 d1 = cl1 d1 from q4]
      refine rt_cV (ci := 4) mX4_openPart kX4_closes_48 okX4_openPart rfl rfl rfl rfl rfl ?_
      refine openPart_spec (S := (rf1, rl1, cf1, cl1, pf1, pl1, sg1, d1 - 1, fol1, be1, n1)) ⟨rfl, by omega, s3, s4, s5, s6, fun j hj => s7 j (by omega), s8, s9, s10, s11⟩ (fun τ2 hO2 hR2 => ?_)
      refine rt_run 1 rfl ?_
      exact rt_zret rfl rfl (Or.inr rfl) (hk1 τ2 _ rfl ((hO1.sF (by simp) _ _).tr hO2) hR2)
    · by_cases h : sg = 0
      · exact h
      · exact absurd hs (nI_ne0 (by omega) (by omega))
theorem turns_spec (hR : RdIs τ S) (h1 : ∀ τ' S', tkTurn S = some S' → Off kR τ τ' → RdIs τ' S' → Q (some (.int 1)) τ') (h0 : tkTurn S = none → Q (some (.int 0)) τ) : RT mX4_turns none 0 [some (.ref 22)] [] τ Q := by
  have hR0 := hR
  obtain ⟨rf, rl, cf, cl, pf, pl, sg, d, fol, be, n⟩ := S
  obtain ⟨r1, r2, r3, r4, r5, r6, -⟩ := hR
  refine rt_run 3 rfl ?_
  refine rt_eq sg 2 rfl (by omega) (by omega) (fun e => ?_) (fun e => ?_) r5
  · refine rt_run 1 rfl ?_
    refine rt_cV (ci := 4) mX4_closeRow kX4_turns_11 okX4_closeRow rfl rfl rfl rfl rfl ?_
    refine closeRow_spec hR0 (fun τ1 hO1 hR1 => ?_)
    refine rt_run 1 rfl ?_
    refine rt_cV (ci := 4) mX4_beginRow kX4_turns_15 okX4_beginRow rfl rfl rfl rfl rfl ?_
    refine beginRow_spec hR1 (fun τ2 hO2 hR2 => ?_)
    have h1 := h1 (sF τ2 22 8 0) (pStage 0 (pRow (pCloseR (rf, rl, cf, cl, pf, pl, sg, d, fol, be, n)))) (by unfold tkTurn; rw [if_pos (show sg = 2 from e)]) ((hO1.tr hO2).sF (by simp) _ _)
    generalize pRow (pCloseR (rf, rl, cf, cl, pf, pl, sg, d, fol, be, n)) = S2 at hR2 h1
    obtain ⟨rf2, rl2, cf2, cl2, pf2, pl2, sg2, d2, fol2, be2, n2⟩ := S2
    obtain ⟨u1, u2, u3, u4, u5, u6, u7, u8, u9, u10, u11⟩ := hR2
    refine rt_run 4 rfl ?_
    exact rt_zret rfl rfl (Or.inr rfl) (h1 ⟨u1, u2, (fun e => by cases e), (fun e => by cases e), rfl, by decide, u7, u8, u9, u10, u11⟩)
  · refine rt_run 1 rfl ?_
    refine rt_zret rfl rfl (Or.inl rfl) (h0 ?_)
    unfold tkTurn
    rw [if_neg (show ¬ sg = 2 from e)]
theorem repeats_spec {b : Nat} (hb : b < 128) (hR : RdIs τ S) (h1 : ∀ τ' S', tkRep b S = some S' → Off kR τ τ' → RdIs τ' S' → Q (some (.int 1)) τ') (h0 : tkRep b S = none → Q (some (.int 0)) τ) : RT mX4_repeats none 0 [some (.ref 22), some (.int (nI b))] [] τ Q := by
  obtain ⟨rf, rl, cf, cl, pf, pl, sg, d, fol, be, n⟩ := S
  obtain ⟨r1, r2, r3, r4, r5, r6, r7, r8, r9, r10, r11⟩ := hR
  refine rt_run 3 rfl ?_
  refine rt_eq sg 2 rfl (by omega) (by omega) (fun e => ?_) (fun e => ?_) r5
  · have fin : ∀ τ1, Off kR τ τ1 → RdIs τ1 (rf, rl, cf, cl, pf, pl, sg, d, (if b = 63 then fol else lnkF fol n pl pf), be, n) → RT mX4_repeats none 31 [some (.ref 22), some (.int (nI b))] [] τ1 Q := by
      intro τ1 hO1 hR1
      have h1 : ∀ τ' , Off kR τ τ' → RdIs τ' (rf, rl, cf, cl, (if b = 43 then pf else pf ||| 1), (if b = 43 then pl else pl ||| 1), sg, d, (if b = 63 then fol else lnkF fol n pl pf), be, n) → Q (some (.int 1)) τ' := by
        intro τ'
        refine h1 τ' _ ?_
        unfold tkRep
        rw [if_pos (show sg = 2 from e)]
      obtain ⟨s1, s2, s3, s4, s5, s6, s7, s8, s9, s10, s11⟩ := hR1
      refine rt_run 2 rfl ?_
      refine rt_eq b 43 rfl (by omega) (by omega) (fun e43 => ?_) (fun e43 => ?_)
      · refine rt_run 1 rfl ?_
        rw [if_pos e43, if_pos e43] at h1
        exact rt_zret rfl rfl (Or.inr rfl) (h1 τ1 hO1 ⟨s1, s2, s3, s4, s5, s6, s7, s8, s9, s10, s11⟩)
      · refine rt_run 6 rfl ?_
        refine rt_run 6 rfl ?_
        refine rt_run 1 rfl ?_
        rw [if_neg e43, if_neg e43] at h1
        refine rt_zret rfl rfl (Or.inr rfl) (h1 _ ((hO1.sF (by simp) _ _).sF (by simp) _ _) ⟨s1, s2, fun e => ?_, fun e => ?_, s5, s6, s7, s8, s9, s10, s11⟩)
        · show gF τ1 22 6 ||| 1 = _
          rw [s3 e]
        · show gF τ1 22 7 ||| 1 = _
          rw [s4 e]
    refine rt_run 2 rfl ?_
    refine rt_eq b 63 rfl (by omega) (by omega) (fun e63 => ?_) (fun e63 => ?_)
    · refine fin τ (Off.rf _ _) ?_
      rw [if_pos e63]
      exact ⟨r1, r2, r3, r4, r5, r6, r7, r8, r9, r10, r11⟩
    · refine rt_run 6 rfl ?_
      rw [r3 e, r4 e]
      refine rt_cV (ci := 2) mX2_link kX4_repeats_28 okX2_link rfl rfl rfl rfl rfl ?_
      refine link_spec (n := n) (Or.inl rfl) r8 r9 (fun f hf => ?_)
      refine fin _ ((Off.rf _ _).sA (by simp) _) ?_
      rw [if_neg e63]
      refine ⟨r1, r2, r3, r4, r5, r6, r7, r8, r9, fun p hp => ?_, r11⟩
      show f p = lnkF fol n pl pf p
      rw [hf p]
      unfold lnkF
      rw [show gI τ (23 + 1) p = fol p from r10 p hp]
  · refine rt_run 1 rfl ?_
    refine rt_zret rfl rfl (Or.inl rfl) (h0 ?_)
    unfold tkRep
    rw [if_neg (show ¬ sg = 2 from e)]
theorem signsOf_spec {b : Nat} (hb : b < 128) (h : Q (some (.int (sgnI b))) τ) : RT mX4_signsOf none 0 [some (.int (nI b))] [] τ Q := by
  unfold sgnI at h
  have cap : ¬ (97 ≤ b ∧ b ≤ 100) → RT mX4_signsOf none 19 [some (.int (nI b))] [] τ Q := by
    intro h97
    rw [if_neg h97] at h
    have rest : ¬ (65 ≤ b ∧ b ≤ 68) → RT mX4_signsOf none 40 [some (.int (nI b))] [] τ Q := by
      intro h65
      rw [if_neg h65] at h
      refine rt_run 2 rfl ?_
      refine rt_ne b 46 rfl (by omega) (by omega) (fun e => ?_) (fun e => ?_)
      · rw [if_neg e] at h
        refine rt_run 2 rfl ?_
        refine rt_ne b 45 rfl (by omega) (by omega) (fun e2 => ?_) (fun e2 => ?_)
        · rw [if_neg e2] at h
          refine rt_run 1 rfl ?_
          exact rt_iret rfl rfl h
        · rw [if_pos e2] at h
          refine rt_run 2 rfl ?_
          exact rt_iret rfl rfl h
      · rw [if_pos e] at h
        refine rt_run 1 rfl ?_
        exact rt_iret rfl rfl h
    refine rt_run 2 rfl ?_
    refine rt_lt b 65 rfl (by omega) (by omega) (fun e => rest (by omega)) (fun e => ?_)
    refine rt_run 2 rfl ?_
    refine rt_gt b 68 rfl (by omega) (by omega) (fun e => rest (by omega)) (fun e2 => ?_)
    rw [if_pos ⟨e, e2⟩] at h
    refine rt_run 7 rfl ?_
    rw [show nI b - 65 + 4 = nI (b - 65 + 4) by
      rw [show (65 : Int32) = nI 65 from rfl, pk_sub e, show (4 : Int32) = nI 4 from rfl, nI_add]]
    exact rt_iret rfl rfl h
  refine rt_run 2 rfl ?_
  refine rt_lt b 97 rfl (by omega) (by omega) (fun e => cap (by omega)) (fun e => ?_)
  refine rt_run 2 rfl ?_
  refine rt_gt b 100 rfl (by omega) (by omega) (fun e => cap (by omega)) (fun e2 => ?_)
  rw [if_pos ⟨e, e2⟩] at h
  refine rt_run 5 rfl ?_
  rw [show nI b - 97 = nI (b - 97) by rw [show (97 : Int32) = nI 97 from rfl, pk_sub e]]
  exact rt_iret rfl rfl h
theorem takesPlace_spec {s : Int32} (hR : RdIs τ S) (h1 : ∀ τ' S', tkPlace s S = some S' → Off kR τ τ' → RdIs τ' S' → Q (some (.int 1)) τ') (h0 : tkPlace s S = none → Q (some (.int 0)) τ) : RT mX4_takesPlace none 0 [some (.ref 22), some (.int s), none] [] τ Q := by
  have hR0 := hR
  obtain ⟨rf, rl, cf, cl, pf, pl, sg, d, fol, be, n⟩ := S
  obtain ⟨r1, r2, r3, r4, r5, r6, r7, r8, r9, -⟩ := hR
  have no : (s = 0 ∨ 24 ≤ n) → RT mX4_takesPlace none 16 [some (.ref 22), some (.int s), none] [] τ Q := by
    intro hh
    refine rt_run 1 rfl ?_
    refine rt_zret rfl rfl (Or.inl rfl) (h0 ?_)
    unfold tkPlace
    rw [if_pos (show s = 0 ∨ 24 ≤ n from hh)]
  refine rt_run 1 rfl ?_
  refine rt_if_eq rfl (fun hz => no (Or.inl hz)) (fun hz => ?_)
  refine rt_run 4 rfl ?_
  refine rt_lt n 24 rfl (by omega) (by omega) (fun hlt => ?_) (fun hge => ?_) r8
  · refine rt_run 1 rfl ?_
    refine rt_cV (ci := 4) mX4_closePart kX4_takesPlace_19 okX4_closePart rfl rfl rfl rfl rfl ?_
    refine closePart_spec hR0 (fun τ1 hO1 hR1 => ?_)
    have hn := (pClose_depth (rf, rl, cf, cl, pf, pl, sg, d, fol, be, n)).2.1
    have hk1 : ∀ τ' S', (match pClose (rf, rl, cf, cl, pf, pl, sg, d, fol, be, n) with
        | (rf, rl, cf, cl, _, _, _, d, fol, be, n) => some (rf, rl, cf, cl, 1 <<< (nI (n + 1) &&& 31), 1 <<< (nI (n + 1) &&& 31), 2, d, fol, fun x => if bt s x = true then be x ||| (1 <<< (nI (n + 1) &&& 31)) else be x, n + 1)) = some S' → Off kR τ τ' → RdIs τ' S' → Q (some (.int 1)) τ' := by
      intro τ' S' he
      refine h1 τ' S' ?_
      unfold tkPlace
      rw [if_neg (show ¬ (s = 0 ∨ 24 ≤ n) from fun hh => hh.elim hz (by omega))]
      exact he
    generalize pClose (rf, rl, cf, cl, pf, pl, sg, d, fol, be, n) = S1 at hR1 hk1 hn
    obtain ⟨rf1, rl1, cf1, cl1, pf1, pl1, sg1, d1, fol1, be1, n1⟩ := S1
    have hn : n1 = n := hn
    subst hn
    obtain ⟨s1, s2, s3, s4, s5, s6, s7, s8, s9, s10, s11⟩ := hR1
    refine rt_run 3 rfl ?_
    refine rt_cV (ci := 2) mX2_newPlace kX4_takesPlace_27 okX2_newPlace rfl rfl rfl rfl rfl ?_
    refine newPlace_spec (n := n1) (Or.inl rfl) s8 hlt (fun g hg => ?_)
    refine rt_run 4 rfl ?_
    refine rt_cV (ci := 4) mX4_openPart kX4_takesPlace_34 okX4_openPart rfl rfl rfl rfl rfl ?_
    refine openPart_spec (S := (rf1, rl1, cf1, cl1, pf1, pl1, sg1, d1, fol1, fun x => if bt s x = true then be1 x ||| (1 <<< (nI (n1 + 1) &&& 31)) else be1 x, n1 + 1)) ⟨s1, s2, s3, s4, s5, s6, s7, rfl, by omega, s10, fun x hx => ?_⟩ (fun τ2 hO2 hR2 => ?_)
    · show g x = _
      rw [hg x hx, show gI τ1 (23 + 2) x = be1 x from s11 x hx]
    · refine rt_run 1 rfl ?_
      exact rt_zret rfl rfl (Or.inr rfl) (hk1 τ2 _ rfl (((hO1.sF (by simp) _ _).sA (by simp) _).tr hO2) hR2)
  · exact no (Or.inr hge)
end RdBytes

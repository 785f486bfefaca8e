/-! Reader.takes, faultOf -/
theorem takes_spec {b : Nat} {S : PSt} {τ : Ty} {Q : Option Value → Ty → Prop} (hb : b < 128) (hR : RdIs τ S) (h1 : ∀ τ' S', tk b S = some S' → Off kR τ τ' → RdIs τ' S' → Q (some (.int 1)) τ') (h0 : tk b S = none → Q (some (.int 0)) τ) : RT mX4_takes none 0 [some (.ref 22), some (.int (nI b))] [] τ Q := by
  have hbi : (nI b).toInt = (b : Int) := nI_toInt (by omega)
  refine rt_run 1 rfl ?_
  unfold tk at h1 h0
  by_cases c32 : b = 32
  · subst c32
    refine rt_ls (off := 67) (tgt := 68) rfl (by decide) (by decide) ?_
    refine rt_run 1 rfl ?_
    exact rt_zret rfl rfl (Or.inr rfl) (h1 τ S (by simp) (Off.rf _ _) hR)
  · rw [if_neg c32] at h1 h0
    by_cases c40 : b = 40
    · subst c40
      refine rt_ls (off := 69) (tgt := 70) rfl (by decide) (by decide) ?_
      refine rt_run 1 rfl ?_
      refine rt_cV (ci := 4) mX4_opens kX4_takes_71 okX4_opens rfl rfl rfl rfl rfl ?_
      rw [if_pos rfl] at h1 h0
      exact opens_spec hR (fun τ' S' e hO hR' => rt_zret rfl rfl (Or.inr rfl) (h1 τ' S' e hO hR')) (fun e => rt_zret rfl rfl (Or.inl rfl) (h0 e))
    · rw [if_neg c40] at h1 h0
      by_cases c41 : b = 41
      · subst c41
        refine rt_ls (off := 74) (tgt := 75) rfl (by decide) (by decide) ?_
        refine rt_run 1 rfl ?_
        refine rt_cV (ci := 4) mX4_closes kX4_takes_76 okX4_closes rfl rfl rfl rfl rfl ?_
        rw [if_pos rfl] at h1 h0
        exact closes_spec hR (fun τ' S' e hO hR' => rt_zret rfl rfl (Or.inr rfl) (h1 τ' S' e hO hR')) (fun e => rt_zret rfl rfl (Or.inl rfl) (h0 e))
      · rw [if_neg c41] at h1 h0
        by_cases c124 : b = 124
        · subst c124
          refine rt_ls (off := 79) (tgt := 80) rfl (by decide) (by decide) ?_
          refine rt_run 1 rfl ?_
          refine rt_cV (ci := 4) mX4_turns kX4_takes_81 okX4_turns rfl rfl rfl rfl rfl ?_
          rw [if_pos rfl] at h1 h0
          exact turns_spec hR (fun τ' S' e hO hR' => rt_zret rfl rfl (Or.inr rfl) (h1 τ' S' e hO hR')) (fun e => rt_zret rfl rfl (Or.inl rfl) (h0 e))
        · rw [if_neg c124] at h1 h0
          by_cases crep : b = 42 ∨ b = 43 ∨ b = 63
          · rw [if_pos crep] at h1 h0
            have go : RT mX4_takes none 85 [some (.ref 22), some (.int (nI b))] [] τ Q := by
              refine rt_run 2 rfl ?_
              refine rt_cV (ci := 4) mX4_repeats kX4_takes_87 okX4_repeats rfl rfl rfl rfl rfl ?_
              exact repeats_spec hb hR (fun τ' S' e hO hR' => rt_zret rfl rfl (Or.inr rfl) (h1 τ' S' e hO hR')) (fun e => rt_zret rfl rfl (Or.inl rfl) (h0 e))
            rcases crep with e | e | e
            · subst e; exact rt_ls (off := 84) (tgt := 85) rfl (by decide) (by decide) go
            · subst e; exact rt_ls (off := 84) (tgt := 85) rfl (by decide) (by decide) go
            · subst e; exact rt_ls (off := 84) (tgt := 85) rfl (by decide) (by decide) go
          · rw [if_neg crep] at h1 h0
            refine rt_ls (off := 90) (tgt := 91) rfl ?_ (by decide) ?_
            · rw [hbi]
              have h42 : b ≠ 42 := fun e => crep (Or.inl e)
              have h43 : b ≠ 43 := fun e => crep (Or.inr (Or.inl e))
              have h63 : b ≠ 63 := fun e => crep (Or.inr (Or.inr e))
              simp [Op.lookupswitch.offset]
              omega
            · refine rt_run 2 rfl ?_
              refine rt_cS mX4_signsOf kX4_takes_93 okX4_signsOf rfl rfl ?_
              refine signsOf_spec hb ?_
              refine rt_cV (ci := 4) mX4_takesPlace kX4_takes_96 okX4_takesPlace rfl rfl rfl rfl rfl ?_
              exact takesPlace_spec hR (fun τ' S' e hO hR' => rt_zret rfl rfl (Or.inr rfl) (h1 τ' S' e hO hR')) (fun e => rt_zret rfl rfl (Or.inl rfl) (h0 e))
def pS0 : PSt := (fun _ => 1, fun _ => 1, fun _ => 0, fun _ => 0, 0, 0, 0, 0, fun _ => 0, fun _ => 0, 0)
def psN (t : Nat → Nat) : Nat → Option PSt
  | 0 => some pS0
  | i + 1 => (psN t i).bind (tk (t i))
/-- the draft, as a state that has been read to its end leaves it -/
def DrIs (τ : Ty) : PSt → Prop
  | (_, _, cf, cl, _, _, _, _, fol, be, n) => gF τ 23 3 = nI n ∧ n ≤ 24 ∧ (∀ p, p < 25 → gI τ 24 p = if p = 0 then cf 0 &&& -2 else fol p) ∧ (∀ s, s < 8 → gI τ 25 s = be s) ∧ gF τ 23 2 = cl 0
theorem faultOf_spec {t : Nat → Nat} {m : Nat} {τ : Ty} {Q : Option Value → Ty → Prop} (hm : m ≤ 80) (ht : ∀ i, i < m → t i < 128 ∧ gI τ 20 i = nI (t i))
    (h1 : ∀ i S, i < m → psN t i = some S → tk (t i) S = none → ∀ τ', Off kR τ τ' → Q (some (.int (nI i))) τ') (h2 : ∀ S, psN t m = some S → (qStage S ≠ 2 ∨ qDepth S ≠ 0) → ∀ τ', Off kR τ τ' → Q (some (.int (nI m))) τ')
    (h3 : ∀ S, psN t m = some S → qStage S = 2 → qDepth S = 0 → ∀ τ', Off kR τ τ' → DrIs τ' (pCloseR S) → Q (some (.int (-1))) τ') :
    RT mX4_faultOf none 0 [some (.ref 22), some (.ref 20), some (.int (nI m)), none] [] τ Q := by
  have loop : ∀ d i τ' S, i + d = m → Off kR τ τ' → psN t i = some S → RdIs τ' S → RT mX4_faultOf none 23 [some (.ref 22), some (.ref 20), some (.int (nI m)), some (.int (nI i))] [] τ' Q := by
    intro d
    induction d with
    | zero =>
      intro i τ' S hi hO hS hR
      have : i = m := by omega
      subst this
      have hR0 := hR
      refine rt_run 2 rfl ?_
      refine rt_ge i i rfl (by omega) (by omega) (fun _ => ?_) (fun _ => by omega)
      have h2' := h2 S hS
      have h3' := h3 S hS
      obtain ⟨rf, rl, cf, cl, pf, pl, sg, dd, fol, be, n⟩ := S
      obtain ⟨r1, r2, r3, r4, r5, r6, r7, r8, r9, r10, r11⟩ := hR
      have no : (sg ≠ 2 ∨ dd ≠ 0) → RT mX4_faultOf none 67 [some (.ref 22), some (.ref 20), some (.int (nI i)), some (.int (nI i))] [] τ' Q := by
        intro hh
        refine rt_run 1 rfl ?_
        exact rt_iret rfl rfl (h2' hh τ' hO)
      refine rt_run 3 rfl ?_
      refine rt_ne sg 2 rfl (by omega) (by omega) (fun e => no (Or.inl e)) (fun e => ?_) r5
      refine rt_run 2 rfl ?_
      rw [r1]
      refine rt_if_eq rfl (fun hz => ?_) (fun hz => no (Or.inr (fun e => hz (by rw [e]; rfl))))
      have hd0 : dd = 0 := by
        by_cases h : dd = 0
        · exact h
        · exact absurd hz (nI_ne0 (by omega) (by omega))
      refine rt_run 1 rfl ?_
      refine rt_cV (ci := 4) mX4_closeRow kX4_faultOf_70 okX4_closeRow rfl rfl rfl rfl rfl ?_
      refine closeRow_spec hR0 (fun τ1 hO1 hR1 => ?_)
      have hd1 := (pCloseR_depth (rf, rl, cf, cl, pf, pl, sg, dd, fol, be, n)).1
      have h3'' := h3' e hd0
      generalize pCloseR (rf, rl, cf, cl, pf, pl, sg, dd, fol, be, n) = S1 at hR1 h3'' hd1
      obtain ⟨rf1, rl1, cf1, cl1, pf1, pl1, sg1, d1, fol1, be1, n1⟩ := S1
      obtain ⟨s1, s2, s3, s4, s5, s6, s7, s8, s9, s10, s11⟩ := hR1
      obtain ⟨q1, q2, q3, q4⟩ := s7 0 (Nat.zero_le _)
      refine rt_run 7 rfl ?_
      refine rt_ld 0 rfl (n := 81) rfl (by omega) ?_
      rw [q3]
      refine rt_run 2 rfl ?_
      refine rt_st 0 rfl (n := 25) rfl (by omega) ?_
      refine rt_run 5 rfl ?_
      refine rt_ld 0 rfl (n := 81) rfl (by omega) ?_
      rw [show gI (sI τ1 24 0 (cf1 0 &&& -2)) 29 0 = cl1 0 from q4]
      refine rt_run 2 rfl ?_
      refine rt_iret rfl rfl (h3'' _ (((hO.tr hO1).sI (by simp) _ _).sF (by simp) _ _) ⟨s8, s9, fun p hp => ?_, s11, rfl⟩)
      show upd (gI τ1 24) 0 (cf1 0 &&& -2) p = _
      unfold upd
      split
      · rfl
      · exact s10 p hp
    | succ d ih =>
      intro i τ' S hi hO hS hR
      obtain ⟨t1, t2⟩ := ht i (by omega)
      refine rt_run 2 rfl ?_
      refine rt_ge i m rfl (by omega) (by omega) (fun _ => by omega) (fun _ => ?_)
      refine rt_run 2 rfl ?_
      refine rt_ge i 80 rfl (by omega) (by omega) (fun _ => by omega) (fun _ => ?_)
      refine rt_run 3 rfl ?_
      refine rt_ld i rfl (n := 80) rfl (by omega) ?_
      rw [(hO.1 20 (by decide)).1, t2]
      refine rt_cV (ci := 4) mX4_takes kX4_faultOf_38 okX4_takes rfl rfl rfl rfl rfl ?_
      have hs1 : psN t (i + 1) = tk (t i) S := by
        show (psN t i).bind _ = _
        rw [hS]; rfl
      refine takes_spec t1 hR (fun τ2 S2 e hO2 hR2 => ?_) (fun e => ?_)
      · refine rt_if_ne rfl (fun _ => ?_) (fun hc => absurd hc (by decide))
        refine rt_run 2 rfl ?_
        rw [← nI_succ]
        exact ih (i + 1) τ2 S2 (by omega) (hO.tr hO2) (by rw [hs1]; exact e) hR2
      · refine rt_if_ne rfl (fun hc => absurd rfl hc) (fun _ => ?_)
        refine rt_run 1 rfl ?_
        exact rt_iret rfl rfl (h1 i S (by omega) hS e τ' hO)
  refine rt_run 2 rfl ?_
  refine rt_cV (ci := 2) mX2_wipe kX4_faultOf_4 okX2_wipe rfl rfl rfl rfl rfl ?_
  refine wipe_spec (Or.inl rfl) (fun f g hf hg => ?_)
  refine rt_run 7 rfl ?_
  refine rt_cV (ci := 4) mX4_beginChoice kX4_faultOf_18 okX4_beginChoice rfl rfl rfl rfl rfl ?_
  refine beginChoice_spec (S := (fun j => gI τ 26 j, fun j => gI τ 27 j, fun j => gI τ 28 j, fun j => gI τ 29 j, 0, 0, 0, 0, fun _ => 0, fun _ => 0, 0)) ⟨rfl, by decide, (fun e => by cases e), (fun e => by cases e), rfl, by decide, fun j _ => ⟨rfl, rfl, rfl, rfl⟩, rfl, by decide, hf, hg⟩ (fun τ1 hO1 hR1 => ?_)
  obtain ⟨s1, s2, s3, s4, s5, s6, s7, s8, s9, s10, s11⟩ := hR1
  refine rt_run 2 rfl ?_
  refine loop m 0 τ1 pS0 (by omega) ((((((((Off.rf _ _).sA (by simp) _).sA (by simp) _).sF (by simp) _ _).sF (by simp) _ _).sF (by simp) _ _).sF (by simp) _ _).sF (by simp) _ _ |>.tr hO1) rfl ⟨s1, s2, (fun e => by cases e), (fun e => by cases e), s5, s6, fun j hj => ?_, s8, s9, s10, s11⟩
  have : j = 0 := by omega
  subst this
  obtain ⟨q1, q2, q3, q4⟩ := s7 0 (Nat.le_refl _)
  exact ⟨q1.trans pk_us, q2.trans pk_us, q3.trans pk_us, q4.trans pk_us⟩

/-! the reference's reads -/
section MdReads2
variable {τ : Ty} {Q : Option Value → Ty → Prop} {a : AS}
theorem drA_MB {τ : Ty} {rf rl cf cl fol be : Nat → Int32} {pf pl : Int32} {n : Nat} (hwf : PWf (rf, rl, cf, cl, pf, pl, 2, 0, fol, be, n)) (hD : DAtM τ fol be n) (h24 : mqB (gI τ 72 24) (cf 0)) :
    (∀ p, p < 25 → MB (gI τ 72 p) ((drA (rf, rl, cf, cl, pf, pl, 2, 0, fol, be, n)).1 (qm p))) ∧ ∀ s, s < 8 → MB (gI τ 73 s) ((drA (rf, rl, cf, cl, pf, pl, 2, 0, fol, be, n)).2.1 s) := by
  obtain ⟨w1, w2, w3, w4, w5⟩ := hwf
  have hc0 := (w2 0 (Nat.le_refl _)).2.2.1
  refine ⟨fun p hp j hj => ?_, fun s hs j hj => ?_⟩
  · show _ = bt (if qm p = 0 then cf 0 &&& -2 else fol (qm p)) (qm j)
    by_cases h : p = 24
    · subst h
      rw [show qm 24 = 0 from rfl, if_pos rfl, h24 j hj]
      unfold qm
      by_cases hj24 : j = 24
      · subst hj24
        rw [if_pos rfl, b_and, b_m2 (by decide)]
        cases hb : bt (cf 0) (24 + 1) with
        | false => simp
        | true =>
          have := hc0 _ hb
          omega
      · rw [if_neg hj24]
        by_cases h31 : j + 1 < 32
        · rw [b_and, b_m2 h31, decide_eq_true (by omega)]
          simp
        · rw [b_big (by omega), b_big (by omega)]
    · have eq : qm p = p + 1 := by unfold qm; rw [if_neg h]
      rw [eq, if_neg (by omega), hD.2.2.1 p (by omega) j hj]
      unfold qm
      by_cases hj24 : j = 24
      · subst hj24
        rw [if_pos rfl]
        cases hb : bt (fol (p + 1)) (24 + 1) with
        | true =>
          have := w4 _ _ hb
          omega
        | false =>
          cases hb0 : bt (fol (p + 1)) 0 with
          | false => rfl
          | true =>
            have := w4 _ _ hb0
            omega
      · rw [if_neg hj24]
  · show _ = bt (be s) (qm j)
    rw [hD.2.2.2 s hs j hj]
    unfold qm
    by_cases hj24 : j = 24
    · subst hj24
      rw [if_pos rfl]
      cases hb : bt (be s) (24 + 1) with
      | true =>
        have := w5 _ _ hb
        omega
      | false =>
        cases hb0 : bt (be s) 0 with
        | false => rfl
        | true =>
          have := w5 _ _ hb0
          omega
    · rw [if_neg hj24]
theorem end_MB {rf rl cf cl fol be : Nat → Int32} {pf pl x : Int32} {n : Nat} (hwf : PWf (rf, rl, cf, cl, pf, pl, 2, 0, fol, be, n)) (hx : mqB x (cl 0)) : MB (x ||| (b01 (bt (cl 0) 0) <<< (24 &&& 31))) ((drA (rf, rl, cf, cl, pf, pl, 2, 0, fol, be, n)).2.2.1) := by
  intro j hj
  have hc0 := (hwf.2.1 0 (Nat.le_refl _)).2.2.2
  have hn := hwf.1
  show _ = bt (cl 0) (qm j)
  rw [b_or, hx j hj, show ((24 : Int32) &&& 31) = (nI 24 &&& 31) from rfl, b_shl 24 (by decide) _ hj]
  unfold qm
  by_cases hj24 : j = 24
  · subst hj24
    rw [if_pos rfl]
    have h25 : bt (cl 0) (24 + 1) = false := by
      cases hb : bt (cl 0) (24 + 1) with
      | false => rfl
      | true =>
        have := hc0 _ hb
        omega
    rw [h25, Nat.sub_self]
    cases bt (cl 0) 0 <;> decide
  · rw [if_neg hj24]
    by_cases hlt : 24 ≤ j
    · have : bt (b01 (bt (cl 0) 0)) (j - 24) = false := by
        cases bt (cl 0) 0 with
        | false => exact b_0 _
        | true =>
          show bt 1 (j - 24) = false
          rw [b_one (by omega), decide_eq_false (by omega)]
      rw [this]
      simp
    · rw [decide_eq_false hlt]
      simp
set_option maxRecDepth 20000 in
theorem mReads_spec {x : Int32} (hM : MIs τ a) (h : ∀ τ', OffD τ τ' → MIs τ' (reaA a x).2 → Q (some (.int (reaA a x).1)) τ') : RT mX11_reads none 0 [some (.ref 63), some (.int x), none, none] [] τ Q := by
  refine rt_run 1 rfl ?_
  refine rt_cS mX11_isOne kX11_reads_1 okX11_isOne rfl rfl ?_
  refine mOne_spec (fun hh => ?_) (fun i hi ei => ?_)
  · refine rt_if_ne rfl (fun hc => absurd rfl hc) (fun _ => ?_)
    refine rt_run 2 rfl ?_
    refine rt_cV (ci := 11) mX11_refuses kX11_reads_10 okX11_refuses rfl rfl rfl rfl rfl ?_
    unfold reaA at h
    rw [hh] at h
    exact refuses_spec hM (Or.inl rfl) (fun τ' hO hC' => rt_iret rfl rfl (h τ' hO hC'))
  subst ei
  refine rt_if_ne rfl (fun _ => ?_) (fun hc => absurd hc (by decide))
  have eA : reaA a (nI i) = (match rdT (aT a) with
    | .inl i => (-10 - nI i, a)
    | .inr A => (nI A.2.2.2, sX a i A)) := by
    unfold reaA; rw [rn_so hi (by decide)]; rfl
  rw [eA] at h
  refine rt_run 1 rfl ?_
  refine rt_cV (ci := 11) mX11_readsAll kX11_reads_15 okX11_readsAll rfl rfl rfl rfl rfl ?_
  refine mReadsAll_spec hM.1.2.1 (fun k τ1 e hk hO1 => ?_) (fun τ1 rf rl cf cl pf pl fol be n e hwf hO1 hD h24 hl0 he0 => ?_)
  · rw [e] at h
    refine rt_run 3 rfl ?_
    refine rt_ic_eq rfl (fun hc => absurd hc (neg1 (by omega))) (fun _ => ?_)
    refine rt_run 3 rfl ?_
    exact rt_iret rfl rfl (h τ1 (hO1.d (by decide)) (hM.of hO1 (by decide) (by decide) (by decide)))
  rw [e] at h
  dsimp only at h
  have hAwf := drA_wf hwf
  obtain ⟨mb1, mb2⟩ := drA_MB hwf hD h24
  have mb3 := end_MB hwf hl0
  have en : (drA (rf, rl, cf, cl, pf, pl, 2, 0, fol, be, n)).2.2.2 = n := rfl
  generalize drA (rf, rl, cf, cl, pf, pl, 2, 0, fol, be, n) = A at *
  subst en
  have hM1 : MI1 τ1 a := hM.1.of hO1 (by decide) (by decide)
  have h71 : ∀ u, u < 10 → gI τ1 71 u = rowI (aG a) (aX a) (aW a) u := fun u hu => by rw [(hO1.1 71 (by decide)).1]; exact hM.2 u hu
  refine rt_run 3 rfl ?_
  refine rt_ic_eq rfl (fun _ => ?_) (fun hc => absurd rfl hc)
  refine rt_run 5 rfl ?_
  rw [hD.1]
  refine rt_st i rfl (n := 4) rfl hi ?_
  -- the ends, and behind them
  have fin : ∀ τ2 l3, OfM [67, 68, 69] [] τ1 τ2 → gI τ2 67 = upd (gI τ1 67) i (nI A.2.2.2) → (∀ k, ¬ (25 * i ≤ k ∧ k < 25 * i + 25) → gI τ2 68 k = gI τ1 68 k) → (∀ p, p < 25 → gI τ2 68 (25 * i + p) = gI τ1 72 p) → (∀ k, ¬ (8 * i ≤ k ∧ k < 8 * i + 8) → gI τ2 69 k = gI τ1 69 k) → (∀ s, s < 8 → gI τ2 69 (8 * i + s) = gI τ1 73 s) →
      RT mX11_reads none 101 [some (.ref 63), some (.int (nI i)), some (.int (-1)), l3] [] τ2 Q := by
    intro τ2 l3 hO2 e67 e68 f68 e69 f69
    refine rt_run 6 rfl ?_
    refine rt_ld 0 rfl (n := 90) rfl (by omega) ?_
    refine rt_run 3 rfl ?_
    refine rt_ld 0 rfl (n := 90) rfl (by omega) ?_
    refine rt_run 3 rfl ?_
    rw [(hO2.1 77 (by decide)).1, (hO2.1 75 (by decide)).1, he0]
    refine rt_st i rfl (n := 4) rfl hi ?_
    have hO3 : OfM [67, 68, 69, 70] [] τ1 (sI τ2 70 i (gI τ1 77 0 ||| (b01 (bt (cl 0) 0) <<< (24 &&& 31)))) := (hO2.up (by simp) (by simp)).sI (by simp) _ _
    have g70 : gI (sI τ2 70 i (gI τ1 77 0 ||| (b01 (bt (cl 0) 0) <<< (24 &&& 31)))) 70 = upd (gI τ1 70) i (gI τ1 77 0 ||| (b01 (bt (cl 0) 0) <<< (24 &&& 31))) := by
      rw [gI_sI, if_pos rfl, (hO2.1 70 (by decide)).1]
    have g67 : gI (sI τ2 70 i (gI τ1 77 0 ||| (b01 (bt (cl 0) 0) <<< (24 &&& 31)))) 67 = gI τ2 67 := rfl
    have g68 : gI (sI τ2 70 i (gI τ1 77 0 ||| (b01 (bt (cl 0) 0) <<< (24 &&& 31)))) 68 = gI τ2 68 := rfl
    have g69 : gI (sI τ2 70 i (gI τ1 77 0 ||| (b01 (bt (cl 0) 0) <<< (24 &&& 31)))) 69 = gI τ2 69 := rfl
    generalize sI τ2 70 i (gI τ1 77 0 ||| (b01 (bt (cl 0) 0) <<< (24 &&& 31))) = τ3 at hO3 g70 g67 g68 g69
    rw [e67] at g67
    have hX3 : MXs τ3 (aX (sX a i A)) := by
      intro y hy
      show match (if y = i then some A else aX a y) with
        | none => _
        | some A => _
      by_cases hyx : y = i
      · subst hyx
        rw [if_pos rfl]
        dsimp only
        refine ⟨by rw [g67, pk_us], fun p hp => ?_, fun s hs => ?_, ?_, hAwf⟩
        · rw [g68, f68 p hp]
          exact mb1 p hp
        · rw [g69, f69 s hs]
          exact mb2 s hs
        · rw [g70, pk_us]
          exact mb3
      · rw [if_neg hyx]
        have h3 := hM1.2.2.1 y hy
        cases hA : aX a y with
        | none =>
          rw [hA] at h3
          dsimp only at h3 ⊢
          rw [g67, pk_un hyx]
          exact h3
        | some B =>
          rw [hA] at h3
          dsimp only at h3 ⊢
          refine ⟨by rw [g67, pk_un hyx]; exact h3.1, fun p hp => ?_, fun s hs => ?_, ?_, h3.2.2.2.2⟩
          · rw [g68, e68 _ (by omega)]
            exact h3.2.1 p hp
          · rw [g69, e69 _ (by omega)]
            exact h3.2.2.1 s hs
          · rw [g70, pk_un hyx]
            exact h3.2.2.2.1
    have hM3 : MI1 τ3 (sX a i A) := by
      obtain ⟨m1, m2, m3, m4, m5, m6⟩ := hM1
      refine ⟨m1.of hO3 (by decide), m2.of hO3 (by decide), hX3, ⟨?_, fun y hy => ⟨(m4.2.1 y hy).1, ?_⟩, ?_, ?_⟩, ?_, ?_⟩
      · rw [hO3.2.2.1 9 (by decide)]; exact m4.1
      · show (if y = i then some A else aX a y).isSome = true
        split
        · rfl
        · exact (m4.2.1 y hy).2
      · rw [hO3.2.2.1 11 (by decide)]; exact m4.2.2.1
      · rw [hO3.2.2.1 12 (by decide)]; exact m4.2.2.2
      · unfold MCt at *
        rw [(hO3.1 65 (by decide)).1]
        exact m5
      · rw [hO3.2.2.1 32 (by decide)]; exact m6
    have h15 : gF τ3 63 15 = nI A.2.2.2 := by rw [hO3.2.2.1 15 (by decide)]; exact hD.1
    have hOD3 : OffD τ τ3 := (hO1.d (by decide)).tr (hO3.d (by decide))
    have e9 : gF τ3 63 9 = wI (aW a) := hM3.2.2.2.1.1
    have done : ∀ τ4 l3, OffD τ3 τ4 → MIs τ4 (sX a i A) → gF τ4 63 15 = nI A.2.2.2 → RT mX11_reads none 137 [some (.ref 63), some (.int (nI i)), some (.int (-1)), l3] [] τ4 Q := by
      intro τ4 l3 hO4 hM4 e4
      refine rt_run 2 rfl ?_
      rw [e4]
      exact rt_iret rfl rfl (h τ4 (hOD3.tr hO4) hM4)
    have e71 : ∀ u, u < 10 → gI τ3 71 u = rowI (aG a) (aX a) (aW a) u := fun u hu => by rw [(hO3.1 71 (by decide)).1]; exact h71 u hu
    refine rt_run 3 rfl ?_
    rw [e9]
    refine rt_ic_ne rfl (fun hc => ?_) (fun hc => ?_)
    · refine done τ3 _ (OffD.rf _) ⟨hM3, fun u hu => ?_⟩ h15
      rw [e71 u hu]
      show rowI (aG a) (aX a) (aW a) u = rowI (aG a) (fun y => if y = i then some A else aX a y) (aW a) u
      cases hW : aW a with
      | none => rfl
      | some y =>
        have hyx : y ≠ i := by
          intro e
          subst e
          exact hc (by rw [hW]; rfl)
        simp only [rowI, if_neg hyx]
    · refine rt_run 2 rfl ?_
      refine rt_cV (ci := 11) mX11_stays kX11_reads_133 okX11_stays rfl rfl rfl rfl rfl ?_
      refine stays_spec (b := true) (a := sX a i A) hM3 e71 (fun hW u hu => ?_) (fun τ4 hO4 hM4 => ?_)
      · have hW : aW a = none := hW
        rw [hW] at hc
        exact absurd hc.symm (neg1 (by omega))
      · refine rt_run 1 rfl ?_
        exact done τ4 _ (hO4.d (by decide)) hM4 (by rw [hO4.2.2.1 15 (by decide)]; exact h15)
  -- the signs
  have sgs : ∀ dd k τ2, k + dd = 8 → OfM [67, 68, 69] [] τ1 τ2 → gI τ2 67 = upd (gI τ1 67) i (nI A.2.2.2) → (∀ k, ¬ (25 * i ≤ k ∧ k < 25 * i + 25) → gI τ2 68 k = gI τ1 68 k) → (∀ p, p < 25 → gI τ2 68 (25 * i + p) = gI τ1 72 p) → (∀ k, ¬ (8 * i ≤ k ∧ k < 8 * i + 8) → gI τ2 69 k = gI τ1 69 k) → (∀ s, s < k → gI τ2 69 (8 * i + s) = gI τ1 73 s) →
      RT mX11_reads none 72 [some (.ref 63), some (.int (nI i)), some (.int (-1)), some (.int (nI k))] [] τ2 Q := by
    intro dd
    induction dd with
    | zero =>
      intro k τ2 hk hO2 e67 e68 f68 e69 f69
      refine rt_run 2 rfl ?_
      refine rt_ge k 8 rfl (by omega) (by omega) (fun _ => ?_) (fun _ => by omega)
      exact fin τ2 _ hO2 e67 e68 f68 e69 (fun s hs => f69 s (by omega))
    | succ dd ih =>
      intro k τ2 hk hO2 e67 e68 f68 e69 f69
      refine rt_run 2 rfl ?_
      refine rt_ge k 8 rfl (by omega) (by omega) (fun _ => by omega) (fun _ => ?_)
      refine rt_run 10 rfl ?_
      refine rt_ld k rfl (n := 8) rfl (by omega) ?_
      refine rt_st (8 * i + k) rfl (n := 32) rfl (by omega) ?_ (by rw [show (8 : Int32) = nI 8 from rfl, pk_mul, nI_add])
      refine rt_run 2 rfl ?_
      rw [← nI_succ]
      refine ih (k + 1) _ (by omega) (hO2.sI (by simp) _ _) e67 e68 f68 (fun y hy => ?_) (fun s hs => ?_)
      · rw [gI_sI, if_pos rfl, pk_un (by omega)]
        exact e69 y hy
      · rw [gI_sI, if_pos rfl]
        by_cases hsk : s = k
        · subst hsk
          rw [pk_us, (hO2.1 73 (by decide)).1]
        · rw [pk_un (by omega)]
          exact f69 s (by omega)
  have nxs : ∀ dd k τ2, k + dd = 25 → OfM [67, 68, 69] [] τ1 τ2 → gI τ2 67 = upd (gI τ1 67) i (nI A.2.2.2) → (∀ k, ¬ (25 * i ≤ k ∧ k < 25 * i + 25) → gI τ2 68 k = gI τ1 68 k) → (∀ p, p < k → gI τ2 68 (25 * i + p) = gI τ1 72 p) → gI τ2 69 = gI τ1 69 →
      RT mX11_reads none 41 [some (.ref 63), some (.int (nI i)), some (.int (-1)), some (.int (nI k))] [] τ2 Q := by
    intro dd
    induction dd with
    | zero =>
      intro k τ2 hk hO2 e67 e68 f68 e69
      refine rt_run 2 rfl ?_
      refine rt_ge k 25 rfl (by omega) (by omega) (fun _ => ?_) (fun _ => by omega)
      refine rt_run 2 rfl ?_
      exact sgs 8 0 τ2 rfl hO2 e67 e68 (fun p hp => f68 p (by omega)) (fun y _ => by rw [e69]) (fun s hs => by omega)
    | succ dd ih =>
      intro k τ2 hk hO2 e67 e68 f68 e69
      refine rt_run 2 rfl ?_
      refine rt_ge k 25 rfl (by omega) (by omega) (fun _ => by omega) (fun _ => ?_)
      refine rt_run 10 rfl ?_
      refine rt_ld k rfl (n := 25) rfl (by omega) ?_
      refine rt_st (25 * i + k) rfl (n := 100) rfl (by omega) ?_ (by rw [show (25 : Int32) = nI 25 from rfl, pk_mul, nI_add])
      refine rt_run 2 rfl ?_
      rw [← nI_succ]
      refine ih (k + 1) _ (by omega) (hO2.sI (by simp) _ _) e67 (fun y hy => ?_) (fun p hp => ?_) e69
      · rw [gI_sI, if_pos rfl, pk_un (by omega)]
        exact e68 y hy
      · rw [gI_sI, if_pos rfl]
        by_cases hpk : p = k
        · subst hpk
          rw [pk_us, (hO2.1 72 (by decide)).1]
        · rw [pk_un (by omega)]
          exact f68 p (by omega)
  refine rt_run 2 rfl ?_
  exact nxs 25 0 _ rfl ((OfM.rf _ _ _).sI (by simp) _ _) rfl (fun k _ => rfl) (fun p hp => by omega) rfl
end MdReads2

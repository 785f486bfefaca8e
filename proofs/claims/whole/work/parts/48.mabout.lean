/-! the reference's about, accepts -/
theorem bt_24 {i : Nat} (hi : i < 32) : bt 16777215 i = decide (i < 24) := (by decide +kernel : ∀ i, i < 32 → bt 16777215 i = decide (i < 24)) i hi
theorem qm_0 {j : Nat} (hj : j < 25) : decide (j < 24) = decide (qm j ≠ 0) := by
  unfold qm
  by_cases h : j = 24
  · subst h; rfl
  · rw [if_neg h]
    rw [decide_eq_true (show j < 24 by omega), decide_eq_true (show j + 1 ≠ 0 by omega)]
theorem fin_1 {A : AE} : finB A 1 = A.2.2.1 0 := by
  unfold finB
  have h1 : ∀ p, p < 25 → Nat.testBit 1 p = decide (p = 0) := by decide
  rw [Bool.eq_iff_iff, List.any_eq_true]
  constructor
  · rintro ⟨p, hp, h2⟩
    rw [h1 p (List.mem_range.mp hp), Bool.and_eq_true] at h2
    rw [← of_decide_eq_true h2.1]
    exact h2.2
  · intro h
    exact ⟨0, List.mem_range.mpr (by decide), by rw [h]; rfl⟩
section MdAbout
variable {τ : Ty} {Q : Option Value → Ty → Prop} {a : AS}
theorem mAbout_spec {x w : Int32} (hM : MIs τ a) (h : ∀ τ', OffD τ τ' → MIs τ' (abtA a x w).2 → Q (some (.int (abtA a x w).1)) τ') : RT mX11_about none 0 [some (.ref 63), some (.int x), some (.int w)] [] τ Q := by
  have no : abtA a x w = rfA (-2) a → RT mX11_about none 16 [some (.ref 63), some (.int x), some (.int w)] [] τ Q := by
    intro e
    rw [e] at h
    refine rt_run 2 rfl ?_
    refine rt_cV (ci := 11) mX11_refuses kX11_about_19 okX11_refuses rfl rfl rfl rfl rfl ?_
    exact refuses_spec hM (Or.inl rfl) (fun τ' hO hC' => rt_iret rfl rfl (h τ' hO hC'))
  refine rt_run 1 rfl ?_
  refine rt_cS mX11_isOne kX11_about_1 okX11_isOne rfl rfl ?_
  refine mOne_spec (fun hh => ?_) (fun i hi ei => ?_)
  · exact rt_if_eq rfl (fun _ => no (by unfold abtA; rw [hh])) (fun hc => absurd rfl hc)
  subst ei
  refine rt_if_eq rfl (fun hc => absurd hc (by decide)) (fun _ => ?_)
  refine rt_run 3 rfl ?_
  refine rt_cS mX11_in kX11_about_10 okX11_in rfl rfl ?_
  refine in_spec 5 (by decide) rfl (fun hh => ?_) (fun w' hw ew => ?_)
  · exact rt_if_ne rfl (fun hc => absurd rfl hc) (fun _ => no (by unfold abtA; rw [rn_so hi (by decide)]; dsimp only; rw [hh]))
  subst ew
  refine rt_if_ne rfl (fun _ => ?_) (fun hc => absurd hc (by decide))
  have eA : abtA a (nI i) (nI w') = (match aX a i with
      | none => (-1, a)
      | some A => abtV A w' a) := by
    unfold abtA; rw [rn_so hi (by decide)]; dsimp only; rw [rn_so hw (by decide)]; rfl
  rw [eA] at h
  refine rt_run 3 rfl ?_
  refine rt_ld i rfl (n := 4) rfl hi ?_
  rcases hM.1.2.2.1.told hi with ⟨hX, e⟩ | ⟨A, hX, e, hA, hE⟩
  · rw [hX] at h
    rw [e]
    refine rt_if_ge rfl (fun hc => absurd hc (by decide)) (fun _ => ?_)
    refine rt_run 1 rfl ?_
    exact rt_iret rfl rfl (h τ (OffD.rf _) hM)
  rw [hX] at h
  dsimp only at h
  rw [e]
  refine rt_if_ge rfl (fun _ => ?_) (fun hc => absurd (nI_pos' (by omega)) hc)
  refine rt_run 1 rfl ?_
  rcases (show w' = 0 ∨ w' = 1 ∨ w' = 2 ∨ w' = 3 ∨ w' = 4 by omega) with rfl | rfl | rfl | rfl | rfl
  · refine rt_tsIn (off := 29) (tgt := 64) rfl (by decide) (by decide) rfl (by decide) ?_
    refine rt_run 3 rfl ?_
    refine rt_ld i rfl (n := 4) rfl hi ?_
    rw [e]
    exact rt_iret rfl rfl (h τ (OffD.rf _) hM)
  · refine rt_tsIn (off := 36) (tgt := 71) rfl (by decide) (by decide) rfl (by decide) ?_
    refine rt_run 3 rfl ?_
    refine rt_ld i rfl (n := 4) rfl hi ?_
    refine rt_run 4 rfl ?_
    have hh := h τ (OffD.rf _) hM
    have hv : (abtV A 1 a).1 = if finB A 1 = true then 1 else 0 := rfl
    rw [hv, fin_1] at hh
    have e24 := b_t1 (s := gI τ 70 i) (p := 24) (by decide)
    rw [hE.2.2.1 24 (by decide), show qm 24 = 0 from rfl] at e24
    rw [show (gI τ 70 i >>> (24 &&& 31)) &&& 1 = if A.2.2.1 0 = true then 1 else 0 from e24]
    exact rt_iret rfl rfl hh
  · refine rt_tsIn (off := 48) (tgt := 83) rfl (by decide) (by decide) rfl (by decide) ?_
    refine rt_run 7 rfl ?_
    refine rt_ld (25 * i + 24) rfl (n := 100) rfl (by omega) ?_ (by rw [← nI_add, ← pk_mul]; rfl)
    refine rt_cS mX11_ones kX11_about_95 okX11_ones rfl rfl ?_
    refine ones_spec ?_
    have hh := h τ (OffD.rf _) hM
    have hv : (abtV A 2 a).1 = bcI (vb (A.1 0) 25) := rfl
    have e1 : onI (gI τ 68 (25 * i + 24)) = bcI (vb (A.1 0) 25) := by
      rw [on_cb, bc_vb _ 25 (by decide), ← cP_qm (A.1 0)]
      congr 1
      exact cP_ext (fun j hj => hE.1 24 (by decide) j (by omega))
    rw [hv, ← e1] at hh
    exact rt_iret rfl rfl hh
  · refine rt_tsIn (off := 64) (tgt := 99) rfl (by decide) (by decide) rfl (by decide) ?_
    refine rt_run 3 rfl ?_
    refine rt_ld i rfl (n := 4) rfl hi ?_
    refine rt_run 2 rfl ?_
    refine rt_cS mX11_ones kX11_about_108 okX11_ones rfl rfl ?_
    refine ones_spec ?_
    have hh := h τ (OffD.rf _) hM
    have hv : (abtV A 3 a).1 = bcI (vb (fun i => A.2.2.1 i && decide (i ≠ 0)) 25) := rfl
    have e1 : onI (gI τ 70 i &&& 16777215) = bcI (vb (fun i => A.2.2.1 i && decide (i ≠ 0)) 25) := by
      rw [on_cb, bc_vb _ 25 (by decide), ← cP_qm (fun i => A.2.2.1 i && decide (i ≠ 0))]
      congr 1
      refine cP_ext (fun j hj => ?_)
      rw [b_and, bt_24 (by omega), qm_0 hj, hE.2.2.1 j (by omega)]
    rw [hv, ← e1] at hh
    exact rt_iret rfl rfl hh
  · refine rt_tsOut (tgt := 112) rfl (Or.inr (by decide)) (by decide) ?_
    refine rt_run 2 rfl ?_
    refine rt_cV (ci := 11) mX11_statesOf kX11_about_114 okX11_statesOf rfl rfl rfl rfl rfl ?_
    refine mStatesOf_spec hM hi hE (fun τ' hO hM' => ?_)
    exact rt_iret rfl rfl (h τ' hO hM')
theorem mAccepts_spec {x n c : Int32} (hM : MIs τ a) (h : ∀ τ', OffD τ τ' → MIs τ' (accA a x n c).2 → Q (some (.int (accA a x n c).1)) τ') : RT mX11_accepts none 0 [some (.ref 63), some (.int x), some (.int n), some (.int c), none, none, none, none, none] [] τ Q := by
  have no : accA a x n c = rfA (-2) a → RT mX11_accepts none 21 [some (.ref 63), some (.int x), some (.int n), some (.int c), none, none, none, none, none] [] τ Q := by
    intro e
    rw [e] at h
    refine rt_run 2 rfl ?_
    refine rt_cV (ci := 11) mX11_refuses kX11_accepts_24 okX11_refuses rfl rfl rfl rfl rfl ?_
    exact refuses_spec hM (Or.inl rfl) (fun τ' hO hC' => rt_iret rfl rfl (h τ' hO hC'))
  refine rt_run 1 rfl ?_
  refine rt_cS mX11_isOne kX11_accepts_1 okX11_isOne rfl rfl ?_
  refine mOne_spec (fun hh => ?_) (fun i hi ei => ?_)
  · exact rt_if_eq rfl (fun _ => no (by unfold accA; rw [hh])) (fun hc => absurd rfl hc)
  subst ei
  refine rt_if_eq rfl (fun hc => absurd hc (by decide)) (fun _ => ?_)
  refine rt_run 3 rfl ?_
  refine rt_cS mX11_in kX11_accepts_11 okX11_in rfl rfl ?_
  refine in_spec 10 (by decide) rfl (fun hh => ?_) (fun n' hn en => ?_)
  · exact rt_if_eq rfl (fun _ => no (by unfold accA; rw [rn_so hi (by decide)]; dsimp only; rw [hh])) (fun hc => absurd rfl hc)
  subst en
  refine rt_if_eq rfl (fun hc => absurd hc (by decide)) (fun _ => ?_)
  have eA : accA a (nI i) (nI n') c = if c < 0 then rfA (-2) a else if wdOk n' c.toNatClampNeg = true then (match aX a i with
      | none => rfA (-3) a
      | some A => ((if finB A (accS A c.toNatClampNeg n' n') = true then 1 else 0), a)) else rfA (-2) a := by
    unfold accA; rw [rn_so hi (by decide)]; dsimp only; rw [rn_so hn (by decide)]; rfl
  refine rt_run 1 rfl ?_
  by_cases hneg : c < 0
  · rw [if_pos hneg] at eA
    refine rt_if_ge rfl (fun hd => ?_) (fun _ => no eA)
    exfalso
    rw [Int32.le_iff_toInt_le] at hd
    rw [Int32.lt_iff_toInt_lt] at hneg
    omega
  rw [if_neg hneg] at eA
  obtain ⟨c', hc', ec⟩ := nI_of hneg
  subst ec
  rw [nI_clamp hc'] at eA
  refine rt_if_ge rfl (fun _ => ?_) (fun hd => absurd (nI_pos' hc') hd)
  have p10 : ∀ j, j ≤ 8 → 10 ^ j < 2 ^ 31 := by decide
  -- behind the figures
  have good : ∀ (z4 z6 z7 : Int32), wdOk n' c' = true → RT mX11_accepts none 117 [some (.ref 63), some (.int (nI i)), some (.int (nI n')), some (.int (nI c')), some (.int z4), some (.int (nI (10 ^ (min n' (n' - 1))))), some (.int z6), some (.int z7), none] [] τ Q := by
    intro z4 z6 z7 hwd
    rw [hwd, if_pos rfl] at eA
    rw [eA] at h
    refine rt_run 3 rfl ?_
    refine rt_ld i rfl (n := 4) rfl hi ?_
    rcases hM.1.2.2.1.told hi with ⟨hX, e⟩ | ⟨A, hX, e, hA, hE⟩
    · rw [hX] at h
      rw [e]
      refine rt_if_ge rfl (fun hc => absurd hc (by decide)) (fun _ => ?_)
      refine rt_run 2 rfl ?_
      refine rt_cV (ci := 11) mX11_refuses kX11_accepts_129 okX11_refuses rfl rfl rfl rfl rfl ?_
      exact refuses_spec hM (Or.inr (Or.inl rfl)) (fun τ' hO hC' => rt_iret rfl rfl (h τ' hO hC'))
    rw [hX] at h
    dsimp only at h
    rw [e]
    refine rt_if_ge rfl (fun _ => ?_) (fun hc => absurd (nI_pos' (by omega)) hc)
    have hfin := h τ (OffD.rf _) hM
    have loop2 : ∀ d k (m : Int32), k + d = n' → (d ≠ 0 → m = nI (10 ^ (d - 1))) → RT mX11_accepts none 140 [some (.ref 63), some (.int (nI i)), some (.int (nI n')), some (.int (nI c')), some (.int z4), some (.int m), some (.int z6), some (.int (mc (accS A c' n' k))), some (.int (nI k))] [] τ Q := by
      intro d
      induction d with
      | zero =>
        intro k m hk hm
        have : k = n' := by omega
        subst this
        refine rt_run 2 rfl ?_
        refine rt_ge k k rfl (by omega) (by omega) (fun _ => ?_) (fun _ => by omega)
        refine rt_run 4 rfl ?_
        refine rt_ld i rfl (n := 4) rfl hi ?_
        refine rt_run 1 rfl ?_
        have hz := mfin hE (accS_lt A c' k k)
        cases hf : finB A (accS A c' k k) with
        | true =>
          rw [hf] at hfin
          refine rt_if_eq rfl (fun hc => ?_) (fun _ => ?_)
          · have := hz.mp hc
            rw [hf] at this
            cases this
          · refine rt_run 2 rfl ?_
            exact rt_iret rfl rfl hfin
        | false =>
          rw [hf] at hfin
          refine rt_if_eq rfl (fun _ => ?_) (fun hc => absurd (hz.mpr hf) hc)
          refine rt_run 1 rfl ?_
          exact rt_iret rfl rfl hfin
      | succ d ih =>
        intro k m hk hm
        have hm : m = nI (10 ^ d) := hm (by omega)
        have hmlt := p10 d (by omega)
        have hpos : 0 < 10 ^ d := Nat.pos_of_ne_zero (by intro e; exact absurd e (by simp))
        subst hm
        refine rt_run 2 rfl ?_
        refine rt_ge k n' rfl (by omega) (by omega) (fun _ => by omega) (fun _ => ?_)
        refine rt_run 5 rfl ?_
        refine rt_idiv rfl (nI_ne0 hpos hmlt) ?_
        rw [pk_div hc' hpos hmlt]
        refine rt_run 1 rfl ?_
        have hdl : c' / 10 ^ d < 2 ^ 31 := Nat.lt_of_le_of_lt (Nat.div_le_self _ _) hc'
        refine rt_irem rfl (by decide) ?_
        rw [show nI (c' / 10 ^ d) - nI (c' / 10 ^ d) / 10 * 10 = nI (c' / 10 ^ d % 10) from pk_rem (d := 10) hdl (by decide) (by decide)]
        refine rt_cV (ci := 11) mX11_goes kX11_accepts_157 okX11_goes rfl rfl rfl rfl rfl ?_
        refine goes_specN hi (wdOk_at hwd (by omega)) hE (accS_lt _ _ _ _) ?_
        refine rt_run 3 rfl ?_
        refine rt_idiv rfl (by decide) ?_
        rw [show nI (10 ^ d) / 10 = nI (10 ^ d / 10) from pk_div (d := 10) hmlt (by decide) (by decide)]
        refine rt_run 3 rfl ?_
        rw [← nI_succ]
        have := ih (k + 1) (nI (10 ^ d / 10)) (by omega) (fun hd => by
          rw [show d = d - 1 + 1 by omega, Nat.pow_succ, Nat.mul_div_cancel _ (by decide)]
          rfl)
        have es : accS A c' n' (k + 1) = nx A (accS A c' n' k) (c' / 10 ^ d % 10) := by
          show nx A _ (c' / 10 ^ (n' - 1 - k) % 10) = _
          rw [show n' - 1 - k = d by omega]
        rw [es] at this
        exact this
    refine rt_run 4 rfl ?_
    rw [show (16777216 : Int32) = mc 1 from mc_1.symm]
    exact loop2 n' 0 _ (by omega) (fun _ => by rw [show min n' (n' - 1) = n' - 1 by omega])
  have loop : ∀ d k r (f : Bool), k + d = n' → r < 2 ^ 31 → wdOk n' c' = (f && wdOk d r) → RT mX11_accepts none 40 [some (.ref 63), some (.int (nI i)), some (.int (nI n')), some (.int (nI c')), some (.int (nI r)), some (.int (nI (10 ^ (min k (n' - 1))))), some (.int (b01 f)), some (.int (nI k)), none] [] τ Q := by
    intro d
    induction d with
    | zero =>
      intro k r f hk hr e
      have : k = n' := by omega
      subst this
      have bad : wdOk k c' = false → ∀ l4 l5 l6 l7, RT mX11_accepts none 110 [some (.ref 63), some (.int (nI i)), some (.int (nI k)), some (.int (nI c')), l4, l5, l6, l7, none] [] τ Q := by
        intro hwd l4 l5 l6 l7
        rw [hwd, if_neg (by decide)] at eA
        rw [eA] at h
        refine rt_run 2 rfl ?_
        refine rt_cV (ci := 11) mX11_refuses kX11_accepts_113 okX11_refuses rfl rfl rfl rfl rfl ?_
        exact refuses_spec hM (Or.inl rfl) (fun τ' hO hC' => rt_iret rfl rfl (h τ' hO hC'))
      refine rt_run 2 rfl ?_
      refine rt_ge k k rfl (by omega) (by omega) (fun _ => ?_) (fun _ => by omega)
      refine rt_run 1 rfl ?_
      rw [show wdOk 0 r = decide (r = 0) from rfl] at e
      by_cases hr0 : r = 0
      · subst hr0
        refine rt_if_gt rfl (fun hc => absurd hc (by decide)) (fun _ => ?_)
        refine rt_run 1 rfl ?_
        cases f with
        | true =>
          refine rt_if_ne rfl (fun _ => ?_) (fun hc => absurd hc (by decide))
          exact good _ _ _ e
        | false =>
          refine rt_if_ne rfl (fun hc => absurd rfl hc) (fun _ => ?_)
          exact bad e _ _ _ _
      · refine rt_if_gt rfl (fun _ => bad ?_ _ _ _ _) (fun hc => ?_)
        · rw [e, decide_eq_false hr0, Bool.and_false]
        · exact absurd (nI_lt (a := 0) (b := r) (by omega) hr) hc
    | succ d ih =>
      intro k r f hk hr e
      rw [wdOk_s] at e
      have tail : ∀ (f' : Bool), f' = (f && decide (r % 10 < 8)) → RT mX11_accepts none 66 [some (.ref 63), some (.int (nI i)), some (.int (nI n')), some (.int (nI c')), some (.int (nI r)), some (.int (nI (10 ^ (min k (n' - 1))))), some (.int (b01 f)), some (.int (nI k)), none] [.int (b01 f')] τ Q := by
        intro f' hf'
        refine rt_run 3 rfl ?_
        refine rt_idiv rfl (by decide) ?_
        rw [show nI r / 10 = nI (r / 10) from pk_div (d := 10) hr (by decide) (by decide)]
        have hih := ih (k + 1) (r / 10) f' (by omega) (by omega) (by rw [e, hf', Bool.and_assoc])
        rw [nI_succ k] at hih
        refine rt_run 6 rfl ?_
        refine rt_ge (k + 1) n' rfl (by omega) (by omega) (fun hge => ?_) (fun hlt => ?_) (nI_succ k).symm
        · refine rt_run 1 rfl ?_
          refine rt_run 4 rfl ?_
          rw [show min (k + 1) (n' - 1) = min k (n' - 1) by omega] at hih
          rw [Int32.mul_one]
          exact hih
        · refine rt_run 2 rfl ?_
          refine rt_run 4 rfl ?_
          rw [show min (k + 1) (n' - 1) = min k (n' - 1) + 1 by omega, Nat.pow_succ, ← pk_mul] at hih
          exact hih
      refine rt_run 2 rfl ?_
      refine rt_ge k n' rfl (by omega) (by omega) (fun _ => by omega) (fun _ => ?_)
      refine rt_run 1 rfl ?_
      cases f with
      | false =>
        refine rt_if_eq rfl (fun _ => ?_) (fun hc => absurd rfl hc)
        refine rt_run 1 rfl ?_
        exact tail false rfl
      | true =>
        refine rt_if_eq rfl (fun hc => absurd hc (by decide)) (fun _ => ?_)
        refine rt_run 2 rfl ?_
        refine rt_irem rfl (by decide) ?_
        rw [show nI r - nI r / 10 * 10 = nI (r % 10) from pk_rem (d := 10) hr (by decide) (by decide)]
        refine rt_run 1 rfl ?_
        refine rt_ge (r % 10) 8 rfl (by omega) (by omega) (fun hge => ?_) (fun hlt => ?_)
        · refine rt_run 1 rfl ?_
          exact tail false (by rw [decide_eq_false (by omega)]; rfl)
        · refine rt_run 2 rfl ?_
          exact tail true (by rw [decide_eq_true hlt]; rfl)
  refine rt_run 8 rfl ?_
  have := loop n' 0 c' true (by omega) hc' rfl
  rw [show min 0 (n' - 1) = 0 by omega] at this
  exact this
end MdAbout

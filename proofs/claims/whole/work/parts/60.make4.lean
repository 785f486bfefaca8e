/-! the class's constructor -/
def clsAll (f1 f2 f3 f4 : Nat → Int32) : List va_E := clsC0 ++ clsS f1 f2 f3 f4 8 (zI 80 :: arE exR :: (clsB1 ++ clsE 4))
section Makes5
variable {Q : Option Value → List va_E → Prop}
theorem x10_signs {bc bs : Nat} (h : ∀ f1 f2 f3 f4 : Nat → Int32, (∀ j, j < 8 → f1 j = 0 ∧ f2 j = nI j ∧ f3 j = 0 ∧ f4 j = nI j) → Q none (clsAll f1 f2 f3 f4)) : ∀ d k (f1 f2 f3 f4 : Nat → Int32), k + d = 8 → (∀ j, j < k → f1 j = 0 ∧ f2 j = nI j ∧ f3 j = 0 ∧ f4 j = nI j) →
    RJ mX10_init none bc bs 178 [some (.ref 0), some (.int (nI k))] [] (clsC0 ++ clsS f1 f2 f3 f4 k (zI 80 :: arE exR :: (clsB1 ++ clsE 4))) Q := by
  intro d
  induction d with
  | zero =>
    intro k f1 f2 f3 f4 hk hf
    have : k = 8 := by omega
    subst this
    refine rj_step rfl rfl ?_
    refine rj_step rfl rfl ?_
    refine rj_ic_ge rfl (fun _ => ?_) (fun hc => absurd (by decide) hc)
    exact rj_vret rfl rfl (h f1 f2 f3 f4 hf)
  | succ d ih =>
    intro k f1 f2 f3 f4 hk hf
    refine rj_step rfl rfl ?_
    refine rj_step rfl rfl ?_
    refine rj_ic_ge rfl (fun hc => ?_) (fun _ => ?_)
    · exact absurd hc (nI_ge (show k < 8 by omega) (by decide))
    · refine rj_step rfl rfl ?_
      refine rj_get (fs := [.ref 1, .ref 5, .ref 10, .ref 15, .ref 20, .int 0, .ref 21, .ref 22, .ref 30, .ref 34, .ref 38, .ref 45, .ref 49, .int 0, .int 0, .int 0]) (v := .ref 15) rfl rfl rfl ?_
      refine rj_step rfl rfl ?_
      refine rj_step rfl rfl ?_
      refine rj_step rfl rfl ?_
      refine rj_step rfl rfl ?_
      refine rj_callV (k := 15) (ci := 7) (fs := [.ref 16, .ref 17, .ref 18, .ref 19, .int (nI k)]) mX7_put rfl kX10_init_192 rfl ?_ rfl (Nat.le_of_ble_eq_true rfl) okX7_put (Nat.le_of_ble_eq_true rfl) (Nat.zero_le _) (Nat.zero_le _) ?_
      · have := fo_get (σ0 := clsC0) (e := .inr (7, [.ref 16, .ref 17, .ref 18, .ref 19, .int (nI k)])) (r := .inl (0, 60, .inl f1) :: .inl (0, 60, .inl f2) :: .inl (0, 60, .inl f3) :: .inl (0, 60, .inl f4) :: (zI 80 :: arE exR :: (clsB1 ++ clsE 4)))
        exact this
      · refine x7_put (C0 := clsC0) (i := k) (u := 0) (s := nI k) (v := 0) (e := nI k) rfl (by omega) ⟨?_, ?_⟩
        · rw [List.length_append, List.length_append]
          rfl
        · refine rj_step rfl rfl ?_
          refine rj_step rfl rfl ?_
          have := ih (k + 1) (upd f1 k 0) (upd f2 k (nI k)) (upd f3 k 0) (upd f4 k (nI k)) (by omega) (fun j hj => ?_)
          · rw [nI_succ] at this
            exact this
          · by_cases hjk : j = k
            · subst hjk
              rw [pk_us, pk_us, pk_us, pk_us]
              exact ⟨rfl, rfl, rfl, rfl⟩
            · rw [pk_un hjk, pk_un hjk, pk_un hjk, pk_un hjk]
              exact hf j (by omega)
theorem x10_exps (h : ∀ f1 f2 f3 f4 : Nat → Int32, (∀ j, j < 8 → f1 j = 0 ∧ f2 j = nI j ∧ f3 j = 0 ∧ f4 j = nI j) → Q none (clsAll f1 f2 f3 f4)) : ∀ d k, k + d = 4 → RJ mX10_init none (3 * d) (38 * d) 152 [some (.ref 0), some (.int (nI k))] [] (clsB0 ++ arE (clsF k) :: (clsB1 ++ clsE k)) Q := by
  intro d
  induction d with
  | zero =>
    intro k hk
    have : k = 4 := by omega
    subst this
    refine rj_step rfl rfl ?_
    refine rj_step rfl rfl ?_
    refine rj_ic_ge rfl (fun _ => ?_) (fun hc => absurd (by decide) hc)
    refine rj_step rfl rfl ?_
    refine rj_step rfl rfl ?_
    rw [clsF_4]
    exact x10_signs h 8 0 (fun _ => 0) (fun _ => 0) (fun _ => 0) (fun _ => 0) rfl (fun j hj => by omega)
  | succ d ih =>
    intro k hk
    have hl := cls_len k
    refine rj_step rfl rfl ?_
    refine rj_step rfl rfl ?_
    refine rj_ic_ge rfl (fun hc => ?_) (fun _ => ?_)
    · exact absurd hc (nI_ge (show k < 4 by omega) (by decide))
    · refine rj_step rfl rfl ?_
      refine rj_get (fs := [.ref 1, .ref 5, .ref 10, .ref 15, .ref 20, .int 0, .ref 21, .ref 22, .ref 30, .ref 34, .ref 38, .ref 45, .ref 49, .int 0, .int 0, .int 0]) (v := .ref 21) rfl rfl rfl ?_
      refine rj_step rfl rfl ?_
      refine fo_make (σ := clsB0 ++ arE (clsF k) :: (clsB1 ++ clsE k)) mX2_init cExp rfl rfl rfl rfl rfl (fun _ _ => rfl) (by decide +kernel) kX10_init_166 okX2_init rfl (by omega) rfl ?_ ?_ (fun _ => rfl) (fun Q' g => x2_init (by omega) g) ?_
      · exact Nat.ble_eq_true_of_le (show 1 + 2 ≤ 3 * (d + 1) by omega)
      · exact Nat.ble_eq_true_of_le (show 5 + 33 ≤ 38 * (d + 1) by omega)
      · rw [hl]
        have e1 : (clsB0 ++ arE (clsF k) :: (clsB1 ++ clsE k)) ++ cExp (51 + 3 * k) = clsB0 ++ arE (clsF k) :: (clsB1 ++ clsE (k + 1)) := by
          rw [List.append_assoc]
          show clsB0 ++ (arE (clsF k) :: ((clsB1 ++ clsE k) ++ cExp (51 + 3 * k))) = _
          rw [List.append_assoc]
          rfl
        have hr : ((clsB0 ++ arE (clsF k) :: (clsB1 ++ clsE k)) ++ cExp (51 + 3 * k))[51 + 3 * k]? = some (.inr (2, [.ref (51 + 3 * k + 1), .ref (51 + 3 * k + 2), .int 0, .int 0, .int 0])) := by
          rw [List.getElem?_append_right (by rw [hl]; exact Nat.le_refl _), hl, Nat.sub_self]
          rfl
        rw [e1] at hr ⊢
        refine rj_aast (k := 21) (n := 4) (f := clsF k) (r := 51 + 3 * k) (ci := 2) rfl ?_ (vp_in_nI (show k < 4 by omega) (by decide)) hr ?_
        · exact fo_get (σ0 := clsB0) (e := arE (clsF k)) (r := clsB1 ++ clsE (k + 1))
        · have es : (clsB0 ++ arE (clsF k) :: (clsB1 ++ clsE (k + 1))).set 21 (.inl (2, 4, .inr (.inr (.inr (.inr (va_up (clsF k) (nI k).toNatClampNeg (some (51 + 3 * k)))))))) = clsB0 ++ arE (va_up (clsF k) (nI k).toNatClampNeg (some (51 + 3 * k))) :: (clsB1 ++ clsE (k + 1)) := fo_set (σ0 := clsB0)
          rw [es, nI_clamp (by omega)]
          refine rj_step rfl rfl ?_
          refine rj_step rfl rfl ?_
          have := ih (k + 1) (by omega)
          rw [nI_succ] at this
          have eb : 3 * (d + 1) - 1 - (mRm mX2_init).cells = 3 * d := by show 3 * (d + 1) - 1 - 2 = _; omega
          have eb2 : 38 * (d + 1) - 5 - (mRm mX2_init).slots = 38 * d := by show 38 * (d + 1) - 5 - 33 = _; omega
          rw [eb, eb2]
          exact this
theorem x10_i8 (h : ∀ f1 f2 f3 f4 : Nat → Int32, (∀ j, j < 8 → f1 j = 0 ∧ f2 j = nI j ∧ f3 j = 0 ∧ f4 j = nI j) → Q none (clsAll f1 f2 f3 f4)) : RJ mX10_init none 12 152 150 [some (.ref 0), none] [] (.inr (10, [.ref 1, .ref 5, .ref 10, .ref 15, .ref 20, .int 0, .ref 21, .ref 22, .ref 30, .ref 34, .ref 38, .ref 45, .ref 49, .int 0, .int 0, .int 0]) :: (cEdges 1 ++ (cSteps 5 ++ (cSteps 10 ++ (cSteps 15 ++ ([zI 80] ++ ([arE (fun _ => none)] ++ (cReader 22 ++ (cReach 30 ++ (cShort 34 ++ (cTally 38 ++ (cComp 45 ++ cStand 49)))))))))))) Q := by
  refine rj_step rfl rfl ?_
  refine rj_step rfl rfl ?_
  exact x10_exps h 4 0 rfl
theorem x10_i7 (h : ∀ f1 f2 f3 f4 : Nat → Int32, (∀ j, j < 8 → f1 j = 0 ∧ f2 j = nI j ∧ f3 j = 0 ∧ f4 j = nI j) → Q none (clsAll f1 f2 f3 f4)) : RJ mX10_init none 12 152 140 [some (.ref 0), none] [] (.inr (10, [.ref 1, .ref 5, .ref 10, .ref 15, .ref 20, .int 0, .ref 21, .ref 22, .ref 30, .ref 34, .ref 38, .ref 45, .ref 49, .int 0, .int 0, .int 0]) :: (cEdges 1 ++ (cSteps 5 ++ (cSteps 10 ++ (cSteps 15 ++ ([zI 80] ++ ([arE (fun _ => none)] ++ (cReader 22 ++ (cReach 30 ++ (cShort 34 ++ (cTally 38 ++ (cComp 45 ++ cStand 49)))))))))))) Q := by
  refine rj_step rfl rfl ?_
  refine rj_step rfl rfl ?_
  refine fo_put (σ0 := []) rfl rfl rfl (fun _ _ => rfl) (fun _ _ => rfl) ?_
  refine rj_step rfl rfl ?_
  refine rj_step rfl rfl ?_
  refine fo_put (σ0 := []) rfl rfl rfl (fun _ _ => rfl) (fun _ _ => rfl) ?_
  exact x10_i8 h
theorem x10_i6 (h : ∀ f1 f2 f3 f4 : Nat → Int32, (∀ j, j < 8 → f1 j = 0 ∧ f2 j = nI j ∧ f3 j = 0 ∧ f4 j = nI j) → Q none (clsAll f1 f2 f3 f4)) : RJ mX10_init none 14 166 124 [some (.ref 0), none] [] (.inr (10, [.ref 1, .ref 5, .ref 10, .ref 15, .ref 20, .int 0, .ref 21, .ref 22, .ref 30, .ref 34, .ref 38, .ref 45, .null, .int 0, .int 0, .int 0]) :: (cEdges 1 ++ (cSteps 5 ++ (cSteps 10 ++ (cSteps 15 ++ ([zI 80] ++ ([arE (fun _ => none)] ++ (cReader 22 ++ (cReach 30 ++ (cShort 34 ++ (cTally 38 ++ cComp 45))))))))))) Q := by
  refine rj_step rfl rfl ?_
  refine fo_make2 (σ0 := []) mX6_init cStand rfl rfl rfl rfl rfl (fun _ _ => rfl) (by decide +kernel) kX10_init_129 okX6_init rfl (by decide) rfl rfl rfl rfl (fun _ => rfl) (fun _ _ g0 g1 => x6_init g0 g1) ?_
  refine fo_putF (σ0 := []) rfl rfl rfl rfl rfl (fun _ _ => rfl) (fun _ _ => rfl) ?_
  refine rj_step rfl rfl ?_
  refine rj_step rfl rfl ?_
  refine fo_put (σ0 := []) rfl rfl rfl (fun _ _ => rfl) (fun _ _ => rfl) ?_
  exact x10_i7 h
theorem x10_i5 (h : ∀ f1 f2 f3 f4 : Nat → Int32, (∀ j, j < 8 → f1 j = 0 ∧ f2 j = nI j ∧ f3 j = 0 ∧ f4 j = nI j) → Q none (clsAll f1 f2 f3 f4)) : RJ mX10_init none 25 14227 102 [some (.ref 0), none] [] (.inr (10, [.ref 1, .ref 5, .ref 10, .ref 15, .ref 20, .int 0, .ref 21, .ref 22, .ref 30, .ref 34, .null, .null, .null, .int 0, .int 0, .int 0]) :: (cEdges 1 ++ (cSteps 5 ++ (cSteps 10 ++ (cSteps 15 ++ ([zI 80] ++ ([arE (fun _ => none)] ++ (cReader 22 ++ (cReach 30 ++ cShort 34))))))))) Q := by
  refine rj_step rfl rfl ?_
  refine fo_make2 (σ0 := []) mX9_init cTally rfl rfl rfl rfl rfl (fun _ _ => rfl) (by decide +kernel) kX10_init_107 okX9_init rfl (by decide) rfl rfl rfl rfl (fun _ => rfl) (fun _ _ g0 g1 => x9_init g0 g1) ?_
  refine fo_putF (σ0 := []) rfl rfl rfl rfl rfl (fun _ _ => rfl) (fun _ _ => rfl) ?_
  refine rj_step rfl rfl ?_
  refine fo_make2 (σ0 := []) mX0_init cComp rfl rfl rfl rfl rfl (fun _ _ => rfl) (by decide +kernel) kX10_init_118 okX0_init rfl (by decide) rfl rfl rfl rfl (fun _ => rfl) (fun _ _ g0 g1 => x0_init g0 g1) ?_
  refine fo_putF (σ0 := []) rfl rfl rfl rfl rfl (fun _ _ => rfl) (fun _ _ => rfl) ?_
  exact x10_i6 h
theorem x10_i4 (h : ∀ f1 f2 f3 f4 : Nat → Int32, (∀ j, j < 8 → f1 j = 0 ∧ f2 j = nI j ∧ f3 j = 0 ∧ f4 j = nI j) → Q none (clsAll f1 f2 f3 f4)) : RJ mX10_init none 33 17033 80 [some (.ref 0), none] [] (.inr (10, [.ref 1, .ref 5, .ref 10, .ref 15, .ref 20, .int 0, .ref 21, .ref 22, .null, .null, .null, .null, .null, .int 0, .int 0, .int 0]) :: (cEdges 1 ++ (cSteps 5 ++ (cSteps 10 ++ (cSteps 15 ++ ([zI 80] ++ ([arE (fun _ => none)] ++ cReader 22))))))) Q := by
  refine rj_step rfl rfl ?_
  refine fo_make2 (σ0 := []) mX3_init cReach rfl rfl rfl rfl rfl (fun _ _ => rfl) (by decide +kernel) kX10_init_85 okX3_init rfl (by decide) rfl rfl rfl rfl (fun _ => rfl) (fun _ _ g0 g1 => x3_init g0 g1) ?_
  refine fo_putF (σ0 := []) rfl rfl rfl rfl rfl (fun _ _ => rfl) (fun _ _ => rfl) ?_
  refine rj_step rfl rfl ?_
  refine fo_make2 (σ0 := []) mX5_init cShort rfl rfl rfl rfl rfl (fun _ _ => rfl) (by decide +kernel) kX10_init_96 okX5_init rfl (by decide) rfl rfl rfl rfl (fun _ => rfl) (fun _ _ g0 g1 => x5_init g0 g1) ?_
  refine fo_putF (σ0 := []) rfl rfl rfl rfl rfl (fun _ _ => rfl) (fun _ _ => rfl) ?_
  exact x10_i5 h
theorem x10_i3 (h : ∀ f1 f2 f3 f4 : Nat → Int32, (∀ j, j < 8 → f1 j = 0 ∧ f2 j = nI j ∧ f3 j = 0 ∧ f4 j = nI j) → Q none (clsAll f1 f2 f3 f4)) : RJ mX10_init none 42 17408 61 [some (.ref 0), none] [] (.inr (10, [.ref 1, .ref 5, .ref 10, .ref 15, .ref 20, .int 0, .null, .null, .null, .null, .null, .null, .null, .int 0, .int 0, .int 0]) :: (cEdges 1 ++ (cSteps 5 ++ (cSteps 10 ++ (cSteps 15 ++ [zI 80]))))) Q := by
  refine rj_step rfl rfl ?_
  refine rj_step rfl rfl ?_
  refine fo_newE (σ0 := []) 4 rfl (by decide +kernel) (by decide) rfl (by decide) rfl rfl rfl rfl ?_
  refine fo_putF (σ0 := []) rfl rfl rfl rfl rfl (fun _ _ => rfl) (fun _ _ => rfl) ?_
  refine rj_step rfl rfl ?_
  refine fo_make2 (σ0 := []) mX4_init cReader rfl rfl rfl rfl rfl (fun _ _ => rfl) (by decide +kernel) kX10_init_74 okX4_init rfl (by decide) rfl rfl rfl rfl (fun _ => rfl) (fun _ _ g0 g1 => x4_init g0 g1) ?_
  refine fo_putF (σ0 := []) rfl rfl rfl rfl rfl (fun _ _ => rfl) (fun _ _ => rfl) ?_
  exact x10_i4 h
theorem x10_i2 (h : ∀ f1 f2 f3 f4 : Nat → Int32, (∀ j, j < 8 → f1 j = 0 ∧ f2 j = nI j ∧ f3 j = 0 ∧ f4 j = nI j) → Q none (clsAll f1 f2 f3 f4)) : RJ mX10_init none 43 17488 48 [some (.ref 0), none] [] (.inr (10, [.ref 1, .ref 5, .ref 10, .ref 15, .null, .int 0, .null, .null, .null, .null, .null, .null, .null, .int 0, .int 0, .int 0]) :: (cEdges 1 ++ (cSteps 5 ++ (cSteps 10 ++ cSteps 15)))) Q := by
  refine rj_step rfl rfl ?_
  refine rj_step rfl rfl ?_
  refine fo_newI (σ0 := []) 80 rfl (by decide) rfl (by decide) rfl rfl rfl rfl ?_
  refine fo_putF (σ0 := []) rfl rfl rfl rfl rfl (fun _ _ => rfl) (fun _ _ => rfl) ?_
  refine rj_step rfl rfl ?_
  refine rj_step rfl rfl ?_
  refine fo_put (σ0 := []) rfl rfl rfl (fun _ _ => rfl) (fun _ _ => rfl) ?_
  exact x10_i3 h
theorem x10_i1 (h : ∀ f1 f2 f3 f4 : Nat → Int32, (∀ j, j < 8 → f1 j = 0 ∧ f2 j = nI j ∧ f3 j = 0 ∧ f4 j = nI j) → Q none (clsAll f1 f2 f3 f4)) : RJ mX10_init none 53 17978 26 [some (.ref 0), none] [] (.inr (10, [.ref 1, .ref 5, .null, .null, .null, .int 0, .null, .null, .null, .null, .null, .null, .null, .int 0, .int 0, .int 0]) :: (cEdges 1 ++ cSteps 5)) Q := by
  refine rj_step rfl rfl ?_
  refine fo_make2 (σ0 := []) mX7_init cSteps rfl rfl rfl rfl rfl (fun _ _ => rfl) (by decide +kernel) kX10_init_31 okX7_init rfl (by decide) rfl rfl rfl rfl (fun _ => rfl) (fun _ _ g0 g1 => x7_init g0 g1) ?_
  refine fo_putF (σ0 := []) rfl rfl rfl rfl rfl (fun _ _ => rfl) (fun _ _ => rfl) ?_
  refine rj_step rfl rfl ?_
  refine fo_make2 (σ0 := []) mX7_init cSteps rfl rfl rfl rfl rfl (fun _ _ => rfl) (by decide +kernel) kX10_init_42 okX7_init rfl (by decide) rfl rfl rfl rfl (fun _ => rfl) (fun _ _ g0 g1 => x7_init g0 g1) ?_
  refine fo_putF (σ0 := []) rfl rfl rfl rfl rfl (fun _ _ => rfl) (fun _ _ => rfl) ?_
  exact x10_i2 h
theorem x10_init (h : ∀ f1 f2 f3 f4 : Nat → Int32, (∀ j, j < 8 → f1 j = 0 ∧ f2 j = nI j ∧ f3 j = 0 ∧ f4 j = nI j) → Q none (clsAll f1 f2 f3 f4)) : RJ mX10_init none 62 18317 0 [some (.ref 0), none] [] (.inr (10, [.null, .null, .null, .null, .null, .int 0, .null, .null, .null, .null, .null, .null, .null, .int 0, .int 0, .int 0]) :: []) Q := by
  refine rj_step rfl rfl ?_
  refine rj_obj rfl (by decide +kernel) (by decide) (by decide) ?_
  refine rj_step rfl rfl ?_
  refine fo_make2 (σ0 := []) mX1_init cEdges rfl rfl rfl rfl rfl (fun _ _ => rfl) (by decide +kernel) kX10_init_9 okX1_init rfl (by decide) rfl rfl rfl rfl (fun _ => rfl) (fun _ _ g0 g1 => x1_init g0 g1) ?_
  refine fo_putF (σ0 := []) rfl rfl rfl rfl rfl (fun _ _ => rfl) (fun _ _ => rfl) ?_
  refine rj_step rfl rfl ?_
  refine fo_make2 (σ0 := []) mX7_init cSteps rfl rfl rfl rfl rfl (fun _ _ => rfl) (by decide +kernel) kX10_init_20 okX7_init rfl (by decide) rfl rfl rfl rfl (fun _ => rfl) (fun _ _ g0 g1 => x7_init g0 g1) ?_
  refine fo_putF (σ0 := []) rfl rfl rfl rfl rfl (fun _ _ => rfl) (fun _ _ => rfl) ?_
  exact x10_i1 h
end Makes5

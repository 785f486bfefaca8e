/-! how many bits an int has: Integer.bitCount and the reference's ones -/
def cN (n : Nat) : Nat → Nat
  | 0 => 0
  | m + 1 => cN n m + (if n.testBit m = true then 1 else 0)
def cP (P : Nat → Bool) : Nat → Nat
  | 0 => 0
  | m + 1 => cP P m + (if P m = true then 1 else 0)
def cb (x : Int32) (m : Nat) : Nat := cP (bt x) m
theorem cP_ext {P P' : Nat → Bool} {n : Nat} (h : ∀ i, i < n → P i = P' i) : cP P n = cP P' n := by
  induction n with
  | zero => rfl
  | succ n ih =>
    unfold cP
    rw [ih (fun i hi => h i (by omega)), h n (by omega)]
theorem cP_more {P : Nat → Bool} {n : Nat} (k : Nat) (h : ∀ i, n ≤ i → P i = false) : cP P (n + k) = cP P n := by
  induction k with
  | zero => rfl
  | succ k ih =>
    show cP P (n + k) + (if P (n + k) = true then 1 else 0) = _
    rw [ih, h (n + k) (by omega)]
    rfl
theorem cP_le (P : Nat → Bool) (n : Nat) : cP P n ≤ n := by
  induction n with
  | zero => exact Nat.le_refl _
  | succ n ih =>
    unfold cP
    split <;> omega
theorem cN_cP (n m : Nat) : cN n m = cP (fun i => n.testBit i) m := by
  induction m with
  | zero => rfl
  | succ m ih => unfold cN cP; rw [ih]
theorem tb_sp {a b : Nat} (hb : b < 256) (j : Nat) : (256 * a + b).testBit j = if j < 8 then b.testBit j else a.testBit (j - 8) := Nat.testBit_two_pow_mul_add (i := 8) a hb j
theorem and_sp {a b c d : Nat} (hb : b < 256) (hd : d < 256) : (256 * a + b) &&& (256 * c + d) = 256 * (a &&& c) + (b &&& d) := by
  apply Nat.eq_of_testBit_eq
  intro j
  have hbd : b &&& d < 256 := Nat.lt_of_le_of_lt Nat.and_le_left hb
  rw [Nat.testBit_and, tb_sp hb, tb_sp hd, tb_sp hbd]
  by_cases hj : j < 8
  · simp [hj]
  · simp [hj]
theorem cN_sp {a b : Nat} (hb : b < 256) (m : Nat) : cN (256 * a + b) (8 + m) = cN b 8 + cN a m := by
  rw [cN_cP, cN_cP, cN_cP]
  induction m with
  | zero =>
    show cP _ 8 = cP _ 8 + 0
    rw [Nat.add_zero]
    exact cP_ext (fun i hi => by rw [tb_sp hb, if_pos hi])
  | succ m ih =>
    show cP (fun i => (256 * a + b).testBit i) (8 + m) + (if (256 * a + b).testBit (8 + m) = true then 1 else 0) = _ + (cP (fun i => a.testBit i) m + (if a.testBit m = true then 1 else 0))
    have e : (256 * a + b).testBit (8 + m) = a.testBit m := by rw [tb_sp hb, if_neg (show ¬ 8 + m < 8 by omega), show 8 + m - 8 = m by omega]
    rw [ih, e]
    omega
def f1 (c n : Nat) : Nat := n - ((n / 2) &&& c)
def f2 (c n : Nat) : Nat := (n &&& c) + ((n / 4) &&& c)
def f3 (c n : Nat) : Nat := (n + n / 16) &&& c
theorem f1_tab : ∀ b, b < 256 → ∀ r, r < 2 → (128 * r + b / 2) &&& 85 = (b / 2) &&& 85 := by decide +kernel
theorem f2_tab : ∀ b, b < 256 → ∀ r, r < 4 → (64 * r + b / 4) &&& 51 = (b / 4) &&& 51 := by decide +kernel
theorem f1_sp {a b c : Nat} (hb : b < 256) : f1 (256 * c + 85) (256 * a + b) = 256 * f1 c a + f1 85 b ∧ f1 85 b < 256 := by
  have e1 : (256 * a + b) / 2 = 256 * (a / 2) + (128 * (a % 2) + b / 2) := by omega
  have h1 : (a / 2) &&& c ≤ a / 2 := Nat.and_le_left
  have h2 : (b / 2) &&& 85 ≤ b / 2 := Nat.and_le_left
  unfold f1
  rw [e1, and_sp (by omega) (by decide), f1_tab b hb (a % 2) (by omega)]
  constructor <;> omega
theorem f2_sp {a b c : Nat} (hb : b < 256) : f2 (256 * c + 51) (256 * a + b) = 256 * f2 c a + f2 51 b ∧ f2 51 b < 256 := by
  have e1 : (256 * a + b) / 4 = 256 * (a / 4) + (64 * (a % 4) + b / 4) := by omega
  have h1 : b &&& 51 ≤ 51 := Nat.and_le_right
  have h2 : (b / 4) &&& 51 ≤ 51 := Nat.and_le_right
  unfold f2
  rw [e1, and_sp hb (by decide), and_sp (b := 64 * (a % 4) + b / 4) (by omega) (by decide), f2_tab b hb (a % 4) (by omega)]
  constructor <;> omega
def pcB (b : Nat) : Nat := cN b 8
theorem f3_tab : ∀ b, b < 256 → ∀ r, r < 5 → (f2 51 (f1 85 b) + 16 * r + f2 51 (f1 85 b) / 16) &&& 15 = pcB b := by decide +kernel
theorem f3_b : ∀ b, b < 256 → f2 51 (f1 85 b) % 16 ≤ 4 ∧ f2 51 (f1 85 b) ≤ 68 ∧ pcB b ≤ 8 := by decide +kernel
theorem f3_sp {a b c : Nat} (hb : b < 256) (ha : a % 16 ≤ 4) : f3 (256 * c + 15) (256 * a + f2 51 (f1 85 b)) = 256 * f3 c a + pcB b := by
  have h1 := f3_b b hb
  have e1 : 256 * a + f2 51 (f1 85 b) + (256 * a + f2 51 (f1 85 b)) / 16 = 256 * (a + a / 16) + (f2 51 (f1 85 b) + 16 * (a % 16) + f2 51 (f1 85 b) / 16) := by omega
  unfold f3
  rw [e1, and_sp (by omega) (by decide), f3_tab b hb (a % 16) (by omega)]
theorem ush_nI (n k : Nat) (hn : n < 2 ^ 32) (hk : k < 32) (p : Nat) (hp : 2 ^ k = p) : ush (nI n) (nI k) = nI (n / p) := by
  apply b_ext
  intro i hi
  unfold ush
  rw [b_ushr k hk, bt_nI _ hi]
  by_cases h32 : k + i < 32
  · rw [bt_nI _ h32, ← hp, Nat.testBit_div_two_pow, Nat.add_comm]
  · rw [b_big (by omega), ← hp, Nat.testBit_div_two_pow]
    exact (Nat.testBit_lt_two_pow (Nat.lt_of_lt_of_le hn (Nat.pow_le_pow_right (by decide) (by omega)))).symm
theorem and_nI (a m : Nat) : nI a &&& nI m = nI (a &&& m) := by
  apply b_ext
  intro i hi
  rw [b_and, bt_nI _ hi, bt_nI _ hi, bt_nI _ hi, Nat.testBit_and]
theorem fin_ar {p0 p1 p2 p3 : Nat} (h0 : p0 ≤ 8) (h1 : p1 ≤ 8) (h2 : p2 ≤ 8) (h3 : p3 ≤ 8) : (256 * (256 * (256 * p3 + p2) + p1) + p0 + (256 * (256 * (256 * p3 + p2) + p1) + p0) / 256 + (256 * (256 * (256 * p3 + p2) + p1) + p0 + (256 * (256 * (256 * p3 + p2) + p1) + p0) / 256) / 65536) % 2 ^ 6 = p0 + (p1 + (p2 + p3)) := by
  rw [show (256 * (256 * (256 * p3 + p2) + p1) + p0) / 256 = 256 * (256 * p3 + p2) + p1 by omega]
  rw [show (256 * (256 * (256 * p3 + p2) + p1) + p0 + (256 * (256 * p3 + p2) + p1)) / 65536 = 256 * p3 + p2 + p3 by omega]
  omega
set_option maxRecDepth 4000 in
theorem bc_nI (n : Nat) (hn : n < 2 ^ 32) : bcI (nI n) = nI (cN n 32) := by
  obtain ⟨b0, b1, b2, b3, h0, h1, h2, h3, e⟩ : ∃ b0 b1 b2 b3, b0 < 256 ∧ b1 < 256 ∧ b2 < 256 ∧ b3 < 256 ∧ n = 256 * (256 * (256 * b3 + b2) + b1) + b0 :=
    ⟨n % 256, n / 256 % 256, n / 65536 % 256, n / 16777216, by omega, by omega, by omega, by omega, by omega⟩
  have hc : cN n 32 = pcB b0 + (pcB b1 + (pcB b2 + pcB b3)) := by
    rw [e, show 32 = 8 + (8 + (8 + 8)) from rfl, cN_sp h0, cN_sp h1, cN_sp h2]
    rfl
  -- the first three steps, byte by byte
  have g1 : f1 1431655765 n = 256 * (256 * (256 * f1 85 b3 + f1 85 b2) + f1 85 b1) + f1 85 b0 := by
    rw [e, show (1431655765 : Nat) = 256 * (256 * (256 * 85 + 85) + 85) + 85 from rfl, (f1_sp h0).1, (f1_sp h1).1, (f1_sp h2).1]
  have k0 := (f1_sp (a := 0) (c := 0) h0).2
  have k1 := (f1_sp (a := 0) (c := 0) h1).2
  have k2 := (f1_sp (a := 0) (c := 0) h2).2
  have k3 := (f1_sp (a := 0) (c := 0) h3).2
  have g2 : f2 858993459 (f1 1431655765 n) = 256 * (256 * (256 * f2 51 (f1 85 b3) + f2 51 (f1 85 b2)) + f2 51 (f1 85 b1)) + f2 51 (f1 85 b0) := by
    rw [g1, show (858993459 : Nat) = 256 * (256 * (256 * 51 + 51) + 51) + 51 from rfl, (f2_sp k0).1, (f2_sp k1).1, (f2_sp k2).1]
  have t0 := f3_b b0 h0
  have t1 := f3_b b1 h1
  have t2 := f3_b b2 h2
  have t3 := f3_b b3 h3
  have g3 : f3 252645135 (f2 858993459 (f1 1431655765 n)) = 256 * (256 * (256 * pcB b3 + pcB b2) + pcB b1) + pcB b0 := by
    rw [g2, show (252645135 : Nat) = 256 * (256 * (256 * 15 + 15) + 15) + 15 from rfl, f3_sp h0 (by omega), f3_sp h1 (by omega), f3_sp h2 (by omega)]
    have := f3_tab b3 h3 0 (by decide)
    unfold f3
    rw [Nat.mul_zero, Nat.add_zero] at this
    rw [this]
  have q2 : f2 858993459 (f1 1431655765 n) < 2 ^ 31 := by rw [g2]; omega
  have q1 : f1 1431655765 n < 2 ^ 32 := by rw [g1]; omega
  have s1 : bc1 (nI n) = nI (f1 1431655765 n) := by
    unfold bc1 f1
    rw [show ush (nI n) 1 = nI (n / 2) from ush_nI n 1 hn (by decide) 2 rfl, show (1431655765 : Int32) = nI 1431655765 from rfl, and_nI, pk_sub]
    exact Nat.le_trans Nat.and_le_left (Nat.div_le_self _ _)
  have s2 : bc2 (nI (f1 1431655765 n)) = nI (f2 858993459 (f1 1431655765 n)) := by
    unfold bc2 f2
    rw [show ush (nI (f1 1431655765 n)) 2 = nI (f1 1431655765 n / 4) from ush_nI _ 2 q1 (by decide) 4 rfl, show (858993459 : Int32) = nI 858993459 from rfl, and_nI, and_nI, nI_add]
  have s3 : bc3 (nI (f2 858993459 (f1 1431655765 n))) = nI (f3 252645135 (f2 858993459 (f1 1431655765 n))) := by
    unfold bc3 f3
    rw [show ush (nI (f2 858993459 (f1 1431655765 n))) 4 = nI (f2 858993459 (f1 1431655765 n) / 16) from ush_nI _ 4 (by omega) (by decide) 16 rfl, nI_add, show (252645135 : Int32) = nI 252645135 from rfl, and_nI]
  unfold bcI
  rw [s1, s2, s3, g3, hc]
  generalize pcB b0 = p0 at *
  generalize pcB b1 = p1 at *
  generalize pcB b2 = p2 at *
  generalize pcB b3 = p3 at *
  unfold bc4
  rw [show ush (nI (256 * (256 * (256 * p3 + p2) + p1) + p0)) 8 = nI ((256 * (256 * (256 * p3 + p2) + p1) + p0) / 256) from ush_nI _ 8 (by omega) (by decide) 256 rfl, nI_add]
  unfold bc5
  rw [show ush (nI (256 * (256 * (256 * p3 + p2) + p1) + p0 + (256 * (256 * (256 * p3 + p2) + p1) + p0) / 256)) 16 = nI ((256 * (256 * (256 * p3 + p2) + p1) + p0 + (256 * (256 * (256 * p3 + p2) + p1) + p0) / 256) / 65536) from ush_nI _ 16 (by omega) (by decide) 65536 rfl, nI_add, show (63 : Int32) = nI 63 from rfl, and_nI]
  congr 1
  rw [show (63 : Nat) = 2 ^ 6 - 1 from rfl, Nat.and_two_pow_sub_one_eq_mod]
  exact fin_ar t0.2.2 t1.2.2 t2.2.2 t3.2.2
theorem bc_cb (x : Int32) : bcI x = nI (cb x 32) := by
  obtain ⟨n, hn, rfl⟩ := wb_of32 x
  rw [bc_nI n hn, cN_cP]
  congr 1
  exact cP_ext (fun i hi => (bt_nI n hi).symm)
def sN (f : Nat → Nat) : Nat → Nat
  | 0 => 0
  | n + 1 => sN f n + f n
theorem smI_nI (f : Nat → Nat) (n : Nat) : smI (fun u => nI (f u)) n = nI (sN f n) := by
  induction n with
  | zero => rfl
  | succ n ih => show smI _ n + _ = nI (sN f n + f n); rw [ih, nI_add]
theorem on_cb (x : Int32) : onI x = nI (cb x 25) := by
  have : ∀ m, smI (fun k => if bt x k = true then 1 else 0) m = nI (cb x m) := by
    intro m
    induction m with
    | zero => rfl
    | succ m ih =>
      show smI _ m + (if bt x m = true then 1 else 0) = nI (cP (bt x) m + (if bt x m = true then 1 else 0))
      rw [ih, ← nI_add]
      congr 1
      split <;> rfl
  exact this 25
theorem cb_vb (P : Nat → Bool) (n k : Nat) (hk : n + k ≤ 32) : cb (vb P n) (n + k) = cP P n := by
  unfold cb
  rw [cP_more k (fun i hi => ?_)]
  · exact cP_ext (fun i hi => by rw [vb_bt P n (by omega) (by omega)]; simp [hi])
  · by_cases hi32 : i < 32
    · rw [vb_bt P n (by omega) hi32]
      have : ¬ i < n := by omega
      simp [this]
    · exact b_big (by omega)
theorem bc_vb (P : Nat → Bool) (n : Nat) (hn : n ≤ 32) : bcI (vb P n) = nI (cP P n) := by
  rw [bc_cb, show 32 = n + (32 - n) by omega, cb_vb P n (32 - n) (by omega)]
theorem on_vb (P : Nat → Bool) (n : Nat) (hn : n ≤ 25) : onI (vb P n) = nI (cP P n) := by
  rw [on_cb, show 25 = n + (25 - n) by omega, cb_vb P n (25 - n) (by omega)]
theorem cP_shift (f : Nat → Bool) (n : Nat) : cP f (n + 1) = (if f 0 = true then 1 else 0) + cP (fun j => f (j + 1)) n := by
  induction n with
  | zero => simp [cP]
  | succ n ih =>
    have e1 : cP f (n + 1 + 1) = cP f (n + 1) + (if f (n + 1) = true then 1 else 0) := rfl
    have e2 : cP (fun j => f (j + 1)) (n + 1) = cP (fun j => f (j + 1)) n + (if f (n + 1) = true then 1 else 0) := rfl
    rw [e1, e2, ih]
    omega
theorem cP_qm (f : Nat → Bool) : cP (fun j => f (qm j)) 25 = cP f 25 := by
  rw [cP_shift f 24]
  show cP (fun j => f (qm j)) 24 + (if f (qm 24) = true then 1 else 0) = _
  rw [show qm 24 = 0 from rfl, cP_ext (P' := fun j => f (j + 1)) (fun i hi => by unfold qm; rw [if_neg (by omega)])]
  omega
theorem cP_sub {P P' : Nat → Bool} {n : Nat} (h : ∀ i, i < n → P i = true → P' i = true) : cP P' n = cP P n + cP (fun i => P' i && !P i) n := by
  induction n with
  | zero => rfl
  | succ n ih =>
    have hh := h n (by omega)
    have ihh := ih (fun i hi => h i (by omega))
    show cP P' n + (if P' n = true then 1 else 0) = cP P n + (if P n = true then 1 else 0) + (cP (fun i => P' i && !P i) n + (if (P' n && !P n) = true then 1 else 0))
    cases hp : P n with
    | true => rw [hh hp]; simp; omega
    | false => simp; omega

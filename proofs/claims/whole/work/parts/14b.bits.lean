/-! bits of an int: the first rows (to b_sshr) are the family of kit/laws/BITS -/
def bt (x : Int32) (i : Nat) : Bool := x.toBitVec.getLsbD i
theorem b_ext {x y : Int32} (h : ∀ i, i < 32 → bt x i = bt y i) : x = y := Int32.toBitVec_inj.mp (BitVec.eq_of_getLsbD_eq (fun i hi => h i hi))
theorem b_or (x y : Int32) (i : Nat) : bt (x ||| y) i = (bt x i || bt y i) := by unfold bt; rw [Int32.toBitVec_or, BitVec.getLsbD_or]
theorem b_and (x y : Int32) (i : Nat) : bt (x &&& y) i = (bt x i && bt y i) := by unfold bt; rw [Int32.toBitVec_and, BitVec.getLsbD_and]
theorem b_xor (x y : Int32) (i : Nat) : bt (x ^^^ y) i = (bt x i ^^ bt y i) := by unfold bt; rw [Int32.toBitVec_xor, BitVec.getLsbD_xor]
theorem b_big {x : Int32} {i : Nat} (h : 32 ≤ i) : bt x i = false := BitVec.getLsbD_of_ge _ _ h
theorem b_255 (i : Nat) : bt 255 i = decide (i < 8) := by
  rcases Nat.lt_or_ge i 32 with h | h
  · exact (by decide +kernel : ∀ i, i < 32 → bt 255 i = decide (i < 8)) i h
  · rw [b_big h, decide_eq_false (by omega)]
theorem b_65535 (i : Nat) : bt 65535 i = decide (i < 16) := by
  rcases Nat.lt_or_ge i 32 with h | h
  · exact (by decide +kernel : ∀ i, i < 32 → bt 65535 i = decide (i < 16)) i h
  · rw [b_big h, decide_eq_false (by omega)]
theorem b_m1 : ∀ i, i < 32 → bt (-1) i = true := by decide +kernel
theorem b_0 (i : Nat) : bt 0 i = false := BitVec.getLsbD_zero
theorem s_l : ∀ n, n < 32 → ((nI n &&& 31).toBitVec.smod 32).toNat = n := by decide +kernel
theorem s_u : ∀ n, n < 32 → (((nI n).toUInt32 &&& Int32.toUInt32 31).toBitVec % 32).toNat = n := by decide +kernel
theorem b_shl (n : Nat) (hn : n < 32) (x : Int32) {i : Nat} (hi : i < 32) : bt (x <<< (nI n &&& 31)) i = (decide (n ≤ i) && bt x (i - n)) := by
  unfold bt
  rw [Int32.toBitVec_shiftLeft]
  show (x.toBitVec <<< ((nI n &&& 31).toBitVec.smod 32).toNat).getLsbD i = _
  rw [s_l n hn, BitVec.getLsbD_shiftLeft]
  rcases Nat.lt_or_ge i n with h | h
  · simp [h, Nat.not_le.mpr h]
  · simp [hi, h, Nat.not_lt.mpr h]
theorem b_ushr (n : Nat) (hn : n < 32) (x : Int32) (i : Nat) : bt ((x.toUInt32 >>> ((nI n).toUInt32 &&& Int32.toUInt32 31)).toInt32) i = bt x (n + i) := by
  show (x.toUInt32 >>> ((nI n).toUInt32 &&& Int32.toUInt32 31)).toBitVec.getLsbD i = x.toUInt32.toBitVec.getLsbD (n + i)
  rw [UInt32.toBitVec_shiftRight]
  show (x.toUInt32.toBitVec >>> (((nI n).toUInt32 &&& Int32.toUInt32 31).toBitVec % 32).toNat).getLsbD i = _
  rw [s_u n hn, BitVec.getLsbD_ushiftRight]
theorem b_sshr (n : Nat) (hn : n < 32) (x : Int32) {i : Nat} (hi : i < 32) : bt (x >>> (nI n &&& 31)) i = if n + i < 32 then bt x (n + i) else bt x 31 := by
  unfold bt
  rw [Int32.toBitVec_shiftRight]
  show (x.toBitVec.sshiftRight ((nI n &&& 31).toBitVec.smod 32).toNat).getLsbD i = _
  rw [s_l n hn, BitVec.getLsbD_sshiftRight, BitVec.msb_eq_getLsbD_last]
  simp [hi]
theorem b_one {i : Nat} (hi : i < 32) : bt 1 i = decide (i = 0) := (by decide +kernel : ∀ i, i < 32 → bt 1 i = decide (i = 0)) i hi
theorem b_m2 {i : Nat} (hi : i < 32) : bt (-2) i = decide (i ≠ 0) := (by decide +kernel : ∀ i, i < 32 → bt (-2) i = decide (i ≠ 0)) i hi
theorem b_bit {p i : Nat} (hp : p < 32) (hi : i < 32) : bt (1 <<< (nI p &&& 31)) i = decide (i = p) := by
  rw [b_shl p hp 1 hi]
  by_cases h : p ≤ i
  · rw [b_one (by omega)]
    by_cases h2 : i = p
    · subst h2; simp
    · have : ¬ i - p = 0 := by omega
      simp [h2, this]
  · have : ¬ i = p := by omega
    simp [h, this]
theorem b_zero {x : Int32} : x = 0 ↔ ∀ i, i < 32 → bt x i = false := ⟨fun h i _ => by rw [h]; exact b_0 i, fun h => b_ext (fun i hi => by rw [h i hi, b_0])⟩
theorem b_and1 {x : Int32} : (x &&& 1) = 0 ↔ bt x 0 = false := by
  rw [b_zero]
  constructor
  · intro h
    have := h 0 (by decide)
    rw [b_and, b_one (by decide)] at this
    simpa using this
  · intro h i hi
    rw [b_and, b_one hi]
    by_cases h0 : i = 0
    · subst h0; simp [h]
    · simp [h0]
theorem b_test {s : Int32} {p : Nat} (hp : p < 32) : ((s >>> (nI p &&& 31)) &&& 1) = 0 ↔ bt s p = false := by
  rw [b_and1, b_sshr p hp s (by decide), if_pos (by omega), Nat.add_zero]
theorem bt_t {s : Int32} {p : Nat} (hp : p < 32) (h : ¬ ((s >>> (nI p &&& 31)) &&& 1) = 0) : bt s p = true := by
  cases hb : bt s p with
  | true => rfl
  | false => exact absurd ((b_test hp).mpr hb) h
theorem bt_f {s : Int32} {p : Nat} (hp : p < 32) (h : ((s >>> (nI p &&& 31)) &&& 1) = 0) : bt s p = false := (b_test hp).mp h
theorem b_t1 {s : Int32} {p : Nat} (hp : p < 32) : (s >>> (nI p &&& 31)) &&& 1 = if bt s p = true then 1 else 0 := by
  apply b_ext
  intro i hi
  rw [b_and, b_one hi, b_sshr p hp s hi]
  by_cases h0 : i = 0
  · subst h0
    rw [if_pos (by omega), Nat.add_zero]
    cases bt s p <;> simp [b_0, b_one]
  · cases bt s p <;> simp [h0, b_0, b_one hi]
theorem b_not {x : Int32} {i : Nat} (hi : i < 32) : bt (x ^^^ -1) i = !bt x i := by rw [b_xor, b_m1 i hi]; simp
/-- all that the rows of a set's members hold, up to a place -/
def orL (f : Nat → Int32) (s : Int32) : Nat → Int32
  | 0 => 0
  | p + 1 => if bt s p = true then orL f s p ||| f p else orL f s p
theorem orL_bt (f : Nat → Int32) (s : Int32) (n i : Nat) : bt (orL f s n) i = (List.range n).any (fun p => bt s p && bt (f p) i) := by
  induction n with
  | zero => simp [orL, b_0]
  | succ n ih =>
    rw [List.range_succ, List.any_append]
    unfold orL
    cases hb : bt s n with
    | true => simp [b_or, ih, hb]
    | false => simp [ih, hb]

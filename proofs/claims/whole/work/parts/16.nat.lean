/-! rows with places as natural numbers; what a store says of the typed store; fill, bitCount, min, max -/
theorem shpLe : (shp.all fun s => match s with
    | .inl (_, n) => decide (n ≤ 4000)
    | _ => true) = true := by decide +kernel
theorem aI_le {k n : Nat} (h : aI k = some n) : n < 2 ^ 31 := by
  have h1 := aI_e h
  rw [ng_eq] at h1
  have h2 := List.all_eq_true.mp shpLe _ (List.mem_of_getElem? h1)
  have h3 : n ≤ 4000 := of_decide_eq_true h2
  omega
theorem aL_le {k n : Nat} (h : aL k = some n) : n < 2 ^ 31 := by
  have h1 := aL_e h
  rw [ng_eq] at h1
  have h2 := List.all_eq_true.mp shpLe _ (List.mem_of_getElem? h1)
  have h3 : n ≤ 4000 := of_decide_eq_true h2
  omega
section RtNat
variable {M : MD} {X : Option (Nat × (Nat → Int32))} {pc nx a b : Nat} {c : Int32} {cl : Int64} {lv lv' : List (Option Value)} {st st' : List Value} {τ τ' : Ty} {Q : Option Value → Ty → Prop}
theorem rt_ld {k n : Nat} {x : Int32} (j : Nat) (hq : lk (mTab M) pc = some (.iaload, nx, a, b, c, cl)) (hf : aI k = some n) (hj : j < n) (K : RT M X nx lv (.int (gI τ k j) :: st) τ Q) (hx : x = nI j := by first | rfl | (simp only [← nI_add, ← pk_mul]; rfl)) : RT M X pc lv (.int x :: .ref k :: st) τ Q := by
  subst hx
  have hn := aI_le hf
  refine rt_iald hq hf (vp_in_nI hj hn) ?_
  rw [nI_clamp (by omega)]
  exact K
theorem rt_st {k n : Nat} {x y : Int32} (j : Nat) (hq : lk (mTab M) pc = some (.iastore, nx, a, b, c, cl)) (hf : aI k = some n) (hj : j < n) (K : RT M X nx lv st (sI τ k j y) Q) (hx : x = nI j := by first | rfl | (simp only [← nI_add, ← pk_mul]; rfl)) : RT M X pc lv (.int y :: .int x :: .ref k :: st) τ Q := by
  subst hx
  have hn := aI_le hf
  refine rt_iast hq hf (vp_in_nI hj hn) ?_
  rw [nI_clamp (by omega)]
  exact K
theorem rt_ldL {k n : Nat} {x : Int32} (j : Nat) (hq : lk (mTab M) pc = some (.laload, nx, a, b, c, cl)) (hf : aL k = some n) (hj : j < n) (K : RT M X nx lv (.long (gL τ k j) :: st) τ Q) (hx : x = nI j := by first | rfl | (simp only [← nI_add, ← pk_mul]; rfl)) : RT M X pc lv (.int x :: .ref k :: st) τ Q := by
  subst hx
  have hn := aL_le hf
  refine rt_lald hq hf (vp_in_nI hj hn) ?_
  rw [nI_clamp (by omega)]
  exact K
theorem rt_stL {k n : Nat} {x : Int32} {y : Int64} (j : Nat) (hq : lk (mTab M) pc = some (.lastore, nx, a, b, c, cl)) (hf : aL k = some n) (hj : j < n) (K : RT M X nx lv st (sL τ k j y) Q) (hx : x = nI j := by first | rfl | (simp only [← nI_add, ← pk_mul]; rfl)) : RT M X pc lv (.long y :: .int x :: .ref k :: st) τ Q := by
  subst hx
  have hn := aL_le hf
  refine rt_last hq hf (vp_in_nI hj hn) ?_
  rw [nI_clamp (by omega)]
  exact K
theorem rt_ge {x y : Int32} {n : Int} (i j : Nat) (hq : lk (mTab M) pc = some (.if_icmp .ge n, nx, a, b, c, cl)) (hi : i < 2 ^ 31) (hj : j < 2 ^ 31) (kt : j ≤ i → RT M X a lv st τ Q) (kf : i < j → RT M X nx lv st τ Q) (hx : x = nI i := by first | rfl | assumption | (simp only [← nI_add, ← pk_mul]; rfl)) (hy : y = nI j := by first | rfl | assumption | (simp only [← nI_add, ← pk_mul]; rfl)) : RT M X pc lv (.int y :: .int x :: st) τ Q := by
  subst hx; subst hy
  exact rt_ic_ge hq (fun h => kt ((nI_leI hj hi).mp h)) (fun h => kf (by have := mt (nI_leI hj hi).mpr h; omega))
theorem rt_lt {x y : Int32} {n : Int} (i j : Nat) (hq : lk (mTab M) pc = some (.if_icmp .lt n, nx, a, b, c, cl)) (hi : i < 2 ^ 31) (hj : j < 2 ^ 31) (kt : i < j → RT M X a lv st τ Q) (kf : j ≤ i → RT M X nx lv st τ Q) (hx : x = nI i := by first | rfl | assumption | (simp only [← nI_add, ← pk_mul]; rfl)) (hy : y = nI j := by first | rfl | assumption | (simp only [← nI_add, ← pk_mul]; rfl)) : RT M X pc lv (.int y :: .int x :: st) τ Q := by
  subst hx; subst hy
  exact rt_ic_lt hq (fun h => kt ((nI_ltI hi hj).mp h)) (fun h => kf (by have := mt (nI_ltI hi hj).mpr h; omega))
theorem rt_gt {x y : Int32} {n : Int} (i j : Nat) (hq : lk (mTab M) pc = some (.if_icmp .gt n, nx, a, b, c, cl)) (hi : i < 2 ^ 31) (hj : j < 2 ^ 31) (kt : j < i → RT M X a lv st τ Q) (kf : i ≤ j → RT M X nx lv st τ Q) (hx : x = nI i := by first | rfl | assumption | (simp only [← nI_add, ← pk_mul]; rfl)) (hy : y = nI j := by first | rfl | assumption | (simp only [← nI_add, ← pk_mul]; rfl)) : RT M X pc lv (.int y :: .int x :: st) τ Q := by
  subst hx; subst hy
  exact rt_ic_gt hq (fun h => kt ((nI_ltI hj hi).mp h)) (fun h => kf (by have := mt (nI_ltI hj hi).mpr h; omega))
theorem rt_le {x y : Int32} {n : Int} (i j : Nat) (hq : lk (mTab M) pc = some (.if_icmp .le n, nx, a, b, c, cl)) (hi : i < 2 ^ 31) (hj : j < 2 ^ 31) (kt : i ≤ j → RT M X a lv st τ Q) (kf : j < i → RT M X nx lv st τ Q) (hx : x = nI i := by first | rfl | assumption | (simp only [← nI_add, ← pk_mul]; rfl)) (hy : y = nI j := by first | rfl | assumption | (simp only [← nI_add, ← pk_mul]; rfl)) : RT M X pc lv (.int y :: .int x :: st) τ Q := by
  subst hx; subst hy
  exact rt_ic_le hq (fun h => kt ((nI_leI hi hj).mp h)) (fun h => kf (by have := mt (nI_leI hi hj).mpr h; omega))
theorem rt_eq {x y : Int32} {n : Int} (i j : Nat) (hq : lk (mTab M) pc = some (.if_icmp .eq n, nx, a, b, c, cl)) (hi : i < 2 ^ 31) (hj : j < 2 ^ 31) (kt : i = j → RT M X a lv st τ Q) (kf : i ≠ j → RT M X nx lv st τ Q) (hx : x = nI i := by first | rfl | assumption | (simp only [← nI_add, ← pk_mul]; rfl)) (hy : y = nI j := by first | rfl | assumption | (simp only [← nI_add, ← pk_mul]; rfl)) : RT M X pc lv (.int y :: .int x :: st) τ Q := by
  subst hx; subst hy
  exact rt_ic_eq hq (fun h => kt ((nI_eq hi hj).mp h)) (fun h => kf (mt (nI_eq hi hj).mpr h))
theorem rt_ne {x y : Int32} {n : Int} (i j : Nat) (hq : lk (mTab M) pc = some (.if_icmp .ne n, nx, a, b, c, cl)) (hi : i < 2 ^ 31) (hj : j < 2 ^ 31) (kt : i ≠ j → RT M X a lv st τ Q) (kf : i = j → RT M X nx lv st τ Q) (hx : x = nI i := by first | rfl | assumption | (simp only [← nI_add, ← pk_mul]; rfl)) (hy : y = nI j := by first | rfl | assumption | (simp only [← nI_add, ← pk_mul]; rfl)) : RT M X pc lv (.int y :: .int x :: st) τ Q := by
  subst hx; subst hy
  exact rt_ic_ne hq (fun h => kt (mt (nI_eq hi hj).mpr h)) (fun h => kf ((nI_eq hi hj).mp h))
theorem mmW : (decide (Jvm.Cond.static Lib.Math.min.name ∈ lw_tbl) && decide (Jvm.Cond.static Lib.Math.max.name ∈ lw_tbl) && decide (Jvm.Cond.initialized "java/lang/Math" ∈ lw_tbl) && decide (Jvm.Cond.code Lib.Math.min.name Lib.Math.min.code 2 (some .int) ∈ lw_tbl) && decide (Jvm.Cond.code Lib.Math.max.name Lib.Math.max.code 2 (some .int) ∈ lw_tbl)) = true := by decide +kernel
theorem rt_min {i : Nat} {x y : Int32} (hq : lk (mTab M) pc = some (.invokestatic i, nx, a, b, c, cl)) (hw : Jvm.Cond.methodLink (mY M).cls i Lib.Math.min.name ∈ lw_tbl) (hf : 1 ≤ (mRm M).frames) (hl : catSum st + 13 ≤ (mRm M).locals) (K : RT M X nx lv (.int (if y < x then y else x) :: st) τ Q) : RT M X pc lv (.int y :: .int x :: st) τ Q := by
  intro bc bs p l e s m args below meth c H locs cells slots Z b0 sz cA D ls h1 h2 h3 h4 h5 h6 h7 h8 hE
  have hk := mOk_at h1 hq
  simp only [enOk, iLen, Bool.and_true, Bool.and_eq_true] at hk
  obtain ⟨hd, hn9⟩ := hk
  have hd := of_decide_eq_true hd
  have hn9 := of_decide_eq_true hn9
  subst hn9
  have cw := mmW
  simp only [Bool.and_eq_true, decide_eq_true_eq] at cw
  exact va_mmin h2.1 h2.2.1 (by rw [h2.2.2.2.1]; exact h5.1.symm) h2.2.2.2.2.1 (h2.w hw rfl) (h2.w cw.1.1.1.1 rfl) (h2.w cw.1.1.2 rfl) (h2.w cw.1.2 rfl) hf (by rw [catSum_x]; exact hl) (by omega) (by omega) hd (K bc bs p l e s m args below meth c H locs cells slots Z b0 sz cA D ls h1 h2 h3 h4 h5 h6 h7 h8 hE)
theorem rt_max {i : Nat} {x y : Int32} (hq : lk (mTab M) pc = some (.invokestatic i, nx, a, b, c, cl)) (hw : Jvm.Cond.methodLink (mY M).cls i Lib.Math.max.name ∈ lw_tbl) (hf : 1 ≤ (mRm M).frames) (hl : catSum st + 13 ≤ (mRm M).locals) (K : RT M X nx lv (.int (if x < y then y else x) :: st) τ Q) : RT M X pc lv (.int y :: .int x :: st) τ Q := by
  intro bc bs p l e s m args below meth c H locs cells slots Z b0 sz cA D ls h1 h2 h3 h4 h5 h6 h7 h8 hE
  have hk := mOk_at h1 hq
  simp only [enOk, iLen, Bool.and_true, Bool.and_eq_true] at hk
  obtain ⟨hd, hn9⟩ := hk
  have hd := of_decide_eq_true hd
  have hn9 := of_decide_eq_true hn9
  subst hn9
  have cw := mmW
  simp only [Bool.and_eq_true, decide_eq_true_eq] at cw
  exact va_mmax h2.1 h2.2.1 (by rw [h2.2.2.2.1]; exact h5.1.symm) h2.2.2.2.2.1 (h2.w hw rfl) (h2.w cw.1.1.1.2 rfl) (h2.w cw.1.1.2 rfl) (h2.w cw.2 rfl) hf (by rw [catSum_x]; exact hl) (by omega) (by omega) hd (K bc bs p l e s m args below meth c H locs cells slots Z b0 sz cA D ls h1 h2 h3 h4 h5 h6 h7 h8 hE)
end RtNat
/-! what the typed store holds behind a store -/
theorem gI_sA (τ : Ty) (k : Nat) (f : Nat → Int32) (k' : Nat) : gI (sA τ k f) k' = if k' = k then f else gI τ k' := rfl
theorem gI_sI (τ : Ty) (k j : Nat) (x : Int32) (k' : Nat) : gI (sI τ k j x) k' = if k' = k then upd (gI τ k) j x else gI τ k' := rfl
theorem gI_sL (τ : Ty) (k j : Nat) (x : Int64) : gI (sL τ k j x) = gI τ := rfl
theorem gI_sF (τ : Ty) (k j : Nat) (x : Int32) : gI (sF τ k j x) = gI τ := rfl
theorem gL_sA (τ : Ty) (k : Nat) (f : Nat → Int32) : gL (sA τ k f) = gL τ := rfl
theorem gL_sI (τ : Ty) (k j : Nat) (x : Int32) : gL (sI τ k j x) = gL τ := rfl
theorem gL_sL (τ : Ty) (k j : Nat) (x : Int64) (k' : Nat) : gL (sL τ k j x) k' = if k' = k then vp_updL (gL τ k) j x else gL τ k' := rfl
theorem gL_sF (τ : Ty) (k j : Nat) (x : Int32) : gL (sF τ k j x) = gL τ := rfl
theorem gF_sA (τ : Ty) (k : Nat) (f : Nat → Int32) : gF (sA τ k f) = gF τ := rfl
theorem gF_sI (τ : Ty) (k j : Nat) (x : Int32) : gF (sI τ k j x) = gF τ := rfl
theorem gF_sL (τ : Ty) (k j : Nat) (x : Int64) : gF (sL τ k j x) = gF τ := rfl
theorem gF_sF (τ : Ty) (k j : Nat) (x : Int32) (k' : Nat) : gF (sF τ k j x) k' = if k' = k then upd (gF τ k) j x else gF τ k' := rfl
/-- only the cells of a list have changed -/
def Off (ks : List Nat) (τ τ' : Ty) : Prop := (∀ k, k ∉ ks → gI τ' k = gI τ k ∧ gL τ' k = gL τ k ∧ gF τ' k = gF τ k) ∧ gW τ' = gW τ
theorem Off.rf (ks : List Nat) (τ : Ty) : Off ks τ τ := ⟨fun _ _ => ⟨rfl, rfl, rfl⟩, rfl⟩
theorem Off.tr {ks : List Nat} {τ τ' τ'' : Ty} (h : Off ks τ τ') (h' : Off ks τ' τ'') : Off ks τ τ'' :=
  ⟨fun k hk => ⟨(h'.1 k hk).1.trans (h.1 k hk).1, (h'.1 k hk).2.1.trans (h.1 k hk).2.1, (h'.1 k hk).2.2.trans (h.1 k hk).2.2⟩, h'.2.trans h.2⟩
theorem Off.up {ks ks' : List Nat} {τ τ' : Ty} (h : Off ks τ τ') (hs : ∀ k ∈ ks, k ∈ ks') : Off ks' τ τ' := ⟨fun k hk => h.1 k (fun hh => hk (hs k hh)), h.2⟩
theorem Off.sA {ks : List Nat} {τ τ' : Ty} {k : Nat} (h : Off ks τ τ') (hk : k ∈ ks) (f : Nat → Int32) : Off ks τ (sA τ' k f) := by
  refine ⟨fun k' hk' => ?_, h.2⟩
  have hne : k' ≠ k := fun e => hk' (e ▸ hk)
  rw [gI_sA, if_neg hne]
  exact h.1 k' hk'
theorem Off.sI {ks : List Nat} {τ τ' : Ty} {k : Nat} (h : Off ks τ τ') (hk : k ∈ ks) (j : Nat) (x : Int32) : Off ks τ (sI τ' k j x) := h.sA hk _
theorem Off.sL {ks : List Nat} {τ τ' : Ty} {k : Nat} (h : Off ks τ τ') (hk : k ∈ ks) (j : Nat) (x : Int64) : Off ks τ (sL τ' k j x) := by
  refine ⟨fun k' hk' => ?_, h.2⟩
  have hne : k' ≠ k := fun e => hk' (e ▸ hk)
  rw [gL_sL, if_neg hne]
  exact h.1 k' hk'
theorem Off.sF {ks : List Nat} {τ τ' : Ty} {k : Nat} (h : Off ks τ τ') (hk : k ∈ ks) (j : Nat) (x : Int32) : Off ks τ (sF τ' k j x) := by
  refine ⟨fun k' hk' => ?_, h.2⟩
  have hne : k' ≠ k := fun e => hk' (e ▸ hk)
  rw [gF_sF, if_neg hne]
  exact h.1 k' hk'
theorem sI_sA (τ : Ty) (k : Nat) (f : Nat → Int32) (j : Nat) (x : Int32) : sI (sA τ k f) k j x = sA τ k (upd f j x) := by
  unfold sI
  rw [gI_sA, if_pos rfl]
  simp only [sA]
  congr 1
  funext k'
  by_cases h : k' = k <;> simp [h]
theorem sA_self (τ : Ty) (k : Nat) : sA τ k (gI τ k) = τ := by
  unfold sA gI
  have : (fun k' => if k' = k then τ.1 k else τ.1 k') = τ.1 := by
    funext k'
    by_cases h : k' = k
    · rw [if_pos h, h]
    · rw [if_neg h]
  rw [this]
/-- Arrays.fill -/
theorem fill_spec {k n : Nat} {v : Int32} {τ : Ty} {Q : Option Value → Ty → Prop} (hk : aI k = some n) (h : ∀ f : Nat → Int32, (∀ j, j < n → f j = v) → Q none (sA τ k f)) : RT mJ7_fill_53178 none 0 [some (.ref k), some (.int v), none, none] [] τ Q := by
  have hn := aI_le hk
  have loop : ∀ d i (f : Nat → Int32), i + d = n → (∀ j, j < i → f j = v) → RT mJ7_fill_53178 none 5 [some (.ref k), some (.int v), some (.int (nI i)), some (.int (nI n))] [] (sA τ k f) Q := by
    intro d
    induction d with
    | zero =>
      intro i f hi hf
      refine rt_run 2 rfl ?_
      refine rt_ge i n rfl (by omega) (by omega) (fun _ => ?_) (fun _ => by omega)
      exact rt_vret rfl rfl (h f (fun j hj => hf j (by omega)))
    | succ d ih =>
      intro i f hi hf
      refine rt_run 2 rfl ?_
      refine rt_ge i n rfl (by omega) (by omega) (fun _ => by omega) (fun _ => ?_)
      refine rt_run 3 rfl ?_
      refine rt_st i rfl hk (by omega) ?_
      rw [sI_sA]
      refine rt_run 2 rfl ?_
      have := ih (i + 1) (upd f i v) (by omega) (fun j hj => by
        by_cases hji : j = i
        · rw [hji]; exact pk_us
        · rw [pk_un hji]; exact hf j (by omega))
      rw [nI_succ] at this
      exact this
  refine rt_run 3 rfl ?_
  refine rt_alen rfl hk ?_
  refine rt_run 1 rfl ?_
  have := loop n 0 (gI τ k) (by omega) (fun j hj => by omega)
  rw [sA_self] at this
  exact this
def ush (x y : Int32) : Int32 := (x.toUInt32 >>> (y.toUInt32 &&& Int32.toUInt32 31)).toInt32
def bc1 (x : Int32) : Int32 := x - (ush x 1 &&& 1431655765)
def bc2 (x : Int32) : Int32 := (x &&& 858993459) + (ush x 2 &&& 858993459)
def bc3 (x : Int32) : Int32 := (x + ush x 4) &&& 252645135
def bc4 (x : Int32) : Int32 := x + ush x 8
def bc5 (x : Int32) : Int32 := x + ush x 16
/-- Integer.bitCount, as its code counts -/
def bcI (x : Int32) : Int32 := bc5 (bc4 (bc3 (bc2 (bc1 x)))) &&& 63
theorem bitCount_spec {x : Int32} {τ : Ty} {Q : Option Value → Ty → Prop} (h : Q (some (.int (bcI x))) τ) : RT mJ6_bitCount_0f7a4 none 0 [some (.int x)] [] τ Q := by
  refine rt_run 8 (lv' := [some (.int (bc1 x))]) rfl ?_
  refine rt_run 10 (lv' := [some (.int (bc2 (bc1 x)))]) rfl ?_
  refine rt_run 8 (lv' := [some (.int (bc3 (bc2 (bc1 x))))]) rfl ?_
  refine rt_run 6 (lv' := [some (.int (bc4 (bc3 (bc2 (bc1 x)))))]) rfl ?_
  refine rt_run 6 (lv' := [some (.int (bc5 (bc4 (bc3 (bc2 (bc1 x))))))]) rfl ?_
  refine rt_run 3 rfl ?_
  exact rt_iret rfl rfl h

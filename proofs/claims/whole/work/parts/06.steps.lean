/-! each instruction that touches no cell, by program; then the step that stp computes -/
section RjSteps
variable {M : MD} {X : Option (Nat × (Nat → Int32))} {bc bs pc nx a b : Nat} {c : Int32} {cl : Int64} {lv lv' : List (Option Value)} {st st' : List Value} {σ : List va_E} {Q : Option Value → List va_E → Prop}
theorem rs_iconst {n : Int} (hq : lk (mTab M) pc = some (.iconst n, nx, a, b, c, cl)) (k : RJ M X bc bs nx lv (.int c :: st) σ Q) : RJ M X bc bs pc lv (st) σ Q := by
  refine rj_of (fun p l e s m args below meth c H locs cells slots Z b sz ls h1 h2 hl kk => ?_) k
  have hk := mOk_at h1 hq
  simp only [enOk, iLen, Bool.and_true, Bool.and_eq_true] at hk
  obtain ⟨⟨hd, hn9⟩, hc⟩ := hk
  have hd := of_decide_eq_true hd
  have hn9 := of_decide_eq_true hn9
  have hc := of_decide_eq_true hc
  subst hn9
  exact lv_iconst h2.1 h2.2.1 hd hc (kk ls hl)
theorem rs_bipush {n : Int} (hq : lk (mTab M) pc = some (.bipush n, nx, a, b, c, cl)) (k : RJ M X bc bs nx lv (.int c :: st) σ Q) : RJ M X bc bs pc lv (st) σ Q := by
  refine rj_of (fun p l e s m args below meth c H locs cells slots Z b sz ls h1 h2 hl kk => ?_) k
  have hk := mOk_at h1 hq
  simp only [enOk, iLen, Bool.and_true, Bool.and_eq_true] at hk
  obtain ⟨⟨hd, hn9⟩, hc⟩ := hk
  have hd := of_decide_eq_true hd
  have hn9 := of_decide_eq_true hn9
  have hc := of_decide_eq_true hc
  subst hn9
  exact lv_bipush h2.1 h2.2.1 hd hc (kk ls hl)
theorem rs_sipush {n : Int} (hq : lk (mTab M) pc = some (.sipush n, nx, a, b, c, cl)) (k : RJ M X bc bs nx lv (.int c :: st) σ Q) : RJ M X bc bs pc lv (st) σ Q := by
  refine rj_of (fun p l e s m args below meth c H locs cells slots Z b sz ls h1 h2 hl kk => ?_) k
  have hk := mOk_at h1 hq
  simp only [enOk, iLen, Bool.and_true, Bool.and_eq_true] at hk
  obtain ⟨⟨hd, hn9⟩, hc⟩ := hk
  have hd := of_decide_eq_true hd
  have hn9 := of_decide_eq_true hn9
  have hc := of_decide_eq_true hc
  subst hn9
  exact lv_sipush h2.1 h2.2.1 hd hc (kk ls hl)
theorem rs_lconst {n : Fin 2} (hq : lk (mTab M) pc = some (.lconst n, nx, a, b, c, cl)) (k : RJ M X bc bs nx lv (.long cl :: st) σ Q) : RJ M X bc bs pc lv (st) σ Q := by
  refine rj_of (fun p l e s m args below meth c H locs cells slots Z b sz ls h1 h2 hl kk => ?_) k
  have hk := mOk_at h1 hq
  simp only [enOk, iLen, Bool.and_true, Bool.and_eq_true] at hk
  obtain ⟨⟨hd, hn9⟩, hc⟩ := hk
  have hd := of_decide_eq_true hd
  have hn9 := of_decide_eq_true hn9
  have hc := of_decide_eq_true hc
  subst hn9
  exact lv_lconst h2.1 h2.2.1 hd hc (kk ls hl)
theorem rs_ldc {n : Nat} (hq : lk (mTab M) pc = some (.ldc n, nx, a, b, c, cl)) (k : RJ M X bc bs nx lv (.int c :: st) σ Q) : RJ M X bc bs pc lv (st) σ Q := by
  refine rj_of (fun p l e s m args below meth c H locs cells slots Z b sz ls h1 h2 hl kk => ?_) k
  have hk := mOk_at h1 hq
  simp only [enOk, iLen, Bool.and_true, Bool.and_eq_true] at hk
  obtain ⟨⟨hd, hn9⟩, hc⟩ := hk
  have hd := of_decide_eq_true hd
  have hn9 := of_decide_eq_true hn9
  have hc := of_decide_eq_true hc
  subst hn9
  exact lv_ldc h2.1 h2.2.1 h2.2.2.2.2.1 (h2.2.2.2.2.2.1 _ (List.mem_filter.mpr ⟨hc, rfl⟩)) hd (kk ls hl)
theorem rs_ldcw {n : Nat} (hq : lk (mTab M) pc = some (.ldc_w n, nx, a, b, c, cl)) (k : RJ M X bc bs nx lv (.int c :: st) σ Q) : RJ M X bc bs pc lv (st) σ Q := by
  refine rj_of (fun p l e s m args below meth c H locs cells slots Z b sz ls h1 h2 hl kk => ?_) k
  have hk := mOk_at h1 hq
  simp only [enOk, iLen, Bool.and_true, Bool.and_eq_true] at hk
  obtain ⟨⟨hd, hn9⟩, hc⟩ := hk
  have hd := of_decide_eq_true hd
  have hn9 := of_decide_eq_true hn9
  have hc := of_decide_eq_true hc
  subst hn9
  exact lv_ldcw h2.1 h2.2.1 h2.2.2.2.2.1 (h2.2.2.2.2.2.1 _ (List.mem_filter.mpr ⟨hc, rfl⟩)) hd (kk ls hl)
theorem rs_ldc2 {n : Nat} (hq : lk (mTab M) pc = some (.ldc2_w n, nx, a, b, c, cl)) (k : RJ M X bc bs nx lv (.long cl :: st) σ Q) : RJ M X bc bs pc lv (st) σ Q := by
  refine rj_of (fun p l e s m args below meth c H locs cells slots Z b sz ls h1 h2 hl kk => ?_) k
  have hk := mOk_at h1 hq
  simp only [enOk, iLen, Bool.and_true, Bool.and_eq_true] at hk
  obtain ⟨⟨hd, hn9⟩, hc⟩ := hk
  have hd := of_decide_eq_true hd
  have hn9 := of_decide_eq_true hn9
  have hc := of_decide_eq_true hc
  subst hn9
  exact lv_ldc2 h2.1 h2.2.1 h2.2.2.2.2.1 (h2.2.2.2.2.2.1 _ (List.mem_filter.mpr ⟨hc, rfl⟩)) hd (kk ls hl)
theorem rs_iload {n : Nat} {x : Int32} (hq : lk (mTab M) pc = some (.iload n, nx, a, b, c, cl)) (hx : lv[a]? = some (some (.int x))) (k : RJ M X bc bs nx lv (.int x :: st) σ Q) : RJ M X bc bs pc lv (st) σ Q := by
  refine rj_of (fun p l e s m args below meth c H locs cells slots Z b sz ls h1 h2 hl kk => ?_) k
  have hk := mOk_at h1 hq
  simp only [enOk, iLen, Bool.and_true, Bool.and_eq_true] at hk
  obtain ⟨⟨hd, hn9⟩, hc⟩ := hk
  have hd := of_decide_eq_true hd
  have hn9 := of_decide_eq_true hn9
  have hc := of_decide_eq_true hc
  subst hn9
  subst hc
  exact lv_iload h2.1 h2.2.1 hd (hl.2.2.2 _ _ hx) (kk ls hl)
theorem rs_iload_n {n : Fin 4} {x : Int32} (hq : lk (mTab M) pc = some (.iload_n n, nx, a, b, c, cl)) (hx : lv[a]? = some (some (.int x))) (k : RJ M X bc bs nx lv (.int x :: st) σ Q) : RJ M X bc bs pc lv (st) σ Q := by
  refine rj_of (fun p l e s m args below meth c H locs cells slots Z b sz ls h1 h2 hl kk => ?_) k
  have hk := mOk_at h1 hq
  simp only [enOk, iLen, Bool.and_true, Bool.and_eq_true] at hk
  obtain ⟨⟨hd, hn9⟩, hc⟩ := hk
  have hd := of_decide_eq_true hd
  have hn9 := of_decide_eq_true hn9
  have hc := of_decide_eq_true hc
  subst hn9
  exact lv_iload_n h2.1 h2.2.1 hd hc (hl.2.2.2 _ _ hx) (kk ls hl)
theorem rs_lload {n : Nat} {x : Int64} (hq : lk (mTab M) pc = some (.lload n, nx, a, b, c, cl)) (hx : lv[a]? = some (some (.long x))) (k : RJ M X bc bs nx lv (.long x :: st) σ Q) : RJ M X bc bs pc lv (st) σ Q := by
  refine rj_of (fun p l e s m args below meth c H locs cells slots Z b sz ls h1 h2 hl kk => ?_) k
  have hk := mOk_at h1 hq
  simp only [enOk, iLen, Bool.and_true, Bool.and_eq_true] at hk
  obtain ⟨⟨hd, hn9⟩, hc⟩ := hk
  have hd := of_decide_eq_true hd
  have hn9 := of_decide_eq_true hn9
  have hc := of_decide_eq_true hc
  subst hn9
  subst hc
  exact lv_lload h2.1 h2.2.1 hd (hl.2.2.2 _ _ hx) (kk ls hl)
theorem rs_lload_n {n : Fin 4} {x : Int64} (hq : lk (mTab M) pc = some (.lload_n n, nx, a, b, c, cl)) (hx : lv[a]? = some (some (.long x))) (k : RJ M X bc bs nx lv (.long x :: st) σ Q) : RJ M X bc bs pc lv (st) σ Q := by
  refine rj_of (fun p l e s m args below meth c H locs cells slots Z b sz ls h1 h2 hl kk => ?_) k
  have hk := mOk_at h1 hq
  simp only [enOk, iLen, Bool.and_true, Bool.and_eq_true] at hk
  obtain ⟨⟨hd, hn9⟩, hc⟩ := hk
  have hd := of_decide_eq_true hd
  have hn9 := of_decide_eq_true hn9
  have hc := of_decide_eq_true hc
  subst hn9
  exact lv_lload_n h2.1 h2.2.1 hd hc (hl.2.2.2 _ _ hx) (kk ls hl)
theorem rs_aload {n : Nat} {x : Nat} (hq : lk (mTab M) pc = some (.aload n, nx, a, b, c, cl)) (hx : lv[a]? = some (some (.ref x))) (k : RJ M X bc bs nx lv (.ref x :: st) σ Q) : RJ M X bc bs pc lv (st) σ Q := by
  refine rj_of (fun p l e s m args below meth c H locs cells slots Z b sz ls h1 h2 hl kk => ?_) k
  have hk := mOk_at h1 hq
  simp only [enOk, iLen, Bool.and_true, Bool.and_eq_true] at hk
  obtain ⟨⟨hd, hn9⟩, hc⟩ := hk
  have hd := of_decide_eq_true hd
  have hn9 := of_decide_eq_true hn9
  have hc := of_decide_eq_true hc
  subst hn9
  subst hc
  exact lv_aload h2.1 h2.2.1 hd (hl.2.2.2 _ _ hx) (kk ls hl)
theorem rs_aload_n {n : Fin 4} {x : Nat} (hq : lk (mTab M) pc = some (.aload_n n, nx, a, b, c, cl)) (hx : lv[a]? = some (some (.ref x))) (k : RJ M X bc bs nx lv (.ref x :: st) σ Q) : RJ M X bc bs pc lv (st) σ Q := by
  refine rj_of (fun p l e s m args below meth c H locs cells slots Z b sz ls h1 h2 hl kk => ?_) k
  have hk := mOk_at h1 hq
  simp only [enOk, iLen, Bool.and_true, Bool.and_eq_true] at hk
  obtain ⟨⟨hd, hn9⟩, hc⟩ := hk
  have hd := of_decide_eq_true hd
  have hn9 := of_decide_eq_true hn9
  have hc := of_decide_eq_true hc
  subst hn9
  exact lv_aload_n h2.1 h2.2.1 hd hc (hl.2.2.2 _ _ hx) (kk ls hl)
theorem rs_istore {n : Nat} {x : Int32} (hq : lk (mTab M) pc = some (.istore n, nx, a, b, c, cl)) (ho : okSet lv a = true) (k : RJ M X bc bs nx (lv.set a (some (.int x))) (st) σ Q) : RJ M X bc bs pc lv (.int x :: st) σ Q := by
  refine rj_of (fun p l e s m args below meth c H locs cells slots Z b sz ls h1 h2 hl kk => ?_) k
  have hk := mOk_at h1 hq
  simp only [enOk, iLen, Bool.and_true, Bool.and_eq_true] at hk
  obtain ⟨⟨hd, hn9⟩, hc, hn⟩ := hk
  have hd := of_decide_eq_true hd
  have hn9 := of_decide_eq_true hn9
  have hc := of_decide_eq_true hc
  have hn := of_decide_eq_true hn
  subst hn9
  subst hc
  exact lv_istore h2.1 h2.2.1 hd hl.kit hn rfl (fun ls' h' => kk ls' (hl.set1 (v := .int x) hn ho h'))
theorem rs_istore_n {n : Fin 4} {x : Int32} (hq : lk (mTab M) pc = some (.istore_n n, nx, a, b, c, cl)) (ho : okSet lv a = true) (k : RJ M X bc bs nx (lv.set a (some (.int x))) (st) σ Q) : RJ M X bc bs pc lv (.int x :: st) σ Q := by
  refine rj_of (fun p l e s m args below meth c H locs cells slots Z b sz ls h1 h2 hl kk => ?_) k
  have hk := mOk_at h1 hq
  simp only [enOk, iLen, Bool.and_true, Bool.and_eq_true] at hk
  obtain ⟨⟨hd, hn9⟩, hc, hn⟩ := hk
  have hd := of_decide_eq_true hd
  have hn9 := of_decide_eq_true hn9
  have hc := of_decide_eq_true hc
  have hn := of_decide_eq_true hn
  subst hn9
  exact lv_istore_n h2.1 h2.2.1 hd hc hl.kit hn rfl (fun ls' h' => kk ls' (hl.set1 (v := .int x) hn ho h'))
theorem rs_lstore {n : Nat} {x : Int64} (hq : lk (mTab M) pc = some (.lstore n, nx, a, b, c, cl)) (ho : okSet lv a = true) (k : RJ M X bc bs nx ((lv.set a (some (.long x))).set (a + 1) none) (st) σ Q) : RJ M X bc bs pc lv (.long x :: st) σ Q := by
  refine rj_of (fun p l e s m args below meth c H locs cells slots Z b sz ls h1 h2 hl kk => ?_) k
  have hk := mOk_at h1 hq
  simp only [enOk, iLen, Bool.and_true, Bool.and_eq_true] at hk
  obtain ⟨⟨hd, hn9⟩, hc, hn⟩ := hk
  have hd := of_decide_eq_true hd
  have hn9 := of_decide_eq_true hn9
  have hc := of_decide_eq_true hc
  have hn := of_decide_eq_true hn
  subst hn9
  subst hc
  exact lv_lstore h2.1 h2.2.1 hd hl.kit hn rfl (fun ls' h' => kk ls' (hl.set2 (v := .long x) hn ho h'))
theorem rs_lstore_n {n : Fin 4} {x : Int64} (hq : lk (mTab M) pc = some (.lstore_n n, nx, a, b, c, cl)) (ho : okSet lv a = true) (k : RJ M X bc bs nx ((lv.set a (some (.long x))).set (a + 1) none) (st) σ Q) : RJ M X bc bs pc lv (.long x :: st) σ Q := by
  refine rj_of (fun p l e s m args below meth c H locs cells slots Z b sz ls h1 h2 hl kk => ?_) k
  have hk := mOk_at h1 hq
  simp only [enOk, iLen, Bool.and_true, Bool.and_eq_true] at hk
  obtain ⟨⟨hd, hn9⟩, hc, hn⟩ := hk
  have hd := of_decide_eq_true hd
  have hn9 := of_decide_eq_true hn9
  have hc := of_decide_eq_true hc
  have hn := of_decide_eq_true hn
  subst hn9
  exact lv_lstore_n h2.1 h2.2.1 hd hc hl.kit hn rfl (fun ls' h' => kk ls' (hl.set2 (v := .long x) hn ho h'))
theorem rs_astore {n : Nat} {x : Nat} (hq : lk (mTab M) pc = some (.astore n, nx, a, b, c, cl)) (ho : okSet lv a = true) (k : RJ M X bc bs nx (lv.set a (some (.ref x))) (st) σ Q) : RJ M X bc bs pc lv (.ref x :: st) σ Q := by
  refine rj_of (fun p l e s m args below meth c H locs cells slots Z b sz ls h1 h2 hl kk => ?_) k
  have hk := mOk_at h1 hq
  simp only [enOk, iLen, Bool.and_true, Bool.and_eq_true] at hk
  obtain ⟨⟨hd, hn9⟩, hc, hn⟩ := hk
  have hd := of_decide_eq_true hd
  have hn9 := of_decide_eq_true hn9
  have hc := of_decide_eq_true hc
  have hn := of_decide_eq_true hn
  subst hn9
  subst hc
  exact lv_astore h2.1 h2.2.1 hd hl.kit hn rfl (fun ls' h' => kk ls' (hl.set1 (v := .ref x) hn ho h'))
theorem rs_astore_n {n : Fin 4} {x : Nat} (hq : lk (mTab M) pc = some (.astore_n n, nx, a, b, c, cl)) (ho : okSet lv a = true) (k : RJ M X bc bs nx (lv.set a (some (.ref x))) (st) σ Q) : RJ M X bc bs pc lv (.ref x :: st) σ Q := by
  refine rj_of (fun p l e s m args below meth c H locs cells slots Z b sz ls h1 h2 hl kk => ?_) k
  have hk := mOk_at h1 hq
  simp only [enOk, iLen, Bool.and_true, Bool.and_eq_true] at hk
  obtain ⟨⟨hd, hn9⟩, hc, hn⟩ := hk
  have hd := of_decide_eq_true hd
  have hn9 := of_decide_eq_true hn9
  have hc := of_decide_eq_true hc
  have hn := of_decide_eq_true hn
  subst hn9
  exact lv_astore_n h2.1 h2.2.1 hd hc hl.kit hn rfl (fun ls' h' => kk ls' (hl.set1 (v := .ref x) hn ho h'))
theorem rs_iinc {n : Nat} {d : Int} {x : Int32} (hq : lk (mTab M) pc = some (.iinc n d, nx, a, b, c, cl)) (ho : okSet lv a = true) (hx : lv[a]? = some (some (.int x))) (k : RJ M X bc bs nx (lv.set a (some (.int (x + c)))) (st) σ Q) : RJ M X bc bs pc lv (st) σ Q := by
  refine rj_of (fun p l e s m args below meth c H locs cells slots Z b sz ls h1 h2 hl kk => ?_) k
  have hk := mOk_at h1 hq
  simp only [enOk, iLen, Bool.and_true, Bool.and_eq_true] at hk
  obtain ⟨⟨hd, hn9⟩, ⟨ha, hn⟩, hc⟩ := hk
  have hd := of_decide_eq_true hd
  have hn9 := of_decide_eq_true hn9
  have hc := of_decide_eq_true hc
  have hn := of_decide_eq_true hn
  have ha := of_decide_eq_true ha
  subst hn9
  subst ha
  obtain ⟨i, hi⟩ := List.getElem?_of_mem (hasK_mem (b := b) (sz := sz) hl.2.1 hx)
  exact lv_iinc h2.1 h2.2.1 hd hl.kit hi (by rw [hc]) hn rfl (fun ls' h' => kk ls' (hl.set1 (v := .int (x + _)) hn ho h'))
theorem rs_goto {n : Int} (hq : lk (mTab M) pc = some (.goto n, nx, a, b, c, cl)) (k : RJ M X bc bs nx lv st σ Q) : RJ M X bc bs pc lv st σ Q := by
  refine rj_of (fun p l e s m args below meth c H locs cells slots Z b sz ls h1 h2 hl kk => ?_) k
  have hk := mOk_at h1 hq
  simp only [enOk, iLen, Bool.and_true, Bool.and_eq_true] at hk
  exact lv_goto h2.1 h2.2.1 (of_decide_eq_true hk.1) (of_decide_eq_true hk.2) (kk ls hl)
theorem rs_iadd {x y : Int32} (hq : lk (mTab M) pc = some (.iadd, nx, a, b, c, cl)) (k : RJ M X bc bs nx lv (.int (x + y) :: st) σ Q) : RJ M X bc bs pc lv (.int y :: .int x :: st) σ Q := by
  refine rj_of (fun p l e s m args below meth c H locs cells slots Z b sz ls h1 h2 hl kk => ?_) k
  have hk := mOk_at h1 hq
  simp only [enOk, iLen, Bool.and_true, Bool.and_eq_true] at hk
  obtain ⟨hd, hn9⟩ := hk
  have hd := of_decide_eq_true hd
  have hn9 := of_decide_eq_true hn9
  subst hn9
  exact lv_iadd h2.1 h2.2.1 hd (kk ls hl)
theorem rs_isub {x y : Int32} (hq : lk (mTab M) pc = some (.isub, nx, a, b, c, cl)) (k : RJ M X bc bs nx lv (.int (x - y) :: st) σ Q) : RJ M X bc bs pc lv (.int y :: .int x :: st) σ Q := by
  refine rj_of (fun p l e s m args below meth c H locs cells slots Z b sz ls h1 h2 hl kk => ?_) k
  have hk := mOk_at h1 hq
  simp only [enOk, iLen, Bool.and_true, Bool.and_eq_true] at hk
  obtain ⟨hd, hn9⟩ := hk
  have hd := of_decide_eq_true hd
  have hn9 := of_decide_eq_true hn9
  subst hn9
  exact lv_isub h2.1 h2.2.1 hd (kk ls hl)
theorem rs_imul {x y : Int32} (hq : lk (mTab M) pc = some (.imul, nx, a, b, c, cl)) (k : RJ M X bc bs nx lv (.int (x * y) :: st) σ Q) : RJ M X bc bs pc lv (.int y :: .int x :: st) σ Q := by
  refine rj_of (fun p l e s m args below meth c H locs cells slots Z b sz ls h1 h2 hl kk => ?_) k
  have hk := mOk_at h1 hq
  simp only [enOk, iLen, Bool.and_true, Bool.and_eq_true] at hk
  obtain ⟨hd, hn9⟩ := hk
  have hd := of_decide_eq_true hd
  have hn9 := of_decide_eq_true hn9
  subst hn9
  exact lv_imul h2.1 h2.2.1 hd (kk ls hl)
theorem rs_iand {x y : Int32} (hq : lk (mTab M) pc = some (.iand, nx, a, b, c, cl)) (k : RJ M X bc bs nx lv (.int (x &&& y) :: st) σ Q) : RJ M X bc bs pc lv (.int y :: .int x :: st) σ Q := by
  refine rj_of (fun p l e s m args below meth c H locs cells slots Z b sz ls h1 h2 hl kk => ?_) k
  have hk := mOk_at h1 hq
  simp only [enOk, iLen, Bool.and_true, Bool.and_eq_true] at hk
  obtain ⟨hd, hn9⟩ := hk
  have hd := of_decide_eq_true hd
  have hn9 := of_decide_eq_true hn9
  subst hn9
  exact lv_iand h2.1 h2.2.1 hd (kk ls hl)
theorem rs_ior {x y : Int32} (hq : lk (mTab M) pc = some (.ior, nx, a, b, c, cl)) (k : RJ M X bc bs nx lv (.int (x ||| y) :: st) σ Q) : RJ M X bc bs pc lv (.int y :: .int x :: st) σ Q := by
  refine rj_of (fun p l e s m args below meth c H locs cells slots Z b sz ls h1 h2 hl kk => ?_) k
  have hk := mOk_at h1 hq
  simp only [enOk, iLen, Bool.and_true, Bool.and_eq_true] at hk
  obtain ⟨hd, hn9⟩ := hk
  have hd := of_decide_eq_true hd
  have hn9 := of_decide_eq_true hn9
  subst hn9
  exact lv_ior h2.1 h2.2.1 hd (kk ls hl)
theorem rs_ixor {x y : Int32} (hq : lk (mTab M) pc = some (.ixor, nx, a, b, c, cl)) (k : RJ M X bc bs nx lv (.int (x ^^^ y) :: st) σ Q) : RJ M X bc bs pc lv (.int y :: .int x :: st) σ Q := by
  refine rj_of (fun p l e s m args below meth c H locs cells slots Z b sz ls h1 h2 hl kk => ?_) k
  have hk := mOk_at h1 hq
  simp only [enOk, iLen, Bool.and_true, Bool.and_eq_true] at hk
  obtain ⟨hd, hn9⟩ := hk
  have hd := of_decide_eq_true hd
  have hn9 := of_decide_eq_true hn9
  subst hn9
  exact lv_ixor h2.1 h2.2.1 hd (kk ls hl)
theorem rs_ishl {x y : Int32} (hq : lk (mTab M) pc = some (.ishl, nx, a, b, c, cl)) (k : RJ M X bc bs nx lv (.int (x <<< (y &&& 31)) :: st) σ Q) : RJ M X bc bs pc lv (.int y :: .int x :: st) σ Q := by
  refine rj_of (fun p l e s m args below meth c H locs cells slots Z b sz ls h1 h2 hl kk => ?_) k
  have hk := mOk_at h1 hq
  simp only [enOk, iLen, Bool.and_true, Bool.and_eq_true] at hk
  obtain ⟨hd, hn9⟩ := hk
  have hd := of_decide_eq_true hd
  have hn9 := of_decide_eq_true hn9
  subst hn9
  exact lv_ishl h2.1 h2.2.1 hd (kk ls hl)
theorem rs_ishr {x y : Int32} (hq : lk (mTab M) pc = some (.ishr, nx, a, b, c, cl)) (k : RJ M X bc bs nx lv (.int (x >>> (y &&& 31)) :: st) σ Q) : RJ M X bc bs pc lv (.int y :: .int x :: st) σ Q := by
  refine rj_of (fun p l e s m args below meth c H locs cells slots Z b sz ls h1 h2 hl kk => ?_) k
  have hk := mOk_at h1 hq
  simp only [enOk, iLen, Bool.and_true, Bool.and_eq_true] at hk
  obtain ⟨hd, hn9⟩ := hk
  have hd := of_decide_eq_true hd
  have hn9 := of_decide_eq_true hn9
  subst hn9
  exact lv_ishr h2.1 h2.2.1 hd (kk ls hl)
theorem rs_iushr {x y : Int32} (hq : lk (mTab M) pc = some (.iushr, nx, a, b, c, cl)) (k : RJ M X bc bs nx lv (.int (x.toUInt32 >>> (y.toUInt32 &&& Int32.toUInt32 31)).toInt32 :: st) σ Q) : RJ M X bc bs pc lv (.int y :: .int x :: st) σ Q := by
  refine rj_of (fun p l e s m args below meth c H locs cells slots Z b sz ls h1 h2 hl kk => ?_) k
  have hk := mOk_at h1 hq
  simp only [enOk, iLen, Bool.and_true, Bool.and_eq_true] at hk
  obtain ⟨hd, hn9⟩ := hk
  have hd := of_decide_eq_true hd
  have hn9 := of_decide_eq_true hn9
  subst hn9
  exact lv_iushr h2.1 h2.2.1 hd rfl (kk ls hl)
theorem rs_lushr {x : Int64} {y : Int32} (hq : lk (mTab M) pc = some (.lushr, nx, a, b, c, cl)) (k : RJ M X bc bs nx lv (.long (x.toUInt64 >>> (y.toInt64.toUInt64 &&& Int64.toUInt64 63)).toInt64 :: st) σ Q) : RJ M X bc bs pc lv (.int y :: .long x :: st) σ Q := by
  refine rj_of (fun p l e s m args below meth c H locs cells slots Z b sz ls h1 h2 hl kk => ?_) k
  have hk := mOk_at h1 hq
  simp only [enOk, iLen, Bool.and_true, Bool.and_eq_true] at hk
  obtain ⟨hd, hn9⟩ := hk
  have hd := of_decide_eq_true hd
  have hn9 := of_decide_eq_true hn9
  subst hn9
  exact lv_lushr h2.1 h2.2.1 hd rfl (kk ls hl)
theorem rs_lshl {x : Int64} {y : Int32} (hq : lk (mTab M) pc = some (.lshl, nx, a, b, c, cl)) (k : RJ M X bc bs nx lv (.long (x <<< (y.toInt64 &&& 63)) :: st) σ Q) : RJ M X bc bs pc lv (.int y :: .long x :: st) σ Q := by
  refine rj_of (fun p l e s m args below meth c H locs cells slots Z b sz ls h1 h2 hl kk => ?_) k
  have hk := mOk_at h1 hq
  simp only [enOk, iLen, Bool.and_true, Bool.and_eq_true] at hk
  obtain ⟨hd, hn9⟩ := hk
  have hd := of_decide_eq_true hd
  have hn9 := of_decide_eq_true hn9
  subst hn9
  exact lv_lshl h2.1 h2.2.1 hd rfl (kk ls hl)
theorem rs_ladd {x y : Int64} (hq : lk (mTab M) pc = some (.ladd, nx, a, b, c, cl)) (k : RJ M X bc bs nx lv (.long (x + y) :: st) σ Q) : RJ M X bc bs pc lv (.long y :: .long x :: st) σ Q := by
  refine rj_of (fun p l e s m args below meth c H locs cells slots Z b sz ls h1 h2 hl kk => ?_) k
  have hk := mOk_at h1 hq
  simp only [enOk, iLen, Bool.and_true, Bool.and_eq_true] at hk
  obtain ⟨hd, hn9⟩ := hk
  have hd := of_decide_eq_true hd
  have hn9 := of_decide_eq_true hn9
  subst hn9
  exact lv_ladd h2.1 h2.2.1 hd (kk ls hl)
theorem rs_lmul {x y : Int64} (hq : lk (mTab M) pc = some (.lmul, nx, a, b, c, cl)) (k : RJ M X bc bs nx lv (.long (x * y) :: st) σ Q) : RJ M X bc bs pc lv (.long y :: .long x :: st) σ Q := by
  refine rj_of (fun p l e s m args below meth c H locs cells slots Z b sz ls h1 h2 hl kk => ?_) k
  have hk := mOk_at h1 hq
  simp only [enOk, iLen, Bool.and_true, Bool.and_eq_true] at hk
  obtain ⟨hd, hn9⟩ := hk
  have hd := of_decide_eq_true hd
  have hn9 := of_decide_eq_true hn9
  subst hn9
  exact lv_lmul h2.1 h2.2.1 hd (kk ls hl)
theorem rs_lor {x y : Int64} (hq : lk (mTab M) pc = some (.lor, nx, a, b, c, cl)) (k : RJ M X bc bs nx lv (.long (x ||| y) :: st) σ Q) : RJ M X bc bs pc lv (.long y :: .long x :: st) σ Q := by
  refine rj_of (fun p l e s m args below meth c H locs cells slots Z b sz ls h1 h2 hl kk => ?_) k
  have hk := mOk_at h1 hq
  simp only [enOk, iLen, Bool.and_true, Bool.and_eq_true] at hk
  obtain ⟨hd, hn9⟩ := hk
  have hd := of_decide_eq_true hd
  have hn9 := of_decide_eq_true hn9
  subst hn9
  exact lv_lor h2.1 h2.2.1 hd (kk ls hl)
theorem rs_lcmp {x y : Int64} (hq : lk (mTab M) pc = some (.lcmp, nx, a, b, c, cl)) (k : RJ M X bc bs nx lv (.int (lg_cmp x y) :: st) σ Q) : RJ M X bc bs pc lv (.long y :: .long x :: st) σ Q := by
  refine rj_of (fun p l e s m args below meth c H locs cells slots Z b sz ls h1 h2 hl kk => ?_) k
  have hk := mOk_at h1 hq
  simp only [enOk, iLen, Bool.and_true, Bool.and_eq_true] at hk
  obtain ⟨hd, hn9⟩ := hk
  have hd := of_decide_eq_true hd
  have hn9 := of_decide_eq_true hn9
  subst hn9
  exact W.lcmp h2.1 h2.2.1 hd (kk ls hl)
theorem rs_i2l {x : Int32} (hq : lk (mTab M) pc = some (.i2l, nx, a, b, c, cl)) (k : RJ M X bc bs nx lv (.long x.toInt64 :: st) σ Q) : RJ M X bc bs pc lv (.int x :: st) σ Q := by
  refine rj_of (fun p l e s m args below meth c H locs cells slots Z b sz ls h1 h2 hl kk => ?_) k
  have hk := mOk_at h1 hq
  simp only [enOk, iLen, Bool.and_true, Bool.and_eq_true] at hk
  obtain ⟨hd, hn9⟩ := hk
  have hd := of_decide_eq_true hd
  have hn9 := of_decide_eq_true hn9
  subst hn9
  exact lv_i2l h2.1 h2.2.1 hd rfl (kk ls hl)
theorem rs_l2i {x : Int64} (hq : lk (mTab M) pc = some (.l2i, nx, a, b, c, cl)) (k : RJ M X bc bs nx lv (.int x.toInt32 :: st) σ Q) : RJ M X bc bs pc lv (.long x :: st) σ Q := by
  refine rj_of (fun p l e s m args below meth c H locs cells slots Z b sz ls h1 h2 hl kk => ?_) k
  have hk := mOk_at h1 hq
  simp only [enOk, iLen, Bool.and_true, Bool.and_eq_true] at hk
  obtain ⟨hd, hn9⟩ := hk
  have hd := of_decide_eq_true hd
  have hn9 := of_decide_eq_true hn9
  subst hn9
  exact lv_l2i h2.1 h2.2.1 hd rfl (kk ls hl)
theorem rs_pop {x : Int32} (hq : lk (mTab M) pc = some (.pop, nx, a, b, c, cl)) (k : RJ M X bc bs nx lv (st) σ Q) : RJ M X bc bs pc lv (.int x :: st) σ Q := by
  refine rj_of (fun p l e s m args below meth c H locs cells slots Z b sz ls h1 h2 hl kk => ?_) k
  have hk := mOk_at h1 hq
  simp only [enOk, iLen, Bool.and_true, Bool.and_eq_true] at hk
  obtain ⟨hd, hn9⟩ := hk
  have hd := of_decide_eq_true hd
  have hn9 := of_decide_eq_true hn9
  subst hn9
  exact lv_pop h2.1 h2.2.1 hd rfl (kk ls hl)
theorem rs_dupi {x : Int32} (hq : lk (mTab M) pc = some (.dup, nx, a, b, c, cl)) (k : RJ M X bc bs nx lv (.int x :: .int x :: st) σ Q) : RJ M X bc bs pc lv (.int x :: st) σ Q := by
  refine rj_of (fun p l e s m args below meth c H locs cells slots Z b sz ls h1 h2 hl kk => ?_) k
  have hk := mOk_at h1 hq
  simp only [enOk, iLen, Bool.and_true, Bool.and_eq_true] at hk
  obtain ⟨hd, hn9⟩ := hk
  have hd := of_decide_eq_true hd
  have hn9 := of_decide_eq_true hn9
  subst hn9
  exact lv_dup h2.1 h2.2.1 hd rfl (kk ls hl)
theorem rs_dupa {x : Nat} (hq : lk (mTab M) pc = some (.dup, nx, a, b, c, cl)) (k : RJ M X bc bs nx lv (.ref x :: .ref x :: st) σ Q) : RJ M X bc bs pc lv (.ref x :: st) σ Q := by
  refine rj_of (fun p l e s m args below meth c H locs cells slots Z b sz ls h1 h2 hl kk => ?_) k
  have hk := mOk_at h1 hq
  simp only [enOk, iLen, Bool.and_true, Bool.and_eq_true] at hk
  obtain ⟨hd, hn9⟩ := hk
  have hd := of_decide_eq_true hd
  have hn9 := of_decide_eq_true hn9
  subst hn9
  exact lv_dup h2.1 h2.2.1 hd rfl (kk ls hl)
theorem rs_dup2 {x : Int32} {y : Nat} (hq : lk (mTab M) pc = some (.dup2, nx, a, b, c, cl)) (k : RJ M X bc bs nx lv (.int x :: .ref y :: .int x :: .ref y :: st) σ Q) : RJ M X bc bs pc lv (.int x :: .ref y :: st) σ Q := by
  refine rj_of (fun p l e s m args below meth c H locs cells slots Z b sz ls h1 h2 hl kk => ?_) k
  have hk := mOk_at h1 hq
  simp only [enOk, iLen, Bool.and_true, Bool.and_eq_true] at hk
  obtain ⟨hd, hn9⟩ := hk
  have hd := of_decide_eq_true hd
  have hn9 := of_decide_eq_true hn9
  subst hn9
  exact lv_dup2_11 h2.1 h2.2.1 hd rfl rfl (kk ls hl)
theorem rs_idiv {x y : Int32} (hq : lk (mTab M) pc = some (.idiv, nx, a, b, c, cl)) (hne : ¬ y = 0) (k : RJ M X bc bs nx lv (.int (x / y) :: st) σ Q) : RJ M X bc bs pc lv (.int y :: .int x :: st) σ Q := by
  refine rj_of (fun p l e s m args below meth c H locs cells slots Z b sz ls h1 h2 hl kk => ?_) k
  have hk := mOk_at h1 hq
  simp only [enOk, iLen, Bool.and_true, Bool.and_eq_true] at hk
  obtain ⟨hd, hn9⟩ := hk
  have hd := of_decide_eq_true hd
  have hn9 := of_decide_eq_true hn9
  subst hn9
  exact lv_idiv h2.1 h2.2.1 hd hne (kk ls hl)
theorem rs_irem {x y : Int32} (hq : lk (mTab M) pc = some (.irem, nx, a, b, c, cl)) (hne : ¬ y = 0) (k : RJ M X bc bs nx lv (.int (x - x / y * y) :: st) σ Q) : RJ M X bc bs pc lv (.int y :: .int x :: st) σ Q := by
  refine rj_of (fun p l e s m args below meth c H locs cells slots Z b sz ls h1 h2 hl kk => ?_) k
  have hk := mOk_at h1 hq
  simp only [enOk, iLen, Bool.and_true, Bool.and_eq_true] at hk
  obtain ⟨hd, hn9⟩ := hk
  have hd := of_decide_eq_true hd
  have hn9 := of_decide_eq_true hn9
  subst hn9
  exact lv_irem h2.1 h2.2.1 hd hne (kk ls hl)
theorem rs_ldiv {x y : Int64} (hq : lk (mTab M) pc = some (.ldiv, nx, a, b, c, cl)) (hne : ¬ y = 0) (k : RJ M X bc bs nx lv (.long (x / y) :: st) σ Q) : RJ M X bc bs pc lv (.long y :: .long x :: st) σ Q := by
  refine rj_of (fun p l e s m args below meth c H locs cells slots Z b sz ls h1 h2 hl kk => ?_) k
  have hk := mOk_at h1 hq
  simp only [enOk, iLen, Bool.and_true, Bool.and_eq_true] at hk
  obtain ⟨hd, hn9⟩ := hk
  have hd := of_decide_eq_true hd
  have hn9 := of_decide_eq_true hn9
  subst hn9
  exact lv_ldiv h2.1 h2.2.1 hd hne (kk ls hl)
theorem rs_lrem {x y : Int64} (hq : lk (mTab M) pc = some (.lrem, nx, a, b, c, cl)) (hne : ¬ y = 0) (k : RJ M X bc bs nx lv (.long (x - x / y * y) :: st) σ Q) : RJ M X bc bs pc lv (.long y :: .long x :: st) σ Q := by
  refine rj_of (fun p l e s m args below meth c H locs cells slots Z b sz ls h1 h2 hl kk => ?_) k
  have hk := mOk_at h1 hq
  simp only [enOk, iLen, Bool.and_true, Bool.and_eq_true] at hk
  obtain ⟨hd, hn9⟩ := hk
  have hd := of_decide_eq_true hd
  have hn9 := of_decide_eq_true hn9
  subst hn9
  exact lv_lrem h2.1 h2.2.1 hd hne (kk ls hl)
theorem rj_if_eq {x : Int32} {n : Int} (hq : lk (mTab M) pc = some (.ifCond .eq n, nx, a, b, c, cl)) (kt : x = 0 → RJ M X bc bs a lv st σ Q) (kf : ¬ x = 0 → RJ M X bc bs nx lv st σ Q) : RJ M X bc bs pc lv (.int x :: st) σ Q := by
  intro p l e s m args below meth c H locs cells slots Z b sz cA D ls h1 h2 h3 h4 h5 h6 h7 h8 hE
  have hk := mOk_at h1 hq
  simp only [enOk, iLen, Bool.and_true, Bool.and_eq_true] at hk
  obtain ⟨hd, hk2, hn9⟩ := hk
  have hd := of_decide_eq_true hd
  have hk2 := of_decide_eq_true hk2
  have hn9 := of_decide_eq_true hn9
  subst hn9
  exact lv_if_eq h2.1 h2.2.1 hd hk2 (fun h => kt h p l e s m args below meth c H locs cells slots Z b sz cA D ls h1 h2 h3 h4 h5 h6 h7 h8 hE) (fun h => kf h p l e s m args below meth c H locs cells slots Z b sz cA D ls h1 h2 h3 h4 h5 h6 h7 h8 hE)
theorem rj_if_ne {x : Int32} {n : Int} (hq : lk (mTab M) pc = some (.ifCond .ne n, nx, a, b, c, cl)) (kt : ¬ x = 0 → RJ M X bc bs a lv st σ Q) (kf : x = 0 → RJ M X bc bs nx lv st σ Q) : RJ M X bc bs pc lv (.int x :: st) σ Q := by
  intro p l e s m args below meth c H locs cells slots Z b sz cA D ls h1 h2 h3 h4 h5 h6 h7 h8 hE
  have hk := mOk_at h1 hq
  simp only [enOk, iLen, Bool.and_true, Bool.and_eq_true] at hk
  obtain ⟨hd, hk2, hn9⟩ := hk
  have hd := of_decide_eq_true hd
  have hk2 := of_decide_eq_true hk2
  have hn9 := of_decide_eq_true hn9
  subst hn9
  exact lv_if_ne h2.1 h2.2.1 hd hk2 (fun h => kt h p l e s m args below meth c H locs cells slots Z b sz cA D ls h1 h2 h3 h4 h5 h6 h7 h8 hE) (fun h => kf h p l e s m args below meth c H locs cells slots Z b sz cA D ls h1 h2 h3 h4 h5 h6 h7 h8 hE)
theorem rj_if_lt {x : Int32} {n : Int} (hq : lk (mTab M) pc = some (.ifCond .lt n, nx, a, b, c, cl)) (kt : x < 0 → RJ M X bc bs a lv st σ Q) (kf : ¬ x < 0 → RJ M X bc bs nx lv st σ Q) : RJ M X bc bs pc lv (.int x :: st) σ Q := by
  intro p l e s m args below meth c H locs cells slots Z b sz cA D ls h1 h2 h3 h4 h5 h6 h7 h8 hE
  have hk := mOk_at h1 hq
  simp only [enOk, iLen, Bool.and_true, Bool.and_eq_true] at hk
  obtain ⟨hd, hk2, hn9⟩ := hk
  have hd := of_decide_eq_true hd
  have hk2 := of_decide_eq_true hk2
  have hn9 := of_decide_eq_true hn9
  subst hn9
  exact lv_if_lt h2.1 h2.2.1 hd hk2 (fun h => kt h p l e s m args below meth c H locs cells slots Z b sz cA D ls h1 h2 h3 h4 h5 h6 h7 h8 hE) (fun h => kf h p l e s m args below meth c H locs cells slots Z b sz cA D ls h1 h2 h3 h4 h5 h6 h7 h8 hE)
theorem rj_if_ge {x : Int32} {n : Int} (hq : lk (mTab M) pc = some (.ifCond .ge n, nx, a, b, c, cl)) (kt : 0 ≤ x → RJ M X bc bs a lv st σ Q) (kf : ¬ 0 ≤ x → RJ M X bc bs nx lv st σ Q) : RJ M X bc bs pc lv (.int x :: st) σ Q := by
  intro p l e s m args below meth c H locs cells slots Z b sz cA D ls h1 h2 h3 h4 h5 h6 h7 h8 hE
  have hk := mOk_at h1 hq
  simp only [enOk, iLen, Bool.and_true, Bool.and_eq_true] at hk
  obtain ⟨hd, hk2, hn9⟩ := hk
  have hd := of_decide_eq_true hd
  have hk2 := of_decide_eq_true hk2
  have hn9 := of_decide_eq_true hn9
  subst hn9
  exact lv_if_ge h2.1 h2.2.1 hd hk2 (fun h => kt h p l e s m args below meth c H locs cells slots Z b sz cA D ls h1 h2 h3 h4 h5 h6 h7 h8 hE) (fun h => kf h p l e s m args below meth c H locs cells slots Z b sz cA D ls h1 h2 h3 h4 h5 h6 h7 h8 hE)
theorem rj_if_gt {x : Int32} {n : Int} (hq : lk (mTab M) pc = some (.ifCond .gt n, nx, a, b, c, cl)) (kt : 0 < x → RJ M X bc bs a lv st σ Q) (kf : ¬ 0 < x → RJ M X bc bs nx lv st σ Q) : RJ M X bc bs pc lv (.int x :: st) σ Q := by
  intro p l e s m args below meth c H locs cells slots Z b sz cA D ls h1 h2 h3 h4 h5 h6 h7 h8 hE
  have hk := mOk_at h1 hq
  simp only [enOk, iLen, Bool.and_true, Bool.and_eq_true] at hk
  obtain ⟨hd, hk2, hn9⟩ := hk
  have hd := of_decide_eq_true hd
  have hk2 := of_decide_eq_true hk2
  have hn9 := of_decide_eq_true hn9
  subst hn9
  exact lv_if_gt h2.1 h2.2.1 hd hk2 (fun h => kt h p l e s m args below meth c H locs cells slots Z b sz cA D ls h1 h2 h3 h4 h5 h6 h7 h8 hE) (fun h => kf h p l e s m args below meth c H locs cells slots Z b sz cA D ls h1 h2 h3 h4 h5 h6 h7 h8 hE)
theorem rj_if_le {x : Int32} {n : Int} (hq : lk (mTab M) pc = some (.ifCond .le n, nx, a, b, c, cl)) (kt : x ≤ 0 → RJ M X bc bs a lv st σ Q) (kf : ¬ x ≤ 0 → RJ M X bc bs nx lv st σ Q) : RJ M X bc bs pc lv (.int x :: st) σ Q := by
  intro p l e s m args below meth c H locs cells slots Z b sz cA D ls h1 h2 h3 h4 h5 h6 h7 h8 hE
  have hk := mOk_at h1 hq
  simp only [enOk, iLen, Bool.and_true, Bool.and_eq_true] at hk
  obtain ⟨hd, hk2, hn9⟩ := hk
  have hd := of_decide_eq_true hd
  have hk2 := of_decide_eq_true hk2
  have hn9 := of_decide_eq_true hn9
  subst hn9
  exact lv_if_le h2.1 h2.2.1 hd hk2 (fun h => kt h p l e s m args below meth c H locs cells slots Z b sz cA D ls h1 h2 h3 h4 h5 h6 h7 h8 hE) (fun h => kf h p l e s m args below meth c H locs cells slots Z b sz cA D ls h1 h2 h3 h4 h5 h6 h7 h8 hE)
theorem rj_ic_eq {x y : Int32} {n : Int} (hq : lk (mTab M) pc = some (.if_icmp .eq n, nx, a, b, c, cl)) (kt : x = y → RJ M X bc bs a lv st σ Q) (kf : ¬ x = y → RJ M X bc bs nx lv st σ Q) : RJ M X bc bs pc lv (.int y :: .int x :: st) σ Q := by
  intro p l e s m args below meth c H locs cells slots Z b sz cA D ls h1 h2 h3 h4 h5 h6 h7 h8 hE
  have hk := mOk_at h1 hq
  simp only [enOk, iLen, Bool.and_true, Bool.and_eq_true] at hk
  obtain ⟨hd, hk2, hn9⟩ := hk
  have hd := of_decide_eq_true hd
  have hk2 := of_decide_eq_true hk2
  have hn9 := of_decide_eq_true hn9
  subst hn9
  exact lv_icmp_eq h2.1 h2.2.1 hd hk2 (fun h => kt h p l e s m args below meth c H locs cells slots Z b sz cA D ls h1 h2 h3 h4 h5 h6 h7 h8 hE) (fun h => kf h p l e s m args below meth c H locs cells slots Z b sz cA D ls h1 h2 h3 h4 h5 h6 h7 h8 hE)
theorem rj_ic_ne {x y : Int32} {n : Int} (hq : lk (mTab M) pc = some (.if_icmp .ne n, nx, a, b, c, cl)) (kt : ¬ x = y → RJ M X bc bs a lv st σ Q) (kf : x = y → RJ M X bc bs nx lv st σ Q) : RJ M X bc bs pc lv (.int y :: .int x :: st) σ Q := by
  intro p l e s m args below meth c H locs cells slots Z b sz cA D ls h1 h2 h3 h4 h5 h6 h7 h8 hE
  have hk := mOk_at h1 hq
  simp only [enOk, iLen, Bool.and_true, Bool.and_eq_true] at hk
  obtain ⟨hd, hk2, hn9⟩ := hk
  have hd := of_decide_eq_true hd
  have hk2 := of_decide_eq_true hk2
  have hn9 := of_decide_eq_true hn9
  subst hn9
  exact lv_icmp_ne h2.1 h2.2.1 hd hk2 (fun h => kt h p l e s m args below meth c H locs cells slots Z b sz cA D ls h1 h2 h3 h4 h5 h6 h7 h8 hE) (fun h => kf h p l e s m args below meth c H locs cells slots Z b sz cA D ls h1 h2 h3 h4 h5 h6 h7 h8 hE)
theorem rj_ic_lt {x y : Int32} {n : Int} (hq : lk (mTab M) pc = some (.if_icmp .lt n, nx, a, b, c, cl)) (kt : x < y → RJ M X bc bs a lv st σ Q) (kf : ¬ x < y → RJ M X bc bs nx lv st σ Q) : RJ M X bc bs pc lv (.int y :: .int x :: st) σ Q := by
  intro p l e s m args below meth c H locs cells slots Z b sz cA D ls h1 h2 h3 h4 h5 h6 h7 h8 hE
  have hk := mOk_at h1 hq
  simp only [enOk, iLen, Bool.and_true, Bool.and_eq_true] at hk
  obtain ⟨hd, hk2, hn9⟩ := hk
  have hd := of_decide_eq_true hd
  have hk2 := of_decide_eq_true hk2
  have hn9 := of_decide_eq_true hn9
  subst hn9
  exact lv_icmp_lt h2.1 h2.2.1 hd hk2 (fun h => kt h p l e s m args below meth c H locs cells slots Z b sz cA D ls h1 h2 h3 h4 h5 h6 h7 h8 hE) (fun h => kf h p l e s m args below meth c H locs cells slots Z b sz cA D ls h1 h2 h3 h4 h5 h6 h7 h8 hE)
theorem rj_ic_ge {x y : Int32} {n : Int} (hq : lk (mTab M) pc = some (.if_icmp .ge n, nx, a, b, c, cl)) (kt : y ≤ x → RJ M X bc bs a lv st σ Q) (kf : ¬ y ≤ x → RJ M X bc bs nx lv st σ Q) : RJ M X bc bs pc lv (.int y :: .int x :: st) σ Q := by
  intro p l e s m args below meth c H locs cells slots Z b sz cA D ls h1 h2 h3 h4 h5 h6 h7 h8 hE
  have hk := mOk_at h1 hq
  simp only [enOk, iLen, Bool.and_true, Bool.and_eq_true] at hk
  obtain ⟨hd, hk2, hn9⟩ := hk
  have hd := of_decide_eq_true hd
  have hk2 := of_decide_eq_true hk2
  have hn9 := of_decide_eq_true hn9
  subst hn9
  exact lv_icmp_ge h2.1 h2.2.1 hd hk2 (fun h => kt h p l e s m args below meth c H locs cells slots Z b sz cA D ls h1 h2 h3 h4 h5 h6 h7 h8 hE) (fun h => kf h p l e s m args below meth c H locs cells slots Z b sz cA D ls h1 h2 h3 h4 h5 h6 h7 h8 hE)
theorem rj_ic_gt {x y : Int32} {n : Int} (hq : lk (mTab M) pc = some (.if_icmp .gt n, nx, a, b, c, cl)) (kt : y < x → RJ M X bc bs a lv st σ Q) (kf : ¬ y < x → RJ M X bc bs nx lv st σ Q) : RJ M X bc bs pc lv (.int y :: .int x :: st) σ Q := by
  intro p l e s m args below meth c H locs cells slots Z b sz cA D ls h1 h2 h3 h4 h5 h6 h7 h8 hE
  have hk := mOk_at h1 hq
  simp only [enOk, iLen, Bool.and_true, Bool.and_eq_true] at hk
  obtain ⟨hd, hk2, hn9⟩ := hk
  have hd := of_decide_eq_true hd
  have hk2 := of_decide_eq_true hk2
  have hn9 := of_decide_eq_true hn9
  subst hn9
  exact lv_icmp_gt h2.1 h2.2.1 hd hk2 (fun h => kt h p l e s m args below meth c H locs cells slots Z b sz cA D ls h1 h2 h3 h4 h5 h6 h7 h8 hE) (fun h => kf h p l e s m args below meth c H locs cells slots Z b sz cA D ls h1 h2 h3 h4 h5 h6 h7 h8 hE)
theorem rj_ic_le {x y : Int32} {n : Int} (hq : lk (mTab M) pc = some (.if_icmp .le n, nx, a, b, c, cl)) (kt : x ≤ y → RJ M X bc bs a lv st σ Q) (kf : ¬ x ≤ y → RJ M X bc bs nx lv st σ Q) : RJ M X bc bs pc lv (.int y :: .int x :: st) σ Q := by
  intro p l e s m args below meth c H locs cells slots Z b sz cA D ls h1 h2 h3 h4 h5 h6 h7 h8 hE
  have hk := mOk_at h1 hq
  simp only [enOk, iLen, Bool.and_true, Bool.and_eq_true] at hk
  obtain ⟨hd, hk2, hn9⟩ := hk
  have hd := of_decide_eq_true hd
  have hk2 := of_decide_eq_true hk2
  have hn9 := of_decide_eq_true hn9
  subst hn9
  exact lv_icmp_le h2.1 h2.2.1 hd hk2 (fun h => kt h p l e s m args below meth c H locs cells slots Z b sz cA D ls h1 h2 h3 h4 h5 h6 h7 h8 hE) (fun h => kf h p l e s m args below meth c H locs cells slots Z b sz cA D ls h1 h2 h3 h4 h5 h6 h7 h8 hE)
theorem rj_step {E : Instr} (hq : lk (mTab M) pc = some (E, nx, a, b, c, cl)) (hs : stp E a c cl lv st = some (lv', st')) (k : RJ M X bc bs nx lv' st' σ Q) : RJ M X bc bs pc lv st σ Q := by
  cases E with
  | iconst n => cases hs; exact rs_iconst hq k
  | bipush n => cases hs; exact rs_bipush hq k
  | sipush n => cases hs; exact rs_sipush hq k
  | ldc n => cases hs; exact rs_ldc hq k
  | ldc_w n => cases hs; exact rs_ldcw hq k
  | lconst n => cases hs; exact rs_lconst hq k
  | ldc2_w n => cases hs; exact rs_ldc2 hq k
  | goto n => cases hs; exact rs_goto hq k
  | iload n => obtain ⟨x, hx, rfl, rfl⟩ := st_li_e hs; exact rs_iload hq hx k
  | iload_n n => obtain ⟨x, hx, rfl, rfl⟩ := st_li_e hs; exact rs_iload_n hq hx k
  | lload n => obtain ⟨x, hx, rfl, rfl⟩ := st_ll_e hs; exact rs_lload hq hx k
  | lload_n n => obtain ⟨x, hx, rfl, rfl⟩ := st_ll_e hs; exact rs_lload_n hq hx k
  | aload n => obtain ⟨x, hx, rfl, rfl⟩ := st_la_e hs; exact rs_aload hq hx k
  | aload_n n => obtain ⟨x, hx, rfl, rfl⟩ := st_la_e hs; exact rs_aload_n hq hx k
  | istore n => obtain ⟨x, rfl, ho, rfl⟩ := st_si_e hs; exact rs_istore hq ho k
  | istore_n n => obtain ⟨x, rfl, ho, rfl⟩ := st_si_e hs; exact rs_istore_n hq ho k
  | lstore n => obtain ⟨x, rfl, ho, rfl⟩ := st_sl_e hs; exact rs_lstore hq ho k
  | lstore_n n => obtain ⟨x, rfl, ho, rfl⟩ := st_sl_e hs; exact rs_lstore_n hq ho k
  | astore n => obtain ⟨x, rfl, ho, rfl⟩ := st_sa_e hs; exact rs_astore hq ho k
  | astore_n n => obtain ⟨x, rfl, ho, rfl⟩ := st_sa_e hs; exact rs_astore_n hq ho k
  | iinc n d => obtain ⟨x, hx, ho, rfl, rfl⟩ := st_inc_e hs; exact rs_iinc hq ho hx k
  | iadd => obtain ⟨x, y, r, rfl, rfl, rfl⟩ := st_ii_e hs; exact rs_iadd hq k
  | isub => obtain ⟨x, y, r, rfl, rfl, rfl⟩ := st_ii_e hs; exact rs_isub hq k
  | imul => obtain ⟨x, y, r, rfl, rfl, rfl⟩ := st_ii_e hs; exact rs_imul hq k
  | iand => obtain ⟨x, y, r, rfl, rfl, rfl⟩ := st_ii_e hs; exact rs_iand hq k
  | ior => obtain ⟨x, y, r, rfl, rfl, rfl⟩ := st_ii_e hs; exact rs_ior hq k
  | ixor => obtain ⟨x, y, r, rfl, rfl, rfl⟩ := st_ii_e hs; exact rs_ixor hq k
  | ishl => obtain ⟨x, y, r, rfl, rfl, rfl⟩ := st_ii_e hs; exact rs_ishl hq k
  | ishr => obtain ⟨x, y, r, rfl, rfl, rfl⟩ := st_ii_e hs; exact rs_ishr hq k
  | iushr => obtain ⟨x, y, r, rfl, rfl, rfl⟩ := st_ii_e hs; exact rs_iushr hq k
  | ladd => obtain ⟨x, y, r, rfl, rfl, rfl⟩ := st_jj_e hs; exact rs_ladd hq k
  | lmul => obtain ⟨x, y, r, rfl, rfl, rfl⟩ := st_jj_e hs; exact rs_lmul hq k
  | lor => obtain ⟨x, y, r, rfl, rfl, rfl⟩ := st_jj_e hs; exact rs_lor hq k
  | lushr => obtain ⟨x, y, r, rfl, rfl, rfl⟩ := st_ij_e hs; exact rs_lushr hq k
  | lshl => obtain ⟨x, y, r, rfl, rfl, rfl⟩ := st_ij_e hs; exact rs_lshl hq k
  | lcmp => obtain ⟨x, y, r, rfl, rfl, rfl⟩ := st_cmp_e hs; exact rs_lcmp hq k
  | i2l => obtain ⟨x, r, rfl, rfl, rfl⟩ := st_i2l_e hs; exact rs_i2l hq k
  | l2i => obtain ⟨x, r, rfl, rfl, rfl⟩ := st_l2i_e hs; exact rs_l2i hq k
  | pop => obtain ⟨x, rfl, rfl⟩ := st_pop_e hs; exact rs_pop hq k
  | dup => rcases st_dup_e hs with ⟨x, r, rfl, rfl, rfl⟩ | ⟨x, r, rfl, rfl, rfl⟩; exact rs_dupi hq k; exact rs_dupa hq k
  | dup2 => obtain ⟨x, y, r, rfl, rfl, rfl⟩ := st_dup2_e hs; exact rs_dup2 hq k
  | _ => cases hs
end RjSteps

/-! rows of the judgement: new arrays, Object's constructor, the copy of an array -/
theorem arrI : Jvm.Cond.arrayClass .int ∈ lw_tbl := by decide +kernel
theorem arrL : Jvm.Cond.arrayClass .long ∈ lw_tbl := by decide +kernel
theorem arrE : Jvm.Cond.arrayOver (.object "SpeltRoutes$Expression") ∈ lw_tbl := by decide +kernel
section RjArr
variable {M : MD} {X : Option (Nat × (Nat → Int32))} {bc bs pc nx a b : Nat} {c : Int32} {cl : Int64} {lv : List (Option Value)} {st : List Value} {σ : List va_E} {Q : Option Value → List va_E → Prop}
theorem rj_newI {n : Int32} {N : Nat} (hq : lk (mTab M) pc = some (.newarray .int, nx, a, b, c, cl)) (hn : ¬ n < 0) (hN : n.toNatClampNeg = N) (hby : N ≤ 100000) (hlen : σ.length < 1000000) (hbc : 1 ≤ bc) (hbs : N ≤ bs)
    (K : RJ M X (bc - 1) (bs - N) nx lv (.ref σ.length :: st) (σ ++ [.inl (0, N, .inl (fun _ => 0))]) Q) : RJ M X bc bs pc lv (.int n :: st) σ Q := by
  intro p l e s m args below meth c H locs cells slots Z b0 sz cA D ls h1 h2 h3 h4 h5 h6 h7 h8 hE
  have hk := mOk_at h1 hq
  simp only [enOk, iLen, Bool.and_true, Bool.and_eq_true] at hk
  obtain ⟨hd, hn9⟩ := hk
  have hd := of_decide_eq_true hd
  have hn9 := of_decide_eq_true hn9
  subst hn9
  refine va_newa (p := p) (l := l) (e := e) (R := mRm M) (s := s) (below := below) (meth := meth) (H0 := s.heap) (Q := Z) (ls := ls) (rest := st.map (xv b0 sz)) (atype := .int) (a0 := (N, .inl (fun _ => 0))) h2.1 h2.2.1 (h2.w arrI rfl) (ty := .int) rfl h4.1.1 h4.2.1 (xw_D σ) h4.2.2.1 (fun q hq => Nat.le_trans h4.2.2.2.2.1 hq) (fun _ => rfl) hn hN (by show N * 4 ≤ 536870912; omega) (by omega) (by omega) hd (fun q cA' H1 hK1 hP1 hD1 hS1 => ?_)
  have e1 : cA' = cA 0 := by
    have g1 := (h4.1.1.2 0 _ rfl).2
    have g2 := (hK1.2 3 _ rfl).2
    exact Option.some.inj (g2.symm.trans g1)
  subst e1
  refine xw_grown (g := fun q => F0 m (pc + 2) ls (.ref q :: st.map (xv b0 sz))) (e := .inl (0, N, .inl (fun _ => 0))) h4 h8 hlen hP1 hD1 hS1 (fun h4' => ?_)
  have key := K p l e s m args below meth c H1 locs (cells + 1) (slots + N) Z b0 sz cA D ls h1 h2 h3 h4' h5 (by omega) (by omega) (by rw [List.length_append]; show s.heap.size + (cells + 1) = sz + (σ.length + 1); omega) hE
  rw [← xa_k (b := b0) hlen]
  exact key
theorem rj_newL {n : Int32} {N : Nat} (hq : lk (mTab M) pc = some (.newarray .long, nx, a, b, c, cl)) (hn : ¬ n < 0) (hN : n.toNatClampNeg = N) (hby : N ≤ 100000) (hlen : σ.length < 1000000) (hbc : 1 ≤ bc) (hbs : N ≤ bs)
    (K : RJ M X (bc - 1) (bs - N) nx lv (.ref σ.length :: st) (σ ++ [.inl (1, N, .inr (.inl (fun _ => 0)))]) Q) : RJ M X bc bs pc lv (.int n :: st) σ Q := by
  intro p l e s m args below meth c H locs cells slots Z b0 sz cA D ls h1 h2 h3 h4 h5 h6 h7 h8 hE
  have hk := mOk_at h1 hq
  simp only [enOk, iLen, Bool.and_true, Bool.and_eq_true] at hk
  obtain ⟨hd, hn9⟩ := hk
  have hd := of_decide_eq_true hd
  have hn9 := of_decide_eq_true hn9
  subst hn9
  refine va_newa (p := p) (l := l) (e := e) (R := mRm M) (s := s) (below := below) (meth := meth) (H0 := s.heap) (Q := Z) (ls := ls) (rest := st.map (xv b0 sz)) (atype := .long) (a0 := (N, .inr (.inl (fun _ => 0)))) h2.1 h2.2.1 (h2.w arrL rfl) (ty := .long) rfl h4.1.1 h4.2.1 (xw_D σ) h4.2.2.1 (fun q hq => Nat.le_trans h4.2.2.2.2.1 hq) (fun _ => rfl) hn hN (by show N * 8 ≤ 536870912; omega) (by omega) (by omega) hd (fun q cA' H1 hK1 hP1 hD1 hS1 => ?_)
  have e1 : cA' = cA 1 := by
    have g1 := (h4.1.1.2 1 _ rfl).2
    have g2 := (hK1.2 3 _ rfl).2
    exact Option.some.inj (g2.symm.trans g1)
  subst e1
  refine xw_grown (g := fun q => F0 m (pc + 2) ls (.ref q :: st.map (xv b0 sz))) (e := .inl (1, N, .inr (.inl (fun _ => 0)))) h4 h8 hlen hP1 hD1 hS1 (fun h4' => ?_)
  have key := K p l e s m args below meth c H1 locs (cells + 1) (slots + N) Z b0 sz cA D ls h1 h2 h3 h4' h5 (by omega) (by omega) (by rw [List.length_append]; show s.heap.size + (cells + 1) = sz + (σ.length + 1); omega) hE
  rw [← xa_k (b := b0) hlen]
  exact key
theorem rj_newE {i : Nat} {n : Int32} {N : Nat} (hq : lk (mTab M) pc = some (.anewarray i, nx, a, b, c, cl)) (hw : Jvm.Cond.classLink (mY M).cls i "SpeltRoutes$Expression" ∈ lw_tbl) (hn : ¬ n < 0) (hN : n.toNatClampNeg = N) (hby : N ≤ 100000) (hlen : σ.length < 1000000) (hbc : 1 ≤ bc) (hbs : N ≤ bs)
    (K : RJ M X (bc - 1) (bs - N) nx lv (.ref σ.length :: st) (σ ++ [.inl (2, N, .inr (.inr (.inr (.inr (fun _ => none)))))]) Q) : RJ M X bc bs pc lv (.int n :: st) σ Q := by
  intro p l e s m args below meth c H locs cells slots Z b0 sz cA D ls h1 h2 h3 h4 h5 h6 h7 h8 hE
  have hk := mOk_at h1 hq
  simp only [enOk, iLen, Bool.and_true, Bool.and_eq_true] at hk
  obtain ⟨hd, hn9⟩ := hk
  have hd := of_decide_eq_true hd
  have hn9 := of_decide_eq_true hn9
  subst hn9
  refine va_newq (p := p) (l := l) (e := e) (R := mRm M) (s := s) (below := below) (meth := meth) (H0 := s.heap) (Q := Z) (ls := ls) (rest := st.map (xv b0 sz)) h2.1 h2.2.1 h2.2.2.2.2.1 (h2.w hw rfl) (h4.1.2 _ arrE rfl) h4.1.1 h4.2.1 (xw_D σ) h4.2.2.1 (fun q hq => Nat.le_trans h4.2.2.2.2.1 hq) hn hN (by omega) (by omega) (by omega) hd (fun q cA' H1 hK1 hP1 hD1 hS1 => ?_)
  have e1 : cA' = cA 2 := by
    obtain ⟨_, _, -, -, -, g1⟩ := (h4.1.1.2 2 _ rfl).2
    obtain ⟨_, _, -, -, -, g2⟩ := (hK1.2 3 _ rfl).2
    exact Option.some.inj (g2.symm.trans g1)
  subst e1
  refine xw_grown (g := fun q => F0 m (pc + 3) ls (.ref q :: st.map (xv b0 sz))) (e := .inl (2, N, .inr (.inr (.inr (.inr (fun _ => none)))))) h4 h8 hlen hP1 hD1 hS1 (fun h4' => ?_)
  have key := K p l e s m args below meth c H1 locs (cells + 1) (slots + N) Z b0 sz cA D ls h1 h2 h3 h4' h5 (by omega) (by omega) (by rw [List.length_append]; show s.heap.size + (cells + 1) = sz + (σ.length + 1); omega) hE
  rw [← xa_k (b := b0) hlen]
  exact key
theorem objIn : Jvm.Cond.instanceMethod objectInit ∈ lw_tbl := by decide +kernel
theorem objCode : Jvm.Cond.code objectInit ⟨#[0xb1]⟩ 1 none ∈ lw_tbl := by decide +kernel
def catSum (st : List Value) : Nat := (st.map fun v => v.category).sum
theorem catSum_x (b sz : Nat) (st : List Value) : ((st.map (xv b sz)).map fun v => v.category).sum = catSum st := by
  unfold catSum
  rw [List.map_map]
  congr 1
  apply List.map_congr_left
  intro v _
  exact xv_cat b sz v
theorem rj_obj {i k : Nat} (hq : lk (mTab M) pc = some (.invokespecial i, nx, a, b, c, cl)) (hw : Jvm.Cond.methodLink (mY M).cls i objectInit ∈ lw_tbl) (hf : 1 ≤ (mRm M).frames) (hl : catSum st + 12 ≤ (mRm M).locals) (K : RJ M X bc bs nx lv st σ Q) : RJ M X bc bs pc lv (.ref k :: st) σ Q := by
  intro p l e s m args below meth c H locs cells slots Z b0 sz cA D ls h1 h2 h3 h4 h5 h6 h7 h8 hE
  have hk := mOk_at h1 hq
  simp only [enOk, iLen, Bool.and_true, Bool.and_eq_true] at hk
  obtain ⟨hd, hn9⟩ := hk
  have hd := of_decide_eq_true hd
  have hn9 := of_decide_eq_true hn9
  subst hn9
  refine W.objInit h2.1 h2.2.1 h2.2.2.2.2.1 (h2.w hw rfl) (h2.w objIn rfl) (h2.w objCode rfl) rfl (by rw [h2.2.2.2.1]; exact h5.1) rfl hd hf (by rw [catSum_x]; show 2 * 0 + _ + 12 ≤ _; omega) ?_
  exact K p l e s m args below meth c H locs cells slots Z b0 sz cA D ls h1 h2 h3 h4 h5 h6 h7 h8 hE
theorem copyW : (decide (Jvm.Cond.native arraycopyName ∈ lw_tbl) && decide (Jvm.Cond.static arraycopyName ∈ lw_tbl) && decide (Jvm.Cond.initialized "java/lang/System" ∈ lw_tbl)) = true := by decide +kernel
theorem rj_copy {i k0 k1 n0 n1 : Nat} {f g : Nat → Int32} {sp dp n : Int32} (hq : lk (mTab M) pc = some (.invokestatic i, nx, a, b, c, cl)) (hw : Jvm.Cond.methodLink (mY M).cls i arraycopyName ∈ lw_tbl) (hσ0 : σ[k0]? = some (.inl (0, n0, .inl f))) (hσ1 : σ[k1]? = some (.inl (0, n1, .inl g)))
    (g1 : ¬ sp < 0) (g2 : ¬ dp < 0) (g3 : ¬ n < 0) (g4 : sp.toNatClampNeg + n.toNatClampNeg ≤ n0) (g5 : dp.toNatClampNeg + n.toNatClampNeg ≤ n1) (hf : 1 ≤ (mRm M).frames) (hl : catSum st + (nativeFrameWords "java/lang/System" "arraycopy" 5 + 11) ≤ (mRm M).locals)
    (K : RJ M X bc bs nx lv st (σ.set k1 (.inl (0, n1, .inl (va_cpy f g sp.toNatClampNeg dp.toNatClampNeg n.toNatClampNeg)))) Q) : RJ M X bc bs pc lv (.int n :: .int dp :: .ref k1 :: .int sp :: .ref k0 :: st) σ Q := by
  intro p l e s m args below meth c H locs cells slots Z b0 sz cA D ls h1 h2 h3 h4 h5 h6 h7 h8 hE
  have hk := mOk_at h1 hq
  simp only [enOk, iLen, Bool.and_true, Bool.and_eq_true] at hk
  obtain ⟨hd, hn9⟩ := hk
  have hd := of_decide_eq_true hd
  have hn9 := of_decide_eq_true hn9
  subst hn9
  have hk0 := σlt h4 hσ0
  have hk1 := σlt h4 hσ1
  have cw := copyW
  simp only [Bool.and_eq_true, decide_eq_true_eq] at cw
  have key := va_copyi (p := p) (l := l) (e := e) (R := mRm M) (s := s) (below := below) (meth := meth) (H0 := H) (cells := cells) (slots := slots) (Q := Z) (ls := ls) (rest := st.map (xv b0 sz)) (sp := sp) (dp := dp) (n := n) h2.1 h2.2.1 (by rw [h2.2.2.2.1]; exact h5.1.symm) h2.2.2.2.2.1 (h2.w hw rfl) (h2.w cw.1.1 rfl) (h2.w cw.1.2 rfl) (h2.w cw.2 rfl) h4.1.1 h4.2.1 (xw_D σ) (xS_self h4) k0 k1 0 0 (xw_get hσ0) (xw_get hσ1) (ty := .int) rfl rfl rfl g1 g2 g3 g4 g5 (fun _ _ => rfl) hf (by rw [catSum_x]; exact hl) hd (fun H1 locs1 hP1 hD1 hS1 => xw_sized (sz := sz) h8 fun hz =>
    K p l e s m args below meth c H1 locs1 cells slots Z b0 sz cA D ls h1 h2 h3 (xw_stored h4 h8 hP1 hS1 hz) h5 h6 h7 (by rw [List.length_set]; exact h8) hE)
  rw [← xa_k (b := b0) hk0, ← xa_k (b := b0) hk1] at key
  exact key
end RjArr

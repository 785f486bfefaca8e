/-! rows of the judgement: cells, calls, returns, switches -/
def tyTab : List (List (Bool × FieldType)) := [[(true, (.object "SpeltRoutes$Table"))], [(true, (.array .int)), (true, (.array .int)), (true, (.array .int)), (false, .int)], [(true, (.array .int)), (true, (.array .int)), (false, .int), (false, .int), (false, .boolean)], [(true, (.array .int)), (true, (.array .int)), (true, (.array .int))], [(true, (.object "SpeltRoutes$Expression")), (true, (.array .int)), (true, (.array .int)), (true, (.array .int)), (true, (.array .int)), (false, .int), (false, .int), (false, .int), (false, .int)], [(true, (.array .int)), (true, (.array .int)), (true, (.array .int))], [(true, (.array .int)), (false, .int), (false, .int), (false, .int)], [(true, (.array .int)), (true, (.array .int)), (true, (.array .int)), (true, (.array .int)), (false, .int)], [(true, (.array .long)), (true, (.array .int)), (false, .int), (false, .int)], [(true, (.object "SpeltRoutes$Table")), (true, (.array .int)), (false, (.array .int)), (false, (.array .int))], [(true, (.object "SpeltRoutes$Edges")), (true, (.object "SpeltRoutes$Steps")), (true, (.object "SpeltRoutes$Steps")), (true, (.object "SpeltRoutes$Steps")), (true, (.array .int)), (false, .int), (true, (.array (.object "SpeltRoutes$Expression"))), (true, (.object "SpeltRoutes$Reader")), (true, (.object "SpeltRoutes$Reach")), (true, (.object "SpeltRoutes$Shortest")), (true, (.object "SpeltRoutes$Tally")), (true, (.object "SpeltRoutes$Comparison")), (true, (.object "SpeltRoutes$Standing")), (false, .int), (false, .int), (false, .int)], [(true, (.array .int)), (false, .int), (true, (.array .int)), (true, (.array .int)), (false, .int), (true, (.array .int)), (true, (.array .int)), (true, (.array .int)), (true, (.array .int)), (false, .int), (true, (.array .int)), (false, .int), (false, .int), (true, (.array .int)), (true, (.array .int)), (false, .int), (false, .int), (true, (.array .int)), (false, .int), (true, (.array .int)), (true, (.array .int)), (true, (.array .int)), (false, .int), (true, (.array .int)), (true, (.array .int)), (true, (.array .int)), (true, (.array .int)), (true, (.array .int)), (true, (.array .int)), (false, .int), (true, (.array .long)), (true, (.array .long)), (false, .int)]]
theorem tyTab_ok : ((List.range 12).all fun a => match vwCl[a]?, tyTab[a]? with
    | some (_, T, N), some l => decide (l.length = N) && (List.range N).all (fun b => decide (l[b]? = some ((T b).2.2.2, (parseFieldDescriptor (T b).2.2.1).getD .int)) && decide ((parseFieldDescriptor (T b).2.2.1).isSome = true) && (List.range N).all (fun b' => decide (b = b' ∨ (T b).2.1 ≠ (T b').2.1)))
    | _, _ => false) = true := by decide +kernel
theorem vwIn : (vwCl.all fun q => (u_ws q.1 q.2.1 q.2.2).all (fun w => decide (w ∈ lw_tbl) && goodWord w)) = true := by decide +kernel
theorem vw_in {a : Nat} {C : String} {T : u_T} {N : Nat} (h : vwCl[a]? = some (C, T, N)) : ∀ w ∈ u_ws C T N, w ∈ xTbl := by
  intro w hw
  have h1 := List.all_eq_true.mp vwIn _ (List.mem_of_getElem? h)
  have h2 := List.all_eq_true.mp h1 w hw
  rw [Bool.and_eq_true] at h2
  exact List.mem_filter.mpr ⟨of_decide_eq_true h2.1, h2.2⟩
theorem ty_at {a b : Nat} {C : String} {T : u_T} {N : Nat} (h : vwCl[a]? = some (C, T, N)) : (∀ k, k < N → parseFieldDescriptor (T k).2.2.1 = some ((parseFieldDescriptor (T k).2.2.1).getD .int)) ∧ (∀ x, x < N → ∀ y, y < N → x ≠ y → (T x).2.1 ≠ (T y).2.1) ∧ ∀ b f ty, (tyTab[a]?.bind (·[b]?)) = some (f, ty) → b < N ∧ (T b).2.2.2 = f ∧ parseFieldDescriptor (T b).2.2.1 = some ty := by
  have ha : a < 12 := (List.getElem?_eq_some_iff.mp h).1
  have h1 := List.all_eq_true.mp tyTab_ok a (List.mem_range.mpr ha)
  rw [h] at h1
  cases hl : tyTab[a]? with
  | none => rw [hl] at h1; cases h1
  | some l =>
    rw [hl] at h1
    simp only [Bool.and_eq_true] at h1
    obtain ⟨h1, h2⟩ := h1
    have h1 := of_decide_eq_true h1
    have key : ∀ k, k < N → l[k]? = some ((T k).2.2.2, (parseFieldDescriptor (T k).2.2.1).getD .int) ∧ (parseFieldDescriptor (T k).2.2.1).isSome = true ∧ ∀ y, y < N → k ≠ y → (T k).2.1 ≠ (T y).2.1 := by
      intro k hk
      have h3 := List.all_eq_true.mp h2 k (List.mem_range.mpr hk)
      simp only [Bool.and_eq_true] at h3
      refine ⟨of_decide_eq_true h3.1.1, of_decide_eq_true h3.1.2, fun y hy hne => ?_⟩
      have h4 := of_decide_eq_true (List.all_eq_true.mp h3.2 y (List.mem_range.mpr hy))
      rcases h4 with h4 | h4
      · exact absurd h4 hne
      · exact h4
    have ks : ∀ k, k < N → parseFieldDescriptor (T k).2.2.1 = some ((parseFieldDescriptor (T k).2.2.1).getD .int) := by
      intro k hk
      obtain ⟨z, hz⟩ := Option.isSome_iff_exists.mp (key k hk).2.1
      rw [hz]; rfl
    refine ⟨ks, fun x hx y hy hne => (key x hx).2.2 y hy hne, fun b f ty hb => ?_⟩
    have hb : l[b]? = some (f, ty) := hb
    have hbN : b < N := by rw [← h1]; exact (List.getElem?_eq_some_iff.mp hb).1
    have h5 := (key b hbN).1.symm.trans hb
    cases h5
    exact ⟨hbN, rfl, ks b hbN⟩
theorem XC.w {p : Program} {s : State} {m : MethodId} {args : Array Value} {meth : Method} {c : Code} {M : MD} (h : XC p s m args meth c M) {w : Jvm.Cond} (hw : w ∈ lw_tbl) (hg : goodWord w = true) : w.before args s = true := h.2.2.2.2.2.1 w (List.mem_filter.mpr ⟨hw, hg⟩)
theorem flOk_e {own : String} {i a b : Nat} (h : flOk own i a b = true) : ∃ C T N, vwCl[a]? = some (C, T, N) ∧ b < N ∧ (T b).1 = C ∧ Jvm.Cond.fieldLink own i C (T b).2.1 (T b).2.2.1 ∈ lw_tbl := by
  unfold flOk at h
  split at h
  · rename_i C T N hh
    simp only [Bool.and_eq_true] at h
    exact ⟨C, T, N, hh, of_decide_eq_true h.1.1, of_decide_eq_true h.1.2, of_decide_eq_true h.2⟩
  · cases h
theorem xa_k {b sz k : Nat} (h : k < 1000000) : xa b sz k = sz + k := if_neg (by omega)
section RjCells
variable {M : MD} {X : Option (Nat × (Nat → Int32))} {bc bs pc nx a b : Nat} {c : Int32} {cl : Int64} {lv : List (Option Value)} {st : List Value} {σ : List va_E} {Q : Option Value → List va_E → Prop}
theorem σlt {b sz : Nat} {cA : Nat → ClassId} {D : va_G} {s : State} {H : Heap} {locs : List Loc} (h : XW b sz cA D σ s H locs) {k : Nat} {e : va_E} (hk : σ[k]? = some e) : k < 1000000 :=
  Nat.lt_of_lt_of_le (List.getElem?_eq_some_iff.mp hk).1 h.2.2.2.2.2
theorem rj_get {i k : Nat} {fs : List Value} {v : Value} (hq : lk (mTab M) pc = some (.getfield i, nx, a, b, c, cl)) (hσ : σ[k]? = some (.inr (a, fs))) (hv : fs[b]? = some v) (K : RJ M X bc bs nx lv (v :: st) σ Q) : RJ M X bc bs pc lv (.ref k :: st) σ Q := by
  intro p l e s m args below meth c H locs cells slots Z b sz cA D ls h1 h2 h3 h4 h5 h6 h7 h8 hE
  have hk := mOk_at h1 hq
  simp only [enOk, iLen, Bool.and_true, Bool.and_eq_true] at hk
  obtain ⟨⟨hd, hn9⟩, hf⟩ := hk
  have hd := of_decide_eq_true hd
  have hn9 := of_decide_eq_true hn9
  subst hn9
  obtain ⟨C, T, N, e1, e2, e3, e4⟩ := flOk_e hf
  have hkk := σlt h4 hσ
  have key := va_get (ls := ls) (rest := st.map (xv b sz)) (v := xv b sz v) h2.1 h2.2.1 h2.2.2.2.2.2.1 (vw_in e1) h2.2.2.2.2.1 h4.1.1 h4.2.1 k (xw_get hσ) e1 _ e2 (h2.w e4 rfl) (fun x hx => by rw [e3] at hx; exact hx) (by rw [List.getElem?_map, hv]; rfl) hd (K p l e s m args below meth c H locs cells slots Z b sz cA D ls h1 h2 h3 h4 h5 h6 h7 h8 hE)
  rw [← xa_k (b := b) hkk] at key
  exact key
/-- what a store gives: the heap's end stays where it was -/
theorem xw_sized {p : Program} {l : Launch} {e : Env} {R : Room} {s : State} {m : MethodId} {args : Array Value} {below : List Frame} {meth : Method} {cc : Code} {H : Heap} {locs : List Loc} {cells slots : Nat} {Z : State → Prop} {g : JFrame} {sz n : Nat} (hz : s.heap.size + cells = n) (h : H.size ≤ n → W p l e R s m args below meth cc H locs cells slots Z g) : W p l e R s m args below meth cc H locs cells slots Z g := by
  intro T hT X
  have h1 := X.heapSize
  rw [hT] at h1
  exact h (by omega) T hT X
theorem xS_self {b sz : Nat} {cA : Nat → ClassId} {D : va_G} {s : State} {H : Heap} {locs : List Loc} (h : XW b sz cA D σ s H locs) : va_S (fun q => sz ≤ q) H H locs := ⟨Nat.le_refl _, fun _ _ _ => rfl, h.2.2.1.2.2⟩
theorem xS_then {b sz : Nat} {cA : Nat → ClassId} {D : va_G} {s : State} {H H1 : Heap} {locs locs1 : List Loc} (h : XW b sz cA D σ s H locs) (h1 : va_S (fun q => sz ≤ q) H H1 locs1) : va_S (fun q => sz ≤ q) s.heap H1 locs1 :=
  ⟨Nat.le_trans h.2.2.1.1 h1.1, fun q hq hn => (h1.2.1 q (Nat.lt_of_lt_of_le hq h.2.2.1.1) hn).trans (h.2.2.1.2.1 q hq hn), h1.2.2⟩
/-- behind a store into cell k -/
theorem xw_stored {b sz : Nat} {cA : Nat → ClassId} {D : va_G} {s : State} {H H1 : Heap} {locs locs1 : List Loc} {cells k : Nat} {e : va_E} (h4 : XW b sz cA D σ s H locs) (h8 : s.heap.size + cells = sz + σ.length) (hP1 : va_P D vwCl ((xw b sz cA σ).set k (sz + k, xe b sz cA e)) H1) (hS1 : va_S (fun q => sz ≤ q) H H1 locs1) (hz : H1.size ≤ sz + σ.length) : XW b sz cA D (σ.set k e) s H1 locs1 := by
  refine ⟨h4.1, by rw [← xw_set]; exact hP1, xS_then h4 hS1, ?_, h4.2.2.2.2.1, by rw [List.length_set]; exact h4.2.2.2.2.2⟩
  rw [List.length_set]
  have := hS1.1
  have := h4.2.2.2.1
  omega
theorem rj_put0 {i k : Nat} {fs : List Value} {v : Value} {ty : FieldType} (hq : lk (mTab M) pc = some (.putfield i, nx, a, b, c, cl)) (hσ : σ[k]? = some (.inr (a, fs))) (hl : b < fs.length) (ht : (tyTab[a]?.bind (·[b]?)) = some (false, ty)) (hn : ∀ b sz, narrow ty (xv b sz v) = xv b sz v) (hfit : ∀ b sz, fits ty (xv b sz v) = true)
    (K : RJ M X bc bs nx lv st (σ.set k (.inr (a, fs.set b v))) Q) : RJ M X bc bs pc lv (v :: .ref k :: st) σ Q := by
  intro p l e s m args below meth c H locs cells slots Z b0 sz cA D ls h1 h2 h3 h4 h5 h6 h7 h8 hE
  have hk := mOk_at h1 hq
  simp only [enOk, iLen, Bool.and_true, Bool.and_eq_true] at hk
  obtain ⟨⟨hd, hn9⟩, hf⟩ := hk
  have hd := of_decide_eq_true hd
  have hn9 := of_decide_eq_true hn9
  subst hn9
  obtain ⟨C, T, N, e1, e2, e3, e4⟩ := flOk_e hf
  obtain ⟨t1, t2, t3⟩ := ty_at (b := 0) e1
  obtain ⟨-, t4, t5⟩ := t3 _ _ _ ht
  have hkk := σlt h4 hσ
  have key := va_put (p := p) (l := l) (e := e) (R := mRm M) (s := s) (below := below) (meth := meth) (H0 := H) (cells := cells) (slots := slots) (Q := Z) (ls := ls) (rest := st.map (xv b0 sz)) (v := xv b0 sz v) h2.1 h2.2.1 h2.2.2.2.2.2.1 (vw_in e1) _ t1 t2 h2.2.2.2.2.1 h4.1.1 h4.2.1 (xw_D σ) (xS_self h4) k (xw_get hσ) e1 b e2 (h2.w e4 rfl) (fun x hx => by rw [e3] at hx; exact hx) t4 t5 (hn b0 sz) (hfit b0 sz) (by rw [List.length_map]; exact hl) hd (fun H1 locs1 hP1 hD1 hS1 => xw_sized (sz := sz) h8 fun hz =>
    K p l e s m args below meth c H1 locs1 cells slots Z b0 sz cA D ls h1 h2 h3 (xw_stored h4 h8 (by rw [show xe b0 sz cA (.inr (a, fs.set b v)) = .inr (a, (fs.map (xv b0 sz)).set b (xv b0 sz v)) by simp only [xe, List.map_set]]; exact hP1) hS1 hz) h5 h6 h7 (by rw [List.length_set]; exact h8) hE)
  rw [← xa_k (b := b0) hkk] at key
  exact key
theorem rj_putF0 {i k : Nat} {fs : List Value} {v : Value} {ty : FieldType} (hq : lk (mTab M) pc = some (.putfield i, nx, a, b, c, cl)) (hσ : σ[k]? = some (.inr (a, fs))) (hl : b < fs.length) (ht : (tyTab[a]?.bind (·[b]?)) = some (true, ty)) (hin : (mY M).name = "<init>") (hcl : (vwCl[a]?.map (·.1)) = some (mY M).cls) (hn : ∀ b sz, narrow ty (xv b sz v) = xv b sz v) (hfit : ∀ b sz, fits ty (xv b sz v) = true)
    (K : RJ M X bc bs nx lv st (σ.set k (.inr (a, fs.set b v))) Q) : RJ M X bc bs pc lv (v :: .ref k :: st) σ Q := by
  intro p l e s m args below meth c H locs cells slots Z b0 sz cA D ls h1 h2 h3 h4 h5 h6 h7 h8 hE
  have hk := mOk_at h1 hq
  simp only [enOk, iLen, Bool.and_true, Bool.and_eq_true] at hk
  obtain ⟨⟨hd, hn9⟩, hf⟩ := hk
  have hd := of_decide_eq_true hd
  have hn9 := of_decide_eq_true hn9
  subst hn9
  obtain ⟨C, T, N, e1, e2, e3, e4⟩ := flOk_e hf
  obtain ⟨t1, t2, t3⟩ := ty_at (b := 0) e1
  obtain ⟨-, t4, t5⟩ := t3 _ _ _ ht
  have hkk := σlt h4 hσ
  rw [e1] at hcl
  have hcl : C = (mY M).cls := Option.some.inj hcl
  have key := va_putF (p := p) (l := l) (e := e) (R := mRm M) (s := s) (below := below) (meth := meth) (H0 := H) (cells := cells) (slots := slots) (Q := Z) (ls := ls) (rest := st.map (xv b0 sz)) (v := xv b0 sz v) h2.1 h2.2.1 h2.2.2.2.2.2.1 (vw_in e1) _ t1 t2 h2.2.2.2.2.1 h4.1.1 h4.2.1 (xw_D σ) (xS_self h4) k (xw_get hσ) e1 b e2 (h2.w e4 rfl) (fun x hx => by rw [e3] at hx; exact hx) t4 (h2.2.2.2.2.2.2.2.trans hin) (e3.trans hcl) t5 (hn b0 sz) (hfit b0 sz) (by rw [List.length_map]; exact hl) hd (fun H1 locs1 hP1 hD1 hS1 => xw_sized (sz := sz) h8 fun hz =>
    K p l e s m args below meth c H1 locs1 cells slots Z b0 sz cA D ls h1 h2 h3 (xw_stored h4 h8 (by rw [show xe b0 sz cA (.inr (a, fs.set b v)) = .inr (a, (fs.map (xv b0 sz)).set b (xv b0 sz v)) by simp only [xe, List.map_set]]; exact hP1) hS1 hz) h5 h6 h7 (by rw [List.length_set]; exact h8) hE)
  rw [← xa_k (b := b0) hkk] at key
  exact key
theorem rj_iald {k n : Nat} {f : Nat → Int32} {i : Int32} (hq : lk (mTab M) pc = some (.iaload, nx, a, b, c, cl)) (hσ : σ[k]? = some (.inl (0, n, .inl f))) (hin : vp_in i n) (K : RJ M X bc bs nx lv (.int (f i.toNatClampNeg) :: st) σ Q) : RJ M X bc bs pc lv (.int i :: .ref k :: st) σ Q := by
  intro p l e s m args below meth c H locs cells slots Z b0 sz cA D ls h1 h2 h3 h4 h5 h6 h7 h8 hE
  have hk := mOk_at h1 hq
  simp only [enOk, iLen, Bool.and_true, Bool.and_eq_true] at hk
  obtain ⟨hd, hn9⟩ := hk
  have hd := of_decide_eq_true hd
  have hn9 := of_decide_eq_true hn9
  subst hn9
  have hkk := σlt h4 hσ
  have key := va_iald (ls := ls) (rest := st.map (xv b0 sz)) h2.1 h2.2.1 h4.1.1 h4.2.1 k 0 (xw_get hσ) rfl hin hd (K p l e s m args below meth c H locs cells slots Z b0 sz cA D ls h1 h2 h3 h4 h5 h6 h7 h8 hE)
  rw [← xa_k (b := b0) hkk] at key
  exact key
theorem rj_lald {k n : Nat} {f : Nat → Int64} {i : Int32} (hq : lk (mTab M) pc = some (.laload, nx, a, b, c, cl)) (hσ : σ[k]? = some (.inl (1, n, .inr (.inl f)))) (hin : vp_in i n) (K : RJ M X bc bs nx lv (.long (f i.toNatClampNeg) :: st) σ Q) : RJ M X bc bs pc lv (.int i :: .ref k :: st) σ Q := by
  intro p l e s m args below meth c H locs cells slots Z b0 sz cA D ls h1 h2 h3 h4 h5 h6 h7 h8 hE
  have hk := mOk_at h1 hq
  simp only [enOk, iLen, Bool.and_true, Bool.and_eq_true] at hk
  obtain ⟨hd, hn9⟩ := hk
  have hd := of_decide_eq_true hd
  have hn9 := of_decide_eq_true hn9
  subst hn9
  have hkk := σlt h4 hσ
  have key := va_lald (ls := ls) (rest := st.map (xv b0 sz)) h2.1 h2.2.1 h4.1.1 h4.2.1 k 1 (xw_get hσ) rfl hin hd (K p l e s m args below meth c H locs cells slots Z b0 sz cA D ls h1 h2 h3 h4 h5 h6 h7 h8 hE)
  rw [← xa_k (b := b0) hkk] at key
  exact key
theorem rj_aald {k n r : Nat} {f : Nat → Option Nat} {i : Int32} (hq : lk (mTab M) pc = some (.aaload, nx, a, b, c, cl)) (hσ : σ[k]? = some (.inl (2, n, .inr (.inr (.inr (.inr f)))))) (hin : vp_in i n) (hr : f i.toNatClampNeg = some r) (K : RJ M X bc bs nx lv (.ref r :: st) σ Q) : RJ M X bc bs pc lv (.int i :: .ref k :: st) σ Q := by
  intro p l e s m args below meth c H locs cells slots Z b0 sz cA D ls h1 h2 h3 h4 h5 h6 h7 h8 hE
  have hk := mOk_at h1 hq
  simp only [enOk, iLen, Bool.and_true, Bool.and_eq_true] at hk
  obtain ⟨hd, hn9⟩ := hk
  have hd := of_decide_eq_true hd
  have hn9 := of_decide_eq_true hn9
  subst hn9
  have hkk := σlt h4 hσ
  have key := va_aldq (p := p) (l := l) (e := e) (R := mRm M) (below := below) (meth := meth) (locs := locs) (cells := cells) (slots := slots) (Q := Z) (ls := ls) (rest := st.map (xv b0 sz)) h2.1 h2.2.1 h4.1.1 h4.2.1 k 2 (xw_get hσ) rfl hin hd (by
    show W _ _ _ _ _ _ _ _ _ _ _ _ _ _ _ (F0 m _ ls (va_rf ((f i.toNatClampNeg).map (xa b0 sz)) :: _))
    rw [hr]
    exact K p l e s m args below meth c H locs cells slots Z b0 sz cA D ls h1 h2 h3 h4 h5 h6 h7 h8 hE)
  rw [← xa_k (b := b0) hkk] at key
  exact key
theorem rj_alen {k t n : Nat} {r : vR} (hq : lk (mTab M) pc = some (.arraylength, nx, a, b, c, cl)) (hσ : σ[k]? = some (.inl (t, n, r))) (ht : t < 3) (K : RJ M X bc bs nx lv (.int (Int32.ofNat n) :: st) σ Q) : RJ M X bc bs pc lv (.ref k :: st) σ Q := by
  intro p l e s m args below meth c H locs cells slots Z b0 sz cA D ls h1 h2 h3 h4 h5 h6 h7 h8 hE
  have hk := mOk_at h1 hq
  simp only [enOk, iLen, Bool.and_true, Bool.and_eq_true] at hk
  obtain ⟨hd, hn9⟩ := hk
  have hd := of_decide_eq_true hd
  have hn9 := of_decide_eq_true hn9
  subst hn9
  have hkk := σlt h4 hσ
  obtain ⟨ty, hty⟩ : ∃ ty, (xT cA)[t]? = some (cA t, ty) := by
    rcases (show t = 0 ∨ t = 1 ∨ t = 2 by omega) with rfl | rfl | rfl <;> exact ⟨_, rfl⟩
  have key := va_alen (ls := ls) (rest := st.map (xv b0 sz)) h2.1 h2.2.1 h4.1.1 h4.2.1 k t (xw_get hσ) hty (v := Int32.ofNat n) rfl hd (K p l e s m args below meth c H locs cells slots Z b0 sz cA D ls h1 h2 h3 h4 h5 h6 h7 h8 hE)
  rw [← xa_k (b := b0) hkk] at key
  exact key
theorem rj_iast {k n : Nat} {f : Nat → Int32} {i x : Int32} (hq : lk (mTab M) pc = some (.iastore, nx, a, b, c, cl)) (hσ : σ[k]? = some (.inl (0, n, .inl f))) (hin : vp_in i n) (K : RJ M X bc bs nx lv st (σ.set k (.inl (0, n, .inl (upd f i.toNatClampNeg x)))) Q) : RJ M X bc bs pc lv (.int x :: .int i :: .ref k :: st) σ Q := by
  intro p l e s m args below meth c H locs cells slots Z b0 sz cA D ls h1 h2 h3 h4 h5 h6 h7 h8 hE
  have hk := mOk_at h1 hq
  simp only [enOk, iLen, Bool.and_true, Bool.and_eq_true] at hk
  obtain ⟨hd, hn9⟩ := hk
  have hd := of_decide_eq_true hd
  have hn9 := of_decide_eq_true hn9
  subst hn9
  have hkk := σlt h4 hσ
  have key := va_iast (p := p) (l := l) (e := e) (R := mRm M) (s := s) (below := below) (meth := meth) (H0 := H) (cells := cells) (slots := slots) (Q := Z) (ls := ls) (rest := st.map (xv b0 sz)) (x := x) h2.1 h2.2.1 h4.1.1 h4.2.1 (xw_D σ) (xS_self h4) k 0 (xw_get hσ) rfl hin hd (fun H1 locs1 hP1 hD1 hS1 => xw_sized (sz := sz) h8 fun hz =>
    K p l e s m args below meth c H1 locs1 cells slots Z b0 sz cA D ls h1 h2 h3 (xw_stored h4 h8 hP1 hS1 hz) h5 h6 h7 (by rw [List.length_set]; exact h8) hE)
  rw [← xa_k (b := b0) hkk] at key
  exact key
theorem rj_last {k n : Nat} {f : Nat → Int64} {i : Int32} {x : Int64} (hq : lk (mTab M) pc = some (.lastore, nx, a, b, c, cl)) (hσ : σ[k]? = some (.inl (1, n, .inr (.inl f)))) (hin : vp_in i n) (K : RJ M X bc bs nx lv st (σ.set k (.inl (1, n, .inr (.inl (vp_updL f i.toNatClampNeg x))))) Q) : RJ M X bc bs pc lv (.long x :: .int i :: .ref k :: st) σ Q := by
  intro p l e s m args below meth c H locs cells slots Z b0 sz cA D ls h1 h2 h3 h4 h5 h6 h7 h8 hE
  have hk := mOk_at h1 hq
  simp only [enOk, iLen, Bool.and_true, Bool.and_eq_true] at hk
  obtain ⟨hd, hn9⟩ := hk
  have hd := of_decide_eq_true hd
  have hn9 := of_decide_eq_true hn9
  subst hn9
  have hkk := σlt h4 hσ
  have key := va_last (p := p) (l := l) (e := e) (R := mRm M) (s := s) (below := below) (meth := meth) (H0 := H) (cells := cells) (slots := slots) (Q := Z) (ls := ls) (rest := st.map (xv b0 sz)) (x := x) h2.1 h2.2.1 h4.1.1 h4.2.1 (xw_D σ) (xS_self h4) k 1 (xw_get hσ) rfl hin hd (fun H1 locs1 hP1 hD1 hS1 => xw_sized (sz := sz) h8 fun hz =>
    K p l e s m args below meth c H1 locs1 cells slots Z b0 sz cA D ls h1 h2 h3 (xw_stored h4 h8 hP1 hS1 hz) h5 h6 h7 (by rw [List.length_set]; exact h8) hE)
  rw [← xa_k (b := b0) hkk] at key
  exact key
theorem rj_aast {k n r ci : Nat} {fs : List Value} {f : Nat → Option Nat} {i : Int32} (hq : lk (mTab M) pc = some (.aastore, nx, a, b, c, cl)) (hσ : σ[k]? = some (.inl (2, n, .inr (.inr (.inr (.inr f)))))) (hin : vp_in i n) (hr : σ[r]? = some (.inr (2, fs))) (K : RJ M X bc bs nx lv st (σ.set k (.inl (2, n, .inr (.inr (.inr (.inr (va_up f i.toNatClampNeg (some r)))))))) Q) : RJ M X bc bs pc lv (.ref r :: .int i :: .ref k :: st) σ Q := by
  intro p l e s m args below meth c H locs cells slots Z b0 sz cA D ls h1 h2 h3 h4 h5 h6 h7 h8 hE
  have hk := mOk_at h1 hq
  simp only [enOk, iLen, Bool.and_true, Bool.and_eq_true] at hk
  obtain ⟨hd, hn9⟩ := hk
  have hd := of_decide_eq_true hd
  have hn9 := of_decide_eq_true hn9
  subst hn9
  have hkk := σlt h4 hσ
  have hrr := σlt h4 hr
  have key := va_astq (p := p) (l := l) (e := e) (R := mRm M) (s := s) (below := below) (meth := meth) (H0 := H) (cells := cells) (slots := slots) (Q := Z) (ls := ls) (rest := st.map (xv b0 sz)) h2.1 h2.2.1 h4.1.1 h4.2.1 (xw_D σ) (xS_self h4) k 2 r 2 (xw_get hσ) (r := (RX2, TX2, 5)) rfl (xw_get hr) rfl hin hd (fun H1 locs1 hP1 hD1 hS1 => xw_sized (sz := sz) h8 fun hz =>
    K p l e s m args below meth c H1 locs1 cells slots Z b0 sz cA D ls h1 h2 h3 (xw_stored h4 h8 (by
      rw [show xe b0 sz cA (.inl (2, n, .inr (.inr (.inr (.inr (va_up f i.toNatClampNeg (some r))))))) = .inl (cA 2, n, .inr (.inr (.inr (.inr (va_up (fun j => (f j).map (xa b0 sz)) i.toNatClampNeg (some (sz + r))))))) by
        simp only [xe, xr]
        congr 7
        funext j
        unfold va_up
        split
        · rw [← xa_k (b := b0) hrr]; rfl
        · rfl]
      exact hP1) hS1 hz) h5 h6 h7 (by rw [List.length_set]; exact h8) hE)
  rw [← xa_k (b := b0) hkk, ← xa_k (b := b0) hrr] at key
  exact key
end RjCells

/-! a method's contract out of the judgement, and the calls -/
def lvA (As : List Value) : List (Option Value) := As.flatMap (fun v => if v.category = 2 then [some v, none] else [some v])
def lvArgs (n : Nat) (As : List Value) : List (Option Value) := lvA As ++ List.replicate (n - (lvA As).length) none
theorem lvA_sl (b sz : Nat) (As : List Value) : lg_sl (As.map (xv b sz)) = (lvA As).map (fun o => match o with | some v => Slot.val (xv b sz v) | none => .second) := by
  induction As with
  | nil => rfl
  | cons v t ih =>
    have e1 : lg_sl ((v :: t).map (xv b sz)) = (if (xv b sz v).category = 2 then [Slot.val (xv b sz v), .second] else [.val (xv b sz v)]) ++ lg_sl (t.map (xv b sz)) := rfl
    have e2 : lvA (v :: t) = (if v.category = 2 then [some v, none] else [some v]) ++ lvA t := rfl
    rw [e1, e2, ih, List.map_append, xv_cat]
    by_cases h : v.category = 2
    · rw [if_pos h, if_pos h]; rfl
    · rw [if_neg h, if_neg h]; rfl
theorem hasL_entry (b sz n : Nat) (As : List Value) (h : (lvA As).length ≤ n) : hasL b sz ((lg_sl (As.map (xv b sz)) ++ List.replicate (n - (lg_sl (As.map (xv b sz))).length) Slot.unset).toArray) n (lvArgs n As) := by
  have hlen : (lg_sl (As.map (xv b sz))).length = (lvA As).length := by rw [lvA_sl, List.length_map]
  have h1 := lv_entry (As.map (xv b sz)) (n := n) (by rw [hlen]; exact h)
  refine ⟨h1.1, by simp [lvArgs]; omega, h1.2.1, fun k v hk => ?_⟩
  unfold lvArgs at hk
  by_cases hkl : k < (lvA As).length
  · rw [List.getElem?_append_left hkl] at hk
    rw [List.getElem?_toArray, List.getElem?_append_left (by rw [hlen]; exact hkl), lvA_sl, List.getElem?_map, hk]
    rfl
  · rw [List.getElem?_append_right (by omega), List.getElem?_replicate] at hk
    split at hk <;> cases hk
/-- a contract's end -/
def xQ (b sz : Nat) (cA : Nat → ClassId) (D : va_G) (Q : Option Value → List va_E → Prop) : Array Value → State → Outcome → State → Prop := fun _ st o t =>
  ∃ (v : Option Value) (σ' : List va_E), o = .returned (v.map (xv b sz)) ∧ Q v σ' ∧ va_P D vwCl (xw b sz cA σ') t.heap ∧ t.heap.size = sz + σ'.length ∧ σ'.length ≤ 1000000 ∧ va_F (fun q => sz ≤ q) st t
/-- a contract's start -/
def xP (b sz : Nat) (cA : Nat → ClassId) (D : va_G) (As : List Value) (σ : List va_E) : Array Value → State → Prop :=
  va_Pc (As.map (xv b sz)) (fun U => xK D cA U ∧ va_P D vwCl (xw b sz cA σ) U.heap ∧ U.heap.size = sz + σ.length ∧ σ.length ≤ 1000000)
theorem met_of {M : MD} {σ : List va_E} {Q : Option Value → List va_E → Prop} (l : Launch) (b sz : Nat) (cA : Nat → ClassId) (D : va_G) (As : List Value) (hpl : plainName (mY M).cls = true) (hok : mOk M = true) (hAs : (lvA As).length ≤ mML M)
    (h : RJ M none (mRm M).cells (mRm M).slots 0 (lvArgs (mML M) As) [] σ Q) :
    Met l (mY M) (mWs M) (mRm M) (xP b sz cA D As σ) (xQ b sz cA D Q) (mRm M).cells (mRm M).slots (fun q => sz ≤ q) := by
  refine Met.ofW (cc := mCode M) (maxL := mML M) (ret := mRet M) hpl rfl ?_
  intro p e s m args below meth c s₁ B hml hv
  obtain ⟨rfl, hK, hP, hsz, hlen⟩ := hv
  have hts := atoms_spec (ws := mWs M) B.pre
  have hXC : XC p s m (As.map (xv b sz)).toArray meth c M := ⟨B.exec, B.bytes, B.returns, hml, findClass_of_methodNamed B.named, fun w hw => hts w (List.mem_cons_of_mem _ hw), B.notSynchronized, (name_of_methodNamed B.named B.method).1⟩
  rw [lg_entry_eq]
  have hl := hasL_entry b sz (mML M) As hAs
  refine h p l e s m (As.map (xv b sz)).toArray below meth c s.heap [] 0 0 _ b sz cA D _ hok hXC trivial ⟨hK, hP, va_S.rf, hsz, by rw [hsz]; exact Nat.le_add_right _ _, hlen⟩ hl (by omega) (by omega) (by rw [hsz]; rfl) ?_
  intro v σ' H' locs' pc' ls' hQ hW hr
  have hlocks := hXC.2.2.2.2.2.2.1
  have post : ∀ t : State, t.heap = H' → xQ b sz cA D Q (As.map (xv b sz)).toArray s (.returned (v.map (xv b sz))) t := fun t ht => ⟨v, σ', rfl, hQ, by rw [ht]; exact hW.2.1, by rw [ht]; exact hW.2.2.2.1, hW.2.2.2.2.2, hW.2.2.1.F ht⟩
  match v, hr, post with
  | none, hr, post => exact W.vret hXC.1 hXC.2.1 (hXC.2.2.1.trans hr.2) (fun t ht _ => post t ht) hW.2.2.1.2.2 hr.1
  | some (.int x), hr, post =>
    obtain ⟨hd, ty, e1, e2⟩ := hr
    exact W.zret hXC.1 hXC.2.1 (hXC.2.2.1.trans e1) e2 (fun t ht _ => post t ht) hW.2.2.1.2.2 hd
  | some (.long x), hr, post => exact W.lret hXC.1 hXC.2.1 (hXC.2.2.1.trans hr.2) (fun t ht _ => post t ht) hW.2.2.1.2.2 hr.1
  | some (.float _), hr, _ => exact hr.elim
  | some (.double _), hr, _ => exact hr.elim
  | some .null, hr, _ => exact hr.elim
  | some (.ref _), hr, _ => exact hr.elim
  | some (.retAddr _), hr, _ => exact hr.elim
theorem xP_blind {b sz : Nat} {cA : Nat → ClassId} {D : va_G} {As : List Value} {σ : List va_E} : FrameBlind (xP b sz cA D As σ) := by
  intro a U g mk h
  obtain ⟨h1, ⟨h2, h3⟩, h4⟩ := h
  exact ⟨h1, ⟨va_K.moved (u := U) (U := U.calling g mk a) (Vm.Alike.refl U.vm) h2, fun w hw hn => by
    have h5 := h3 w hw hn
    cases w with
    | methodLinkNest a0 i x hh => exact va_Nw.same rfl (rfl : U.vm = (U.calling g mk a).vm) h5
    | arrayOver ty => cases ty with
      | object C => exact va_AO.moved (u := U) (U := U.calling g mk a) (Vm.Alike.refl U.vm) h5
      | _ => cases hn
    | _ => cases hn⟩, h4⟩
theorem xK_warm {D : va_G} {cA : Nat → ClassId} {s U : State} (hW : s.WarmedH U.vm) (h : xK D cA s) : xK D cA U := ⟨va_K.moved hW.alike h.1, xN_warm hW h.2⟩
/-- the words of a call, its room -/
def cOk (M : MD) (n : Nat) (Mc : MD) : Bool := decide (Jvm.Cond.code (mY Mc) (mCode Mc) (mML Mc) (mRet Mc) ∈ lw_tbl) && decide (Jvm.Cond.initialized (mY Mc).cls ∈ lw_tbl) && decide ((mY Mc).cls ≠ "java/lang/invoke/MethodHandle") && decide ((mY Mc).cls ≠ "java/lang/invoke/VarHandle") && decide ((parseMethodDescriptor (mY Mc).desc).map (fun d => d.parameters.length) = some n) && decide ((mRm Mc).frames + 1 ≤ (mRm M).frames) && decide (8 + (mML Mc + 11) + (mRm Mc).locals ≤ (mRm M).locals) && plainName (mY Mc).cls
def cvOk (M : MD) (i n : Nat) (Mc : MD) : Bool := cOk M n Mc && decide (Jvm.Cond.methodLink (mY M).cls i (mY Mc) ∈ lw_tbl) && decide (Jvm.Cond.instanceMethod (mY Mc) ∈ lw_tbl) && decide (Jvm.Cond.selects (mY Mc).cls (mY Mc) (mY Mc) ∈ lw_tbl)
def csOk (M : MD) (i n : Nat) (Mc : MD) : Bool := cOk M n Mc && decide (Jvm.Cond.methodLink (mY M).cls i (mY Mc) ∈ lw_tbl) && decide (Jvm.Cond.static (mY Mc) ∈ lw_tbl)
def ciOk (M : MD) (i n : Nat) (Mc : MD) : Bool := cOk M n Mc && decide (Jvm.Cond.methodLink (mY M).cls i (mY Mc) ∈ lw_tbl) && decide (Jvm.Cond.instanceMethod (mY Mc) ∈ lw_tbl) && decide ((mY Mc).name = "<init>") && decide (mRet Mc = none)
def cnOk (M : MD) (i n : Nat) (Mc : MD) (host : String) : Bool := cOk M n Mc && decide (Jvm.Cond.methodLinkNest (mY M).cls i (mY Mc) host ∈ lw_tbl) && decide (Jvm.Cond.instanceMethod (mY Mc) ∈ lw_tbl) && decide ((mY Mc).name = "<init>") && decide (mRet Mc = none)
theorem xGood (M : MD) (h : Jvm.Cond.code (mY M) (mCode M) (mML M) (mRet M) ∈ lw_tbl) : GoodIn xTbl (mWs M) := by
  intro w hw
  rcases List.mem_cons.mp hw with rfl | hw
  · exact ⟨List.mem_filter.mpr ⟨h, rfl⟩, good_of_word rfl⟩
  · exact ⟨hw, good_of_word (List.mem_filter.mp hw).2⟩
section RjCall
variable {M Mc : MD} {X : Option (Nat × (Nat → Int32))} {bc bs pc nx b : Nat} {c : Int32} {cl : Int64} {lv : List (Option Value)} {st : List Value} {σ : List va_E} {Q : Option Value → List va_E → Prop}
theorem cOk_e {n : Nat} (h : cOk M n Mc = true) : Jvm.Cond.code (mY Mc) (mCode Mc) (mML Mc) (mRet Mc) ∈ lw_tbl ∧ Jvm.Cond.initialized (mY Mc).cls ∈ lw_tbl ∧ ((mY Mc).cls ≠ "java/lang/invoke/MethodHandle" ∧ (mY Mc).cls ≠ "java/lang/invoke/VarHandle" ∧ (parseMethodDescriptor (mY Mc).desc).map (fun d => d.parameters.length) = some n) ∧ ((mRm Mc).frames + 1 ≤ (mRm M).frames ∧ 8 + (mML Mc + 11) + (mRm Mc).locals ≤ (mRm M).locals) ∧ plainName (mY Mc).cls = true := by
  unfold cOk at h
  simp only [Bool.and_eq_true, decide_eq_true_eq] at h
  obtain ⟨⟨⟨⟨⟨⟨⟨a1, a2⟩, a3⟩, a4⟩, a5⟩, a6⟩, a7⟩, a8⟩ := h
  exact ⟨a1, a2, ⟨a3, a4, a5⟩, ⟨a6, a7⟩, a8⟩
/-- what follows a call, once it has run -/
theorem rj_run {p : Program} {l : Launch} {e : Env} {s : State} {m : MethodId} {args : Array Value} {below : List Frame} {meth : Method} {c : Code} {H : Heap} {locs : List Loc} {cells slots : Nat} {Z : State → Prop} {b0 sz : Nat} {cA : Nat → ClassId} {D : va_G} {ls : Array Slot} {st0 rest : List Value} {aa : Array Value}
    (hr : va_Run p l e (mRm M) s m args below meth c H locs cells slots (mRm Mc).cells (mRm Mc).slots (F0 m pc ls st0) (rest.map (xv b0 sz)) (xQ b0 sz cA D (fun v σ' => σ'.length = σ.length + (mRm Mc).cells ∧ RJ M X (bc - (mRm Mc).cells) (bs - (mRm Mc).slots) (pc + 3) lv (v.toList ++ rest) σ' Q) aa) (fun q => sz ≤ q))
    (hbc : (mRm Mc).cells ≤ bc) (hbs : (mRm Mc).slots ≤ bs) (h1 : mOk M = true) (h2 : XC p s m args meth c M) (h3 : XX X b0 sz s) (h4 : XW b0 sz cA D σ s H locs) (h5 : hasL b0 sz ls (mML M) lv) (h6 : cells + bc = (mRm M).cells) (h7 : slots + bs = (mRm M).slots) (h8 : s.heap.size + cells = sz + σ.length)
    (hE : ∀ (v : Option Value) (σ' : List va_E) (H' : Heap) (locs' : List Loc) (pc' : Nat) (ls' : Array Slot), Q v σ' → XW b0 sz cA D σ' s H' locs' → mRetAt M pc' v → W p l e (mRm M) s m args below meth c H' locs' (mRm M).cells (mRm M).slots Z (F0 m pc' ls' (v.toList.map (xv b0 sz)))) : W p l e (mRm M) s m args below meth c H locs cells slots Z (F0 m pc ls st0) := by
  intro T hT St
  obtain ⟨v, st₀, t, T', L, g0, St', hL, e1, e2, ⟨v', σ', hv, ⟨hlen, hK⟩, hP, hz, hl, hF⟩, go⟩ := hr T hT St
  cases hv
  rw [e1.symm] at hP hz
  have hF1 : H.size ≤ T'.heap.size := by rw [← g0, e1]; exact hF.1
  have hF2 : ∀ q, q < H.size → ¬ sz ≤ q → T'.heap[q]? = H[q]? := fun q hq hn => by
    have := hF.2 q (by rw [g0]; exact hq) hn
    rw [e1, this, g0]
  have hXW : XW b0 sz cA D σ' s T'.heap (locs ++ L) := by
    refine ⟨h4.1, hP, ⟨Nat.le_trans h4.2.2.1.1 hF1, fun q hq hn => (hF2 q (Nat.lt_of_lt_of_le hq h4.2.2.1.1) hn).trans (h4.2.2.1.2.1 q hq hn), fun q hq => ?_⟩, hz, h4.2.2.2.2.1, hl⟩
    rcases List.mem_append.mp hq with hq | hq
    · exact h4.2.2.1.2.2 q hq
    · exact hL q hq
  have key := hK p l e s m args below meth c T'.heap (locs ++ L) (cells + (mRm Mc).cells) (slots + (mRm Mc).slots) Z b0 sz cA D ls h1 h2 h3 hXW h5 (by omega) (by omega) (by rw [hlen]; omega) hE
  obtain ⟨t2, a1, b1⟩ := key T' rfl St'
  refine ⟨t2, go t2 ?_, b1⟩
  have : (v'.map (xv b0 sz)).toList ++ rest.map (xv b0 sz) = (v'.toList ++ rest).map (xv b0 sz) := by cases v' <;> rfl
  rw [this]
  exact a1
theorem st_split {st : List Value} {n k : Nat} (h : ng st n = some (.ref k)) : st = (st.take n).reverse.reverse ++ .ref k :: st.drop (n + 1) ∧ (st.take n).reverse.length = n := by
  rw [ng_eq] at h
  obtain ⟨hl, hk⟩ := List.getElem?_eq_some_iff.mp h
  refine ⟨?_, by simp; omega⟩
  rw [List.reverse_reverse, ← hk, List.getElem_cons_drop, List.take_append_drop]
theorem rj_callV {i n k ci : Nat} {fs : List Value} (Mc : MD) (hq : lk (mTab M) pc = some (.invokevirtual i, nx, n, b, c, cl)) (hc : cvOk M i n Mc = true) (hk : ng st n = some (.ref k)) (hσ : σ[k]? = some (.inr (ci, fs))) (hci : (vwCl[ci]?.map (·.1)) = some (mY Mc).cls) (hrest : catSum (st.drop (n + 1)) ≤ 8) (hok : mOk Mc = true) (hAs : (lvA (.ref k :: (st.take n).reverse)).length ≤ mML Mc) (hbc : (mRm Mc).cells ≤ bc) (hbs : (mRm Mc).slots ≤ bs)
    (K : RJ Mc none (mRm Mc).cells (mRm Mc).slots 0 (lvArgs (mML Mc) (.ref k :: (st.take n).reverse)) [] σ (fun v σ' => σ'.length = σ.length + (mRm Mc).cells ∧ RJ M X (bc - (mRm Mc).cells) (bs - (mRm Mc).slots) nx lv (v.toList ++ st.drop (n + 1)) σ' Q)) : RJ M X bc bs pc lv st σ Q := by
  intro p l e s m args below meth c H locs cells slots Z b0 sz cA D ls h1 h2 h3 h4 h5 h6 h7 h8 hE
  have hkk := mOk_at h1 hq
  simp only [enOk, iLen, Bool.and_true, Bool.and_eq_true] at hkk
  obtain ⟨hd, hn9⟩ := hkk
  have hd := of_decide_eq_true hd
  have hn9 := of_decide_eq_true hn9
  subst hn9
  unfold cvOk at hc
  simp only [Bool.and_eq_true, decide_eq_true_eq] at hc
  obtain ⟨⟨⟨hc, w1⟩, w2⟩, w3⟩ := hc
  obtain ⟨w4, w5, w6, w7, w8⟩ := cOk_e hc
  obtain ⟨e1, e2⟩ := st_split hk
  have hk1 := σlt h4 hσ
  obtain ⟨q, hqc, hqn⟩ := Option.map_eq_some_iff.mp hci
  have hM := met_of (σ := σ) l b0 sz cA D (.ref k :: (st.take n).reverse) w8 hok hAs K
  have hrecv := va_recv h4.1.1 h4.2.1 hqc (xw_get hσ)
  rw [hqn, ← xa_k (b := b0) hk1] at hrecv
  refine rj_run (rest := st.drop (n + 1)) (va_runV (As := (st.take n).reverse.map (xv b0 sz)) (b := xa b0 sz k) (nL := mML M) (C := (mY Mc).cls) ⟨h2.1, h2.2.1, h2.2.2.2.1, h2.2.2.2.2.1, h2.2.2.2.2.2.1⟩ hM ⟨callB_of n h2.2.2.2.2.2.1 (xGood Mc w4) rfl rfl rfl (h2.w w5 rfl) (h2.w w1 rfl) w6 w7, h2.w w2 rfl, h2.w w3 rfl⟩ ⟨xP_blind, hrecv, fun U hU hW => ⟨rfl, xK_warm hW h4.1, by rw [hU]; exact h4.2.1, by rw [hU]; exact h4.2.2.2.1, h4.2.2.2.2.2⟩⟩ rfl (by rw [List.length_map]; exact e2) h5.1 ?_ ?_ hd ⟨by omega, by omega⟩) hbc hbs h1 h2 h3 h4 h5 h6 h7 h8 hE
  · show st.map (xv b0 sz) = _
    rw [← List.map_reverse]
    conv => lhs; rw [e1]
    rw [List.map_append]; rfl
  · rw [catSum_x]
    show 2 * 0 + _ ≤ 8
    omega
theorem st_split0 {st : List Value} {n : Nat} (h : n ≤ st.length) : st = (st.take n).reverse.reverse ++ st.drop n ∧ (st.take n).reverse.length = n := by
  refine ⟨?_, by simp; omega⟩
  rw [List.reverse_reverse, List.take_append_drop]
theorem rj_callS {i n : Nat} (Mc : MD) (hq : lk (mTab M) pc = some (.invokestatic i, nx, n, b, c, cl)) (hc : csOk M i n Mc = true) (hk : n ≤ st.length) (hrest : catSum (st.drop n) ≤ 8) (hok : mOk Mc = true) (hAs : (lvA (st.take n).reverse).length ≤ mML Mc) (hbc : (mRm Mc).cells ≤ bc) (hbs : (mRm Mc).slots ≤ bs)
    (K : RJ Mc none (mRm Mc).cells (mRm Mc).slots 0 (lvArgs (mML Mc) (st.take n).reverse) [] σ (fun v σ' => σ'.length = σ.length + (mRm Mc).cells ∧ RJ M X (bc - (mRm Mc).cells) (bs - (mRm Mc).slots) nx lv (v.toList ++ st.drop n) σ' Q)) : RJ M X bc bs pc lv st σ Q := by
  intro p l e s m args below meth c H locs cells slots Z b0 sz cA D ls h1 h2 h3 h4 h5 h6 h7 h8 hE
  have hkk := mOk_at h1 hq
  simp only [enOk, iLen, Bool.and_true, Bool.and_eq_true] at hkk
  obtain ⟨hd, hn9⟩ := hkk
  have hd := of_decide_eq_true hd
  have hn9 := of_decide_eq_true hn9
  subst hn9
  unfold csOk at hc
  simp only [Bool.and_eq_true, decide_eq_true_eq] at hc
  obtain ⟨⟨hc, w1⟩, w2⟩ := hc
  obtain ⟨w4, w5, w6, w7, w8⟩ := cOk_e hc
  obtain ⟨e1, e2⟩ := st_split0 hk
  have hM := met_of (σ := σ) l b0 sz cA D (st.take n).reverse w8 hok hAs K
  refine rj_run (rest := st.drop n) (va_runS (As := (st.take n).reverse.map (xv b0 sz)) (nL := mML M) ⟨h2.1, h2.2.1, h2.2.2.2.1, h2.2.2.2.2.1, h2.2.2.2.2.2.1⟩ hM ⟨callB_of n h2.2.2.2.2.2.1 (xGood Mc w4) rfl rfl rfl (h2.w w5 rfl) (h2.w w1 rfl) w6 w7, h2.w w2 rfl⟩ ⟨xP_blind, fun U hU hW => ⟨rfl, xK_warm hW h4.1, by rw [hU]; exact h4.2.1, by rw [hU]; exact h4.2.2.2.1, h4.2.2.2.2.2⟩⟩ rfl (by rw [List.length_map]; exact e2) h5.1 ?_ ?_ hd ⟨by omega, by omega⟩) hbc hbs h1 h2 h3 h4 h5 h6 h7 h8 hE
  · show st.map (xv b0 sz) = _
    rw [← List.map_reverse]
    conv => lhs; rw [e1]
    rw [List.map_append]
  · rw [catSum_x]
    show 2 * 0 + _ ≤ 8
    omega
theorem rj_callI {i n k : Nat} (Mc : MD) (hq : lk (mTab M) pc = some (.invokespecial i, nx, n, b, c, cl)) (hc : ciOk M i n Mc = true) (hk : ng st n = some (.ref k)) (hkk : k < 1000000) (hrest : catSum (st.drop (n + 1)) ≤ 8) (hok : mOk Mc = true) (hAs : (lvA (.ref k :: (st.take n).reverse)).length ≤ mML Mc) (hbc : (mRm Mc).cells ≤ bc) (hbs : (mRm Mc).slots ≤ bs)
    (K : RJ Mc none (mRm Mc).cells (mRm Mc).slots 0 (lvArgs (mML Mc) (.ref k :: (st.take n).reverse)) [] σ (fun v σ' => σ'.length = σ.length + (mRm Mc).cells ∧ RJ M X (bc - (mRm Mc).cells) (bs - (mRm Mc).slots) nx lv (v.toList ++ st.drop (n + 1)) σ' Q)) : RJ M X bc bs pc lv st σ Q := by
  intro p l e s m args below meth c H locs cells slots Z b0 sz cA D ls h1 h2 h3 h4 h5 h6 h7 h8 hE
  have hke := mOk_at h1 hq
  simp only [enOk, iLen, Bool.and_true, Bool.and_eq_true] at hke
  obtain ⟨hd, hn9⟩ := hke
  have hd := of_decide_eq_true hd
  have hn9 := of_decide_eq_true hn9
  subst hn9
  unfold ciOk at hc
  simp only [Bool.and_eq_true, decide_eq_true_eq] at hc
  obtain ⟨⟨⟨⟨hc, w1⟩, w2⟩, w3⟩, w9⟩ := hc
  obtain ⟨w4, w5, w6, w7, w8⟩ := cOk_e hc
  obtain ⟨e1, e2⟩ := st_split hk
  have hM := met_of (σ := σ) l b0 sz cA D (.ref k :: (st.take n).reverse) w8 hok hAs K
  refine rj_run (rest := st.drop (n + 1)) (va_runI (As := (st.take n).reverse.map (xv b0 sz)) (b := xa b0 sz k) (nL := mML M) ⟨h2.1, h2.2.1, h2.2.2.2.1, h2.2.2.2.2.1, h2.2.2.2.2.2.1⟩ hM ⟨callB_of n h2.2.2.2.2.2.1 (xGood Mc w4) (by rw [← w9]) rfl rfl (h2.w w5 rfl) (h2.w w1 rfl) w6 w7, w3, h2.w w2 rfl⟩ ⟨xP_blind, fun U hU hW => ⟨rfl, xK_warm hW h4.1, by rw [hU]; exact h4.2.1, by rw [hU]; exact h4.2.2.2.1, h4.2.2.2.2.2⟩⟩ rfl (by rw [List.length_map]; exact e2) h5.1 ?_ ?_ hd ⟨by omega, by omega⟩) hbc hbs h1 h2 h3 h4 h5 h6 h7 h8 hE
  · show st.map (xv b0 sz) = _
    rw [← List.map_reverse]
    conv => lhs; rw [e1]
    rw [List.map_append]; rfl
  · rw [catSum_x]
    show 2 * 0 + _ ≤ 8
    omega
theorem rj_callN {i n k : Nat} {host : String} (Mc : MD) (hq : lk (mTab M) pc = some (.invokespecial i, nx, n, b, c, cl)) (hc : cnOk M i n Mc host = true) (hk : ng st n = some (.ref k)) (hkk : k < 1000000) (hrest : catSum (st.drop (n + 1)) ≤ 8) (hok : mOk Mc = true) (hAs : (lvA (.ref k :: (st.take n).reverse)).length ≤ mML Mc) (hbc : (mRm Mc).cells ≤ bc) (hbs : (mRm Mc).slots ≤ bs)
    (K : RJ Mc none (mRm Mc).cells (mRm Mc).slots 0 (lvArgs (mML Mc) (.ref k :: (st.take n).reverse)) [] σ (fun v σ' => σ'.length = σ.length + (mRm Mc).cells ∧ RJ M X (bc - (mRm Mc).cells) (bs - (mRm Mc).slots) nx lv (v.toList ++ st.drop (n + 1)) σ' Q)) : RJ M X bc bs pc lv st σ Q := by
  intro p l e s m args below meth c H locs cells slots Z b0 sz cA D ls h1 h2 h3 h4 h5 h6 h7 h8 hE
  have hke := mOk_at h1 hq
  simp only [enOk, iLen, Bool.and_true, Bool.and_eq_true] at hke
  obtain ⟨hd, hn9⟩ := hke
  have hd := of_decide_eq_true hd
  have hn9 := of_decide_eq_true hn9
  subst hn9
  unfold cnOk at hc
  simp only [Bool.and_eq_true, decide_eq_true_eq] at hc
  obtain ⟨⟨⟨⟨hc, w1⟩, w2⟩, w3⟩, w9⟩ := hc
  obtain ⟨w4, w5, w6, w7, w8⟩ := cOk_e hc
  obtain ⟨e1, e2⟩ := st_split hk
  have hM := met_of (σ := σ) l b0 sz cA D (.ref k :: (st.take n).reverse) w8 hok hAs K
  refine rj_run (rest := st.drop (n + 1)) (va_runIN (As := (st.take n).reverse.map (xv b0 sz)) (b := xa b0 sz k) (nL := mML M) (host := host) ⟨h2.1, h2.2.1, h2.2.2.2.1, h2.2.2.2.2.1, h2.2.2.2.2.2.1⟩ hM ⟨va_cnB n h2.2.2.2.2.2.1 (xGood Mc w4) (by rw [← w9]) rfl rfl (h4.1.2 _ w1 rfl) (h2.w w5 rfl) w6 w7, w3, h2.w w2 rfl⟩ ⟨xP_blind, fun U hU hW => ⟨rfl, xK_warm hW h4.1, by rw [hU]; exact h4.2.1, by rw [hU]; exact h4.2.2.2.1, h4.2.2.2.2.2⟩⟩ rfl (by rw [List.length_map]; exact e2) h5.1 ?_ ?_ hd ⟨by omega, by omega⟩) hbc hbs h1 h2 h3 h4 h5 h6 h7 h8 hE
  · show st.map (xv b0 sz) = _
    rw [← List.map_reverse]
    conv => lhs; rw [e1]
    rw [List.map_append]; rfl
  · rw [catSum_x]
    show 2 * 0 + _ ≤ 8
    omega
end RjCall

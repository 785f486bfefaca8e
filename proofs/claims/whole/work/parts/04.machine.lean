/-! a judgement over virtual addresses: the machine's walk with the heap's new cells as a list -/
def ng {α : Type} : List α → Nat → Option α
  | [], _ => none
  | a :: _, 0 => some a
  | _ :: l, n + 1 => ng l n
theorem ng_eq {α : Type} (l : List α) (n : Nat) : ng l n = l[n]? := by
  induction l generalizing n with
  | nil => simp [ng]
  | cons a l ih => cases n with
    | zero => simp [ng]
    | succ n => simp [ng, ih]
def lk : List (Nat × En) → Nat → Option En
  | [], _ => none
  | q :: l, n => if q.1 = n then some q.2 else lk l n
theorem lk_mem {t : List (Nat × En)} {n : Nat} {E : En} (h : lk t n = some E) : (n, E) ∈ t := by
  induction t with
  | nil => cases h
  | cons q l ih =>
    unfold lk at h
    by_cases hq : q.1 = n
    · rw [if_pos hq] at h
      cases h
      subst hq
      exact List.mem_cons_self
    · rw [if_neg hq] at h
      exact List.mem_cons_of_mem _ (ih h)
abbrev mY (M : MD) : MethodName := M.1
abbrev mCode (M : MD) : ByteArray := M.2.1
abbrev mML (M : MD) : Nat := M.2.2.1
abbrev mRet (M : MD) : Option FieldType := M.2.2.2.1
abbrev mRm (M : MD) : Room := M.2.2.2.2.1
abbrev mTab (M : MD) : List (Nat × En) := M.2.2.2.2.2
/-- real addresses of virtual ones -/
def xa (b sz k : Nat) : Nat := if k = 1000000 then b else sz + k
def xv (b sz : Nat) : Value → Value
  | .ref k => .ref (xa b sz k)
  | v => v
theorem xv_cat (b sz : Nat) (v : Value) : (xv b sz v).category = v.category := by cases v <;> rfl
abbrev vR : Type := (Nat → Int32) ⊕ (Nat → Int64) ⊕ (Nat → UInt32) ⊕ (Nat → UInt64) ⊕ (Nat → Option Nat)
def xr (b sz : Nat) : vR → vR
  | .inr (.inr (.inr (.inr f))) => .inr (.inr (.inr (.inr (fun j => (f j).map (xa b sz)))))
  | x => x
def xe (b sz : Nat) (cA : Nat → ClassId) : va_E → va_E
  | .inl (t, n, r) => .inl (cA t, n, xr b sz r)
  | .inr (ci, fs) => .inr (ci, fs.map (xv b sz))
def xw (b sz : Nat) (cA : Nat → ClassId) (σ : List va_E) : va_W := σ.mapIdx (fun k e => (sz + k, xe b sz cA e))
theorem xw_get {b sz : Nat} {cA : Nat → ClassId} {σ : List va_E} {k : Nat} {e : va_E} (h : σ[k]? = some e) : (xw b sz cA σ)[k]? = some (sz + k, xe b sz cA e) := by
  simp [xw, List.getElem?_mapIdx, h]
theorem xw_set {b sz : Nat} {cA : Nat → ClassId} (σ : List va_E) (k : Nat) (e : va_E) : (xw b sz cA σ).set k (sz + k, xe b sz cA e) = xw b sz cA (σ.set k e) := by
  unfold xw
  apply List.ext_getElem?
  intro i
  simp only [List.getElem?_mapIdx, List.getElem?_set, List.length_mapIdx]
  by_cases hik : k = i
  · subst hik
    by_cases hl : k < σ.length <;> simp [hl]
  · simp [hik]
theorem xw_push {b sz : Nat} {cA : Nat → ClassId} (σ : List va_E) (e : va_E) : xw b sz cA (σ ++ [e]) = xw b sz cA σ ++ [(sz + σ.length, xe b sz cA e)] := by
  simp [xw, List.mapIdx_append]
theorem xw_D {b sz : Nat} {cA : Nat → ClassId} (σ : List va_E) : va_D (fun q => sz ≤ q) (xw b sz cA σ) := by
  have key : ∀ (k : Nat) (q : Nat × va_E), (xw b sz cA σ)[k]? = some q → q.1 = sz + k := by
    intro k q h
    simp only [xw, List.getElem?_mapIdx, Option.map_eq_some_iff] at h
    obtain ⟨e, -, rfl⟩ := h
    rfl
  refine ⟨fun i j p q hi hj h => ?_, fun k q h => ?_⟩
  · rw [key i p hi, key j q hj] at h
    omega
  · rw [key k q h]
    exact Nat.le_add_right _ _
theorem xw_len {b sz : Nat} {cA : Nat → ClassId} (σ : List va_E) : (xw b sz cA σ).length = σ.length := by simp [xw]
abbrev xT (cA : Nat → ClassId) : List (ClassId × FieldType) := [(cA 0, .int), (cA 1, .long), (cA 2, .object "SpeltRoutes$Expression")]
def isNest : Jvm.Cond → Bool
  | .methodLinkNest _ _ _ _ => true
  | .arrayOver (.object _) => true
  | _ => false
/-- the words of nest mates: not among the good ones, so they go along with the world -/
def xN (U : State) : Prop := ∀ w ∈ lw_tbl, isNest w = true → va_Nw w U
theorem xN_warm {s U : State} (hW : s.WarmedH U.vm) (h : xN s) : xN U := by
  intro w hw hn
  have h1 := h w hw hn
  cases w with
  | methodLinkNest a i x hh => exact va_Nw.warmM hW h1
  | arrayOver ty => cases ty with
    | object C => exact va_AO.moved hW.alike h1
    | _ => cases hn
  | _ => cases hn
/-- the words that go along with every contract -/
def xTbl : List Jvm.Cond := lw_tbl.filter goodWord
/-- a method's words -/
abbrev mWs (M : MD) : List Jvm.Cond := .code (mY M) (mCode M) (mML M) (mRet M) :: xTbl
/-- what is known of the classes -/
def xK (D : va_G) (cA : Nat → ClassId) (U : State) : Prop := va_K D vwCl (xT cA) U ∧ xN U
/-- the world: the classes, the cells, what has changed, where the heap ends -/
def XW (b sz : Nat) (cA : Nat → ClassId) (D : va_G) (σ : List va_E) (s : State) (H : Heap) (locs : List Loc) : Prop :=
  xK D cA s ∧ va_P D vwCl (xw b sz cA σ) H ∧ va_S (fun q => sz ≤ q) s.heap H locs ∧ H.size = sz + σ.length ∧ sz ≤ s.heap.size ∧ σ.length ≤ 1000000
/-- locals by their places -/
def hasL (b sz : Nat) (ls : Array Slot) (nL : Nat) (lv : List (Option Value)) : Prop :=
  ls.size = nL ∧ lv.length = nL ∧ lv_wf ls ∧ ∀ (k : Nat) (v : Value), lv[k]? = some (some v) → ls[k]? = some (.val (xv b sz v))
def hasK (b sz : Nat) (nL : Nat) (lv : List (Option Value)) : List (Nat × Value) :=
  (List.range nL).filterMap (fun k => (lv.getD k none).map (fun v => (k, xv b sz v)))
theorem hasL.kit {b sz : Nat} {ls : Array Slot} {nL : Nat} {lv : List (Option Value)} (h : hasL b sz ls nL lv) : lv_has ls nL (hasK b sz nL lv) := by
  refine ⟨h.1, h.2.2.1, fun q hq => ?_⟩
  obtain ⟨k, hk, hk2⟩ := List.mem_filterMap.mp hq
  cases hv : lv.getD k none with
  | none => rw [hv] at hk2; cases hk2
  | some v =>
    rw [hv] at hk2
    cases hk2
    refine h.2.2.2 k v ?_
    rw [List.getD_eq_getElem?_getD] at hv
    cases hg : lv[k]? with
    | none => rw [hg] at hv; cases hv
    | some w => rw [hg] at hv; exact congrArg some hv
theorem hasK_mem {b sz nL : Nat} {lv : List (Option Value)} (hl : lv.length = nL) {k : Nat} {v : Value} (h : lv[k]? = some (some v)) : (k, xv b sz v) ∈ hasK b sz nL lv := by
  refine List.mem_filterMap.mpr ⟨k, List.mem_range.mpr ?_, ?_⟩
  · rw [← hl]; exact (List.getElem?_eq_some_iff.mp h).1
  · rw [List.getD_eq_getElem?_getD, h]; rfl
/-- the place below isn't a value of two slots -/
def okSet (lv : List (Option Value)) : Nat → Bool
  | 0 => true
  | j + 1 => match ng lv j with
    | some (some (.long _)) => false
    | some (some (.double _)) => false
    | _ => true
theorem okSet_cat {lv : List (Option Value)} {j : Nat} {v : Value} (h : okSet lv (j + 1) = true) (hv : lv[j]? = some (some v)) : v.category ≠ 2 := by
  simp only [okSet, ng_eq, hv] at h
  cases v <;> simp_all [Value.category]
theorem hasL.set1 {b sz : Nat} {ls ls' : Array Slot} {nL i : Nat} {lv : List (Option Value)} {v : Value} (h : hasL b sz ls nL lv) (hi : i < nL) (ho : okSet lv i = true)
    (h' : lv_has ls' nL ((i, xv b sz v) :: (hasK b sz nL lv).filter (fun q => !(q.1 == i) && !(q.1 + 1 == i && q.2.category == 2)))) : hasL b sz ls' nL (lv.set i (some v)) := by
  refine ⟨h'.1, by rw [List.length_set]; exact h.2.1, h'.2.1, fun k w hk => ?_⟩
  rw [List.getElem?_set] at hk
  by_cases hik : i = k
  · subst hik
    rw [if_pos rfl, if_pos (by rw [h.2.1]; exact hi)] at hk
    cases hk
    exact h'.2.2 _ List.mem_cons_self
  · rw [if_neg hik] at hk
    refine h'.2.2 (k, xv b sz w) (List.mem_cons_of_mem _ (List.mem_filter.mpr ⟨hasK_mem h.2.1 hk, ?_⟩))
    have h1 : ¬ (k = i) := fun e => hik e.symm
    simp only [Bool.and_eq_true, Bool.not_eq_true', beq_eq_false_iff_ne, ne_eq, Bool.and_eq_false_iff, xv_cat]
    refine ⟨h1, ?_⟩
    by_cases hk1 : k + 1 = i
    · right
      subst hk1
      exact okSet_cat ho hk
    · left; exact hk1
theorem hasL.set2 {b sz : Nat} {ls ls' : Array Slot} {nL i : Nat} {lv : List (Option Value)} {v : Value} (h : hasL b sz ls nL lv) (hi : i + 1 < nL) (ho : okSet lv i = true)
    (h' : lv_has ls' nL ((i, xv b sz v) :: (hasK b sz nL lv).filter (fun q => !(q.1 == i) && (!(q.1 == i + 1) && !(q.1 + 1 == i && q.2.category == 2))))) : hasL b sz ls' nL ((lv.set i (some v)).set (i + 1) none) := by
  refine ⟨h'.1, by rw [List.length_set, List.length_set]; exact h.2.1, h'.2.1, fun k w hk => ?_⟩
  rw [List.getElem?_set] at hk
  by_cases hik1 : i + 1 = k
  · subst hik1
    rw [if_pos rfl] at hk
    split at hk
    · cases hk
    · cases hk
  · rw [if_neg hik1, List.getElem?_set] at hk
    by_cases hik : i = k
    · subst hik
      rw [if_pos rfl, if_pos (by rw [h.2.1]; omega)] at hk
      cases hk
      exact h'.2.2 _ List.mem_cons_self
    · rw [if_neg hik] at hk
      refine h'.2.2 (k, xv b sz w) (List.mem_cons_of_mem _ (List.mem_filter.mpr ⟨hasK_mem h.2.1 hk, ?_⟩))
      have h1 : ¬ (k = i) := fun e => hik e.symm
      have h2 : ¬ (k = i + 1) := fun e => hik1 e.symm
      simp only [Bool.and_eq_true, Bool.not_eq_true', beq_eq_false_iff_ne, ne_eq, Bool.and_eq_false_iff, xv_cat]
      refine ⟨h1, h2, ?_⟩
      by_cases hk1 : k + 1 = i
      · right
        subst hk1
        exact okSet_cat ho hk
      · left; exact hk1
/-- the length of an instruction that is used here -/
def iLen : Instr → Nat
  | .iload _ | .aload _ | .lload _ | .istore _ | .astore _ | .lstore _ | .bipush _ | .ldc _ | .newarray _ => 2
  | .sipush _ | .ldc_w _ | .ldc2_w _ | .iinc _ _ | .goto _ | .ifCond _ _ | .if_icmp _ _ | .getfield _ | .putfield _ | .invokevirtual _ | .invokestatic _ | .invokespecial _ | .new _ | .anewarray _ => 3
  | _ => 1
def flOk (own : String) (idx a b : Nat) : Bool := match vwCl[a]? with
  | some (C, T, N) => decide (b < N) && decide ((T b).1 = C) && decide (Jvm.Cond.fieldLink own idx C (T b).2.1 (T b).2.2.1 ∈ lw_tbl)
  | none => false
def enOk (M : MD) (pc : Nat) : En → Bool
  | (.tableswitch d lo hi os, nx, _, ln, _, _) => decide (decode (mCode M) pc = .ok (.tableswitch d lo hi os, ln))
  | (.lookupswitch d ps, nx, _, ln, _, _) => decide (decode (mCode M) pc = .ok (.lookupswitch d ps, ln)) && (ps.toList.zip (ps.toList.drop 1)).all (fun (a, next) => a.1 < next.1)
  | (i, nx, a, b, c, cl) => decide (decode (mCode M) pc = .ok (i, iLen i)) && (match i with
    | .goto off => decide ((pc : Int) + off = (nx : Int))
    | .ifCond _ off => decide ((pc : Int) + off = (a : Int)) && decide (nx = pc + 3)
    | .if_icmp _ off => decide ((pc : Int) + off = (a : Int)) && decide (nx = pc + 3)
    | _ => decide (nx = pc + iLen i)) && (match i with
    | .iconst n => decide (Int32.ofInt n = c)
    | .bipush n => decide ((Int8.ofInt n).toInt32 = c)
    | .sipush n => decide ((Int16.ofInt n).toInt32 = c)
    | .lconst n => decide (Int64.ofNat (n : Nat) = cl)
    | .ldc k => decide (Jvm.Cond.constant (mY M).cls k c ∈ lw_tbl)
    | .ldc_w k => decide (Jvm.Cond.constant (mY M).cls k c ∈ lw_tbl)
    | .ldc2_w k => decide (Jvm.Cond.constantLong (mY M).cls k cl ∈ lw_tbl)
    | .iload k => decide (k = a)
    | .aload k => decide (k = a)
    | .lload k => decide (k = a)
    | .iload_n k => decide ((k : Nat) = a)
    | .aload_n k => decide ((k : Nat) = a)
    | .lload_n k => decide ((k : Nat) = a)
    | .istore k => decide (k = a) && decide (a < mML M)
    | .astore k => decide (k = a) && decide (a < mML M)
    | .lstore k => decide (k = a) && decide (a + 1 < mML M)
    | .istore_n k => decide ((k : Nat) = a) && decide (a < mML M)
    | .astore_n k => decide ((k : Nat) = a) && decide (a < mML M)
    | .lstore_n k => decide ((k : Nat) = a) && decide (a + 1 < mML M)
    | .iinc k n => decide (k = a) && decide (a < mML M) && decide (Int32.ofInt n = c)
    | .getfield k => flOk (mY M).cls k a b
    | .putfield k => flOk (mY M).cls k a b
    | _ => true)
def mOk (M : MD) : Bool := (mTab M).all (fun q => enOk M q.1 q.2)
theorem mOk_at {M : MD} (h : mOk M = true) {pc : Nat} {E : En} (hl : lk (mTab M) pc = some E) : enOk M pc E = true := List.all_eq_true.mp h (pc, E) (lk_mem hl)
theorem xTbl_in {args : Array Value} {s : State} (h : ∀ w ∈ lw_tbl, w.before args s = true) : ∀ w ∈ xTbl, w.before args s = true := fun w hw => h w (List.mem_filter.mp hw).1
/-- what holds inside a method -/
def XC (p : Program) (s : State) (m : MethodId) (args : Array Value) (meth : Method) (c : Code) (M : MD) : Prop :=
  p.tables.exec = Jvm.exec ∧ c.code = mCode M ∧ meth.sig.returnType = mRet M ∧ c.maxLocals = mML M ∧ s.vm.findClass (mY M).cls = some m.cls ∧ (∀ w ∈ xTbl, w.before args s = true) ∧ meth.locks = false ∧ meth.name = (mY M).name
/-- the script, where there is one -/
def XX (X : Option (Nat × (Nat → Int32))) (b sz : Nat) (s : State) : Prop := match X with
  | none => True
  | some (L, xs) => va_X b L xs s s.heap ∧ b < s.heap.size ∧ b < sz
/-- an instruction that returns this value -/
def mRetAt (M : MD) (pc : Nat) : Option Value → Prop
  | none => decode (mCode M) pc = .ok (.return_, 1) ∧ mRet M = none
  | some (.int x) => decode (mCode M) pc = .ok (.ireturn, 1) ∧ ∃ ty, mRet M = some ty ∧ narrow ty (.int x) = .int x
  | some (.long _) => decode (mCode M) pc = .ok (.lreturn, 1) ∧ mRet M = some .long
  | _ => False
/-- THE JUDGEMENT: from here, with these locals, this stack, these cells, method M comes to its end with Q; bc cells of bs slots may still be made -/
def RJ (M : MD) (X : Option (Nat × (Nat → Int32))) (bc bs pc : Nat) (lv : List (Option Value)) (st : List Value) (σ : List va_E) (Q : Option Value → List va_E → Prop) : Prop :=
  ∀ (p : Program) (l : Launch) (e : Env) (s : State) (m : MethodId) (args : Array Value) (below : List Frame) (meth : Method) (c : Code) (H : Heap) (locs : List Loc) (cells slots : Nat) (Z : State → Prop) (b sz : Nat) (cA : Nat → ClassId) (D : va_G) (ls : Array Slot),
    mOk M = true → XC p s m args meth c M → XX X b sz s → XW b sz cA D σ s H locs → hasL b sz ls (mML M) lv → cells + bc = (mRm M).cells → slots + bs = (mRm M).slots → s.heap.size + cells = sz + σ.length →
    (∀ (v : Option Value) (σ' : List va_E) (H' : Heap) (locs' : List Loc) (pc' : Nat) (ls' : Array Slot), Q v σ' → XW b sz cA D σ' s H' locs' → mRetAt M pc' v →
      W p l e (mRm M) s m args below meth c H' locs' (mRm M).cells (mRm M).slots Z (F0 m pc' ls' (v.toList.map (xv b sz)))) →
    W p l e (mRm M) s m args below meth c H locs cells slots Z (F0 m pc ls (st.map (xv b sz)))
theorem RJ.mono {M : MD} {X : Option (Nat × (Nat → Int32))} {bc bs pc : Nat} {lv : List (Option Value)} {st : List Value} {σ : List va_E} {Q Q' : Option Value → List va_E → Prop} (hQ : ∀ v σ', Q v σ' → Q' v σ') (h : RJ M X bc bs pc lv st σ Q) : RJ M X bc bs pc lv st σ Q' :=
  fun p l e s m args below meth c H locs cells slots Z b sz cA D ls h1 h2 h3 h4 h5 h6 h7 h8 hE => h p l e s m args below meth c H locs cells slots Z b sz cA D ls h1 h2 h3 h4 h5 h6 h7 h8 (fun v σ' H' locs' pc' ls' hq => hE v σ' H' locs' pc' ls' (hQ v σ' hq))

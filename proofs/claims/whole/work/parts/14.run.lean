/-! runs: several computed steps at once, fields of known cells among them -/
def refF (τ : Ty) (k q : Nat) : Value := match Nat.decEq k 38 with
  | isFalse _ => .ref q
  | isTrue _ => .ref (swp τ k q)
theorem refF_eq (τ : Ty) (k q : Nat) : refF τ k q = .ref (swp τ k q) := by
  unfold refF
  split
  · rename_i h _; unfold swp; rw [if_neg h]
  · rfl
def s2_iadd (lv : List (Option Value)) : List Value → oP
  | .int y :: .int x :: st => some (lv, .int (x + y) :: st)
  | _ => none
def s2_isub (lv : List (Option Value)) : List Value → oP
  | .int y :: .int x :: st => some (lv, .int (x - y) :: st)
  | _ => none
def s2_imul (lv : List (Option Value)) : List Value → oP
  | .int y :: .int x :: st => some (lv, .int (x * y) :: st)
  | _ => none
def s2_iand (lv : List (Option Value)) : List Value → oP
  | .int y :: .int x :: st => some (lv, .int (x &&& y) :: st)
  | _ => none
def s2_ior (lv : List (Option Value)) : List Value → oP
  | .int y :: .int x :: st => some (lv, .int (x ||| y) :: st)
  | _ => none
def s2_ixor (lv : List (Option Value)) : List Value → oP
  | .int y :: .int x :: st => some (lv, .int (x ^^^ y) :: st)
  | _ => none
def s2_ishl (lv : List (Option Value)) : List Value → oP
  | .int y :: .int x :: st => some (lv, .int (x <<< (y &&& 31)) :: st)
  | _ => none
def s2_ishr (lv : List (Option Value)) : List Value → oP
  | .int y :: .int x :: st => some (lv, .int (x >>> (y &&& 31)) :: st)
  | _ => none
def s2_iushr (lv : List (Option Value)) : List Value → oP
  | .int y :: .int x :: st => some (lv, .int ((x.toUInt32 >>> (y.toUInt32 &&& Int32.toUInt32 31)).toInt32) :: st)
  | _ => none
def s2_ladd (lv : List (Option Value)) : List Value → oP
  | .long y :: .long x :: st => some (lv, .long (x + y) :: st)
  | _ => none
def s2_lmul (lv : List (Option Value)) : List Value → oP
  | .long y :: .long x :: st => some (lv, .long (x * y) :: st)
  | _ => none
def s2_lor (lv : List (Option Value)) : List Value → oP
  | .long y :: .long x :: st => some (lv, .long (x ||| y) :: st)
  | _ => none
def s2_lushr (lv : List (Option Value)) : List Value → oP
  | .int y :: .long x :: st => some (lv, .long ((x.toUInt64 >>> (y.toInt64.toUInt64 &&& Int64.toUInt64 63)).toInt64) :: st)
  | _ => none
def s2_lshl (lv : List (Option Value)) : List Value → oP
  | .int y :: .long x :: st => some (lv, .long (x <<< (y.toInt64 &&& 63)) :: st)
  | _ => none
/-- the step without functions in its values -/
def stp2 (i : Instr) (a : Nat) (c : Int32) (cl : Int64) (lv : List (Option Value)) (st : List Value) : oP := match i with
  | .iadd => s2_iadd lv st
  | .isub => s2_isub lv st
  | .imul => s2_imul lv st
  | .iand => s2_iand lv st
  | .ior => s2_ior lv st
  | .ixor => s2_ixor lv st
  | .ishl => s2_ishl lv st
  | .ishr => s2_ishr lv st
  | .iushr => s2_iushr lv st
  | .ladd => s2_ladd lv st
  | .lmul => s2_lmul lv st
  | .lor => s2_lor lv st
  | .lushr => s2_lushr lv st
  | .lshl => s2_lshl lv st
  | i => stp i a c cl lv st
theorem s2_iadd_e (lv : List (Option Value)) (st : List Value) (a : Nat) (c : Int32) (cl : Int64) : s2_iadd lv st = stp .iadd a c cl lv st := by
  show _ = st_ii lv _ st
  unfold s2_iadd st_ii
  split
  · rfl
  · rename_i h
    split
    · exact absurd rfl (h _ _ _)
    · rfl
theorem s2_isub_e (lv : List (Option Value)) (st : List Value) (a : Nat) (c : Int32) (cl : Int64) : s2_isub lv st = stp .isub a c cl lv st := by
  show _ = st_ii lv _ st
  unfold s2_isub st_ii
  split
  · rfl
  · rename_i h
    split
    · exact absurd rfl (h _ _ _)
    · rfl
theorem s2_imul_e (lv : List (Option Value)) (st : List Value) (a : Nat) (c : Int32) (cl : Int64) : s2_imul lv st = stp .imul a c cl lv st := by
  show _ = st_ii lv _ st
  unfold s2_imul st_ii
  split
  · rfl
  · rename_i h
    split
    · exact absurd rfl (h _ _ _)
    · rfl
theorem s2_iand_e (lv : List (Option Value)) (st : List Value) (a : Nat) (c : Int32) (cl : Int64) : s2_iand lv st = stp .iand a c cl lv st := by
  show _ = st_ii lv _ st
  unfold s2_iand st_ii
  split
  · rfl
  · rename_i h
    split
    · exact absurd rfl (h _ _ _)
    · rfl
theorem s2_ior_e (lv : List (Option Value)) (st : List Value) (a : Nat) (c : Int32) (cl : Int64) : s2_ior lv st = stp .ior a c cl lv st := by
  show _ = st_ii lv _ st
  unfold s2_ior st_ii
  split
  · rfl
  · rename_i h
    split
    · exact absurd rfl (h _ _ _)
    · rfl
theorem s2_ixor_e (lv : List (Option Value)) (st : List Value) (a : Nat) (c : Int32) (cl : Int64) : s2_ixor lv st = stp .ixor a c cl lv st := by
  show _ = st_ii lv _ st
  unfold s2_ixor st_ii
  split
  · rfl
  · rename_i h
    split
    · exact absurd rfl (h _ _ _)
    · rfl
theorem s2_ishl_e (lv : List (Option Value)) (st : List Value) (a : Nat) (c : Int32) (cl : Int64) : s2_ishl lv st = stp .ishl a c cl lv st := by
  show _ = st_ii lv _ st
  unfold s2_ishl st_ii
  split
  · rfl
  · rename_i h
    split
    · exact absurd rfl (h _ _ _)
    · rfl
theorem s2_ishr_e (lv : List (Option Value)) (st : List Value) (a : Nat) (c : Int32) (cl : Int64) : s2_ishr lv st = stp .ishr a c cl lv st := by
  show _ = st_ii lv _ st
  unfold s2_ishr st_ii
  split
  · rfl
  · rename_i h
    split
    · exact absurd rfl (h _ _ _)
    · rfl
theorem s2_iushr_e (lv : List (Option Value)) (st : List Value) (a : Nat) (c : Int32) (cl : Int64) : s2_iushr lv st = stp .iushr a c cl lv st := by
  show _ = st_ii lv _ st
  unfold s2_iushr st_ii
  split
  · rfl
  · rename_i h
    split
    · exact absurd rfl (h _ _ _)
    · rfl
theorem s2_ladd_e (lv : List (Option Value)) (st : List Value) (a : Nat) (c : Int32) (cl : Int64) : s2_ladd lv st = stp .ladd a c cl lv st := by
  show _ = st_jj lv _ st
  unfold s2_ladd st_jj
  split
  · rfl
  · rename_i h
    split
    · exact absurd rfl (h _ _ _)
    · rfl
theorem s2_lmul_e (lv : List (Option Value)) (st : List Value) (a : Nat) (c : Int32) (cl : Int64) : s2_lmul lv st = stp .lmul a c cl lv st := by
  show _ = st_jj lv _ st
  unfold s2_lmul st_jj
  split
  · rfl
  · rename_i h
    split
    · exact absurd rfl (h _ _ _)
    · rfl
theorem s2_lor_e (lv : List (Option Value)) (st : List Value) (a : Nat) (c : Int32) (cl : Int64) : s2_lor lv st = stp .lor a c cl lv st := by
  show _ = st_jj lv _ st
  unfold s2_lor st_jj
  split
  · rfl
  · rename_i h
    split
    · exact absurd rfl (h _ _ _)
    · rfl
theorem s2_lushr_e (lv : List (Option Value)) (st : List Value) (a : Nat) (c : Int32) (cl : Int64) : s2_lushr lv st = stp .lushr a c cl lv st := by
  show _ = st_ij lv _ st
  unfold s2_lushr st_ij
  split
  · rfl
  · rename_i h
    split
    · exact absurd rfl (h _ _ _)
    · rfl
theorem s2_lshl_e (lv : List (Option Value)) (st : List Value) (a : Nat) (c : Int32) (cl : Int64) : s2_lshl lv st = stp .lshl a c cl lv st := by
  show _ = st_ij lv _ st
  unfold s2_lshl st_ij
  split
  · rfl
  · rename_i h
    split
    · exact absurd rfl (h _ _ _)
    · rfl
theorem stp2_eq (i : Instr) (a : Nat) (c : Int32) (cl : Int64) (lv : List (Option Value)) (st : List Value) : stp2 i a c cl lv st = stp i a c cl lv st := by
  unfold stp2
  split
  · exact s2_iadd_e lv st a c cl
  · exact s2_isub_e lv st a c cl
  · exact s2_imul_e lv st a c cl
  · exact s2_iand_e lv st a c cl
  · exact s2_ior_e lv st a c cl
  · exact s2_ixor_e lv st a c cl
  · exact s2_ishl_e lv st a c cl
  · exact s2_ishr_e lv st a c cl
  · exact s2_iushr_e lv st a c cl
  · exact s2_ladd_e lv st a c cl
  · exact s2_lmul_e lv st a c cl
  · exact s2_lor_e lv st a c cl
  · exact s2_lushr_e lv st a c cl
  · exact s2_lshl_e lv st a c cl
  · rfl
abbrev oT : Type := Option (List (Option Value) × List Value × Ty)
def st_get (τ : Ty) (a b : Nat) (lv : List (Option Value)) : List Value → oT
  | .ref k :: r => match fK k a b with
    | some none => some (lv, .int (gF τ k b) :: r, τ)
    | some (some q) => some (lv, refF τ k q :: r, τ)
    | none => none
  | _ => none
def st_put (τ : Ty) (a b : Nat) (lv : List (Option Value)) : List Value → oT
  | .int x :: .ref k :: r => match pI a b with
    | true => match fK k a b with
      | some none => some (lv, r, sF τ k b x)
      | _ => none
    | false => none
  | _ => none
def st_pure (τ : Ty) : oP → oT
  | some (lv, st) => some (lv, st, τ)
  | none => none
def stpT (i : Instr) (a b : Nat) (c : Int32) (cl : Int64) (lv : List (Option Value)) (st : List Value) (τ : Ty) : oT := match i with
  | .getfield _ => st_get τ a b lv st
  | .putfield _ => st_put τ a b lv st
  | i => st_pure τ (stp2 i a c cl lv st)
def runT (t : List (Nat × En)) : Nat → Nat → List (Option Value) → List Value → Ty → Option (Nat × List (Option Value) × List Value × Ty)
  | 0, pc, lv, st, τ => some (pc, lv, st, τ)
  | n + 1, pc, lv, st, τ => match lk t pc with
    | some (i, nx, a, b, c, cl) => match stpT i a b c cl lv st τ with
      | some (lv', st', τ') => runT t n nx lv' st' τ'
      | none => none
    | none => none
section RtRun
variable {M : MD} {X : Option (Nat × (Nat → Int32))} {pc nx a b : Nat} {c : Int32} {cl : Int64} {lv lv' : List (Option Value)} {st st' : List Value} {τ τ' : Ty} {Q : Option Value → Ty → Prop}
theorem st_pure_e {o : oP} (h : st_pure τ o = some (lv', st', τ')) : o = some (lv', st') ∧ τ' = τ := by
  unfold st_pure at h
  split at h
  · cases h; exact ⟨rfl, rfl⟩
  · cases h
theorem stpT_pure {i : Instr} (h1 : ∀ j, i ≠ .getfield j) (h2 : ∀ j, i ≠ .putfield j) : stpT i a b c cl lv st τ = st_pure τ (stp2 i a c cl lv st) := by
  unfold stpT
  split
  · exact absurd rfl (h1 _)
  · exact absurd rfl (h2 _)
  · rfl
theorem rt_stepT {i : Instr} (hq : lk (mTab M) pc = some (i, nx, a, b, c, cl)) (hs : stpT i a b c cl lv st τ = some (lv', st', τ')) (K : RT M X nx lv' st' τ' Q) : RT M X pc lv st τ Q := by
  by_cases g1 : ∃ j, i = .getfield j
  · obtain ⟨j, rfl⟩ := g1
    have hs : st_get τ a b lv st = some (lv', st', τ') := hs
    unfold st_get at hs
    split at hs
    · split at hs
      · rename_i hf; cases hs; exact rt_getI hq hf K
      · rename_i hf; cases hs; rw [refF_eq] at K; exact rt_getR hq hf K
      · cases hs
    · cases hs
  · by_cases g2 : ∃ j, i = .putfield j
    · obtain ⟨j, rfl⟩ := g2
      have hs : st_put τ a b lv st = some (lv', st', τ') := hs
      unfold st_put at hs
      split at hs
      · split at hs
        · rename_i hp
          split at hs
          · rename_i hf; cases hs; exact rt_putI hq hf hp K
          · cases hs
        · cases hs
      · cases hs
    · rw [stpT_pure (fun j h => g1 ⟨j, h⟩) (fun j h => g2 ⟨j, h⟩)] at hs
      obtain ⟨h1, e2⟩ := st_pure_e hs
      subst e2
      rw [stp2_eq] at h1
      exact rt_pure hq h1 K
theorem rt_run (n : Nat) {pc' : Nat} (h : runT (mTab M) n pc lv st τ = some (pc', lv', st', τ')) (K : RT M X pc' lv' st' τ' Q) : RT M X pc lv st τ Q := by
  induction n generalizing pc lv st τ with
  | zero => cases h; exact K
  | succ n ih =>
    unfold runT at h
    split at h
    · rename_i i nx a b c cl hq
      split at h
      · rename_i hs
        exact rt_stepT hq hs (ih h)
      · cases h
    · cases h
theorem rt_getQ {i k r : Nat} (hq : lk (mTab M) pc = some (.getfield i, nx, a, b, c, cl)) (hf : fK k a b = some (some r)) (hk : k ≠ 38) (K : RT M X nx lv (.ref r :: st) τ Q) : RT M X pc lv (.ref k :: st) τ Q := by
  refine rt_getR hq hf ?_
  unfold swp
  rw [if_neg hk]
  exact K
end RtRun
/-- the cells that are Expressions, Steps, Tables -/
def isE (k : Nat) : Prop := k = 23 ∨ k = 51 ∨ k = 54 ∨ k = 57 ∨ k = 60
def isS (k : Nat) : Prop := k = 5 ∨ k = 10 ∨ k = 15
def isT (k : Nat) : Prop := k = 39 ∨ k = 46
theorem isE_f {k : Nat} (h : isE k) : fK k 2 0 = some (some (k + 1)) ∧ fK k 2 1 = some (some (k + 2)) ∧ fK k 2 2 = some none ∧ fK k 2 3 = some none ∧ fK k 2 4 = some none ∧ aI (k + 1) = some 25 ∧ aI (k + 2) = some 8 ∧ k ≠ 38 := by
  rcases h with rfl | rfl | rfl | rfl | rfl <;> refine ⟨rfl, rfl, rfl, rfl, rfl, rfl, rfl, by decide⟩
theorem isS_f {k : Nat} (h : isS k) : fK k 7 0 = some (some (k + 1)) ∧ fK k 7 1 = some (some (k + 2)) ∧ fK k 7 2 = some (some (k + 3)) ∧ fK k 7 3 = some (some (k + 4)) ∧ fK k 7 4 = some none ∧ aI (k + 1) = some 60 ∧ aI (k + 2) = some 60 ∧ aI (k + 3) = some 60 ∧ aI (k + 4) = some 60 ∧ k ≠ 38 := by
  rcases h with rfl | rfl | rfl <;> refine ⟨rfl, rfl, rfl, rfl, rfl, rfl, rfl, rfl, rfl, by decide⟩
theorem isT_f {k : Nat} (h : isT k) : fK k 8 0 = some (some (k + 1)) ∧ fK k 8 1 = some (some (k + 2)) ∧ fK k 8 2 = some none ∧ fK k 8 3 = some none ∧ aL (k + 1) = some 400 ∧ aI (k + 2) = some 1024 ∧ k ≠ 38 := by
  rcases h with rfl | rfl <;> refine ⟨rfl, rfl, rfl, rfl, rfl, rfl, by decide⟩

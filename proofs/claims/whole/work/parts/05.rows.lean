/-! rows of the judgement: the instructions that touch no cell, by one computed step -/
section RjPure
variable {M : MD} {X : Option (Nat × (Nat → Int32))} {bc bs pc nx : Nat} {lv lv' : List (Option Value)} {st st' : List Value} {σ : List va_E} {Q : Option Value → List va_E → Prop}
theorem rj_of (h : ∀ (p : Program) (l : Launch) (e : Env) (s : State) (m : MethodId) (args : Array Value) (below : List Frame) (meth : Method) (c : Code) (H : Heap) (locs : List Loc) (cells slots : Nat) (Z : State → Prop) (b sz : Nat) (ls : Array Slot), mOk M = true → XC p s m args meth c M → hasL b sz ls (mML M) lv →
      (∀ ls', hasL b sz ls' (mML M) lv' → W p l e (mRm M) s m args below meth c H locs cells slots Z (F0 m nx ls' (st'.map (xv b sz)))) → W p l e (mRm M) s m args below meth c H locs cells slots Z (F0 m pc ls (st.map (xv b sz))))
    (k : RJ M X bc bs nx lv' st' σ Q) : RJ M X bc bs pc lv st σ Q :=
  fun p l e s m args below meth c H locs cells slots Z b sz cA D ls h1 h2 h3 h4 h5 h6 h7 h8 hE => h p l e s m args below meth c H locs cells slots Z b sz ls h1 h2 h5 (fun ls' hl => k p l e s m args below meth c H locs cells slots Z b sz cA D ls' h1 h2 h3 h4 hl h6 h7 h8 hE)
end RjPure
abbrev oP : Type := Option (List (Option Value) × List Value)
def st_li (lv : List (Option Value)) (st : List Value) (a : Nat) : oP := match ng lv a with
  | some (some (.int x)) => some (lv, .int x :: st)
  | _ => none
def st_ll (lv : List (Option Value)) (st : List Value) (a : Nat) : oP := match ng lv a with
  | some (some (.long x)) => some (lv, .long x :: st)
  | _ => none
def st_la (lv : List (Option Value)) (st : List Value) (a : Nat) : oP := match ng lv a with
  | some (some (.ref x)) => some (lv, .ref x :: st)
  | _ => none
def st_si (lv : List (Option Value)) (a : Nat) : List Value → oP
  | .int x :: st => match okSet lv a with
    | true => some (lv.set a (some (.int x)), st)
    | false => none
  | _ => none
def st_sa (lv : List (Option Value)) (a : Nat) : List Value → oP
  | .ref x :: st => match okSet lv a with
    | true => some (lv.set a (some (.ref x)), st)
    | false => none
  | _ => none
def st_sl (lv : List (Option Value)) (a : Nat) : List Value → oP
  | .long x :: st => match okSet lv a with
    | true => some ((lv.set a (some (.long x))).set (a + 1) none, st)
    | false => none
  | _ => none
def st_inc (lv : List (Option Value)) (st : List Value) (a : Nat) (c : Int32) : oP := match okSet lv a with
  | true => match ng lv a with
    | some (some (.int x)) => some (lv.set a (some (.int (x + c))), st)
    | _ => none
  | false => none
def st_ii (lv : List (Option Value)) (f : Int32 → Int32 → Int32) : List Value → oP
  | .int y :: .int x :: st => some (lv, .int (f x y) :: st)
  | _ => none
def st_jj (lv : List (Option Value)) (f : Int64 → Int64 → Int64) : List Value → oP
  | .long y :: .long x :: st => some (lv, .long (f x y) :: st)
  | _ => none
def st_ij (lv : List (Option Value)) (f : Int64 → Int32 → Int64) : List Value → oP
  | .int y :: .long x :: st => some (lv, .long (f x y) :: st)
  | _ => none
def st_cmp (lv : List (Option Value)) : List Value → oP
  | .long y :: .long x :: st => some (lv, .int (lg_cmp x y) :: st)
  | _ => none
def st_i2l (lv : List (Option Value)) : List Value → oP
  | .int x :: st => some (lv, .long x.toInt64 :: st)
  | _ => none
def st_l2i (lv : List (Option Value)) : List Value → oP
  | .long x :: st => some (lv, .int x.toInt32 :: st)
  | _ => none
def st_pop (lv : List (Option Value)) : List Value → oP
  | .int _ :: st => some (lv, st)
  | _ => none
def st_dup (lv : List (Option Value)) : List Value → oP
  | .int x :: st => some (lv, .int x :: .int x :: st)
  | .ref x :: st => some (lv, .ref x :: .ref x :: st)
  | _ => none
def st_dup2 (lv : List (Option Value)) : List Value → oP
  | .int x :: .ref y :: st => some (lv, .int x :: .ref y :: .int x :: .ref y :: st)
  | _ => none
/-- one step of an instruction that touches no cell -/
def stp (i : Instr) (a : Nat) (c : Int32) (cl : Int64) (lv : List (Option Value)) (st : List Value) : oP := match i with
  | .iconst _ => some (lv, .int c :: st)
  | .bipush _ => some (lv, .int c :: st)
  | .sipush _ => some (lv, .int c :: st)
  | .ldc _ => some (lv, .int c :: st)
  | .ldc_w _ => some (lv, .int c :: st)
  | .lconst _ => some (lv, .long cl :: st)
  | .ldc2_w _ => some (lv, .long cl :: st)
  | .iload _ => st_li lv st a
  | .iload_n _ => st_li lv st a
  | .lload _ => st_ll lv st a
  | .lload_n _ => st_ll lv st a
  | .aload _ => st_la lv st a
  | .aload_n _ => st_la lv st a
  | .istore _ => st_si lv a st
  | .istore_n _ => st_si lv a st
  | .astore _ => st_sa lv a st
  | .astore_n _ => st_sa lv a st
  | .lstore _ => st_sl lv a st
  | .lstore_n _ => st_sl lv a st
  | .iinc _ _ => st_inc lv st a c
  | .goto _ => some (lv, st)
  | .iadd => st_ii lv (fun x y => x + y) st
  | .isub => st_ii lv (fun x y => x - y) st
  | .imul => st_ii lv (fun x y => x * y) st
  | .iand => st_ii lv (fun x y => x &&& y) st
  | .ior => st_ii lv (fun x y => x ||| y) st
  | .ixor => st_ii lv (fun x y => x ^^^ y) st
  | .ishl => st_ii lv (fun x y => x <<< (y &&& 31)) st
  | .ishr => st_ii lv (fun x y => x >>> (y &&& 31)) st
  | .iushr => st_ii lv (fun x y => (x.toUInt32 >>> (y.toUInt32 &&& Int32.toUInt32 31)).toInt32) st
  | .lushr => st_ij lv (fun x y => (x.toUInt64 >>> (y.toInt64.toUInt64 &&& Int64.toUInt64 63)).toInt64) st
  | .lshl => st_ij lv (fun x y => x <<< (y.toInt64 &&& 63)) st
  | .ladd => st_jj lv (fun x y => x + y) st
  | .lmul => st_jj lv (fun x y => x * y) st
  | .lor => st_jj lv (fun x y => x ||| y) st
  | .lcmp => st_cmp lv st
  | .i2l => st_i2l lv st
  | .l2i => st_l2i lv st
  | .pop => st_pop lv st
  | .dup => st_dup lv st
  | .dup2 => st_dup2 lv st
  | _ => none
section StpSpec
variable {lv lv' : List (Option Value)} {st st' : List Value} {a : Nat} {c : Int32}
theorem st_li_e (h : st_li lv st a = some (lv', st')) : ∃ x, lv[a]? = some (some (.int x)) ∧ lv' = lv ∧ st' = .int x :: st := by
  unfold st_li at h
  split at h
  · rename_i hh; cases h; rw [ng_eq] at hh; exact ⟨_, hh, rfl, rfl⟩
  · cases h
theorem st_ll_e (h : st_ll lv st a = some (lv', st')) : ∃ x, lv[a]? = some (some (.long x)) ∧ lv' = lv ∧ st' = .long x :: st := by
  unfold st_ll at h
  split at h
  · rename_i hh; cases h; rw [ng_eq] at hh; exact ⟨_, hh, rfl, rfl⟩
  · cases h
theorem st_la_e (h : st_la lv st a = some (lv', st')) : ∃ x, lv[a]? = some (some (.ref x)) ∧ lv' = lv ∧ st' = .ref x :: st := by
  unfold st_la at h
  split at h
  · rename_i hh; cases h; rw [ng_eq] at hh; exact ⟨_, hh, rfl, rfl⟩
  · cases h
theorem st_si_e (h : st_si lv a st = some (lv', st')) : ∃ x, st = .int x :: st' ∧ okSet lv a = true ∧ lv' = lv.set a (some (.int x)) := by
  unfold st_si at h
  split at h
  · split at h
    · rename_i hh; cases h; exact ⟨_, rfl, hh, rfl⟩
    · cases h
  · cases h
theorem st_sa_e (h : st_sa lv a st = some (lv', st')) : ∃ x, st = .ref x :: st' ∧ okSet lv a = true ∧ lv' = lv.set a (some (.ref x)) := by
  unfold st_sa at h
  split at h
  · split at h
    · rename_i hh; cases h; exact ⟨_, rfl, hh, rfl⟩
    · cases h
  · cases h
theorem st_sl_e (h : st_sl lv a st = some (lv', st')) : ∃ x, st = .long x :: st' ∧ okSet lv a = true ∧ lv' = (lv.set a (some (.long x))).set (a + 1) none := by
  unfold st_sl at h
  split at h
  · split at h
    · rename_i hh; cases h; exact ⟨_, rfl, hh, rfl⟩
    · cases h
  · cases h
theorem st_inc_e (h : st_inc lv st a c = some (lv', st')) : ∃ x, lv[a]? = some (some (.int x)) ∧ okSet lv a = true ∧ lv' = lv.set a (some (.int (x + c))) ∧ st' = st := by
  unfold st_inc at h
  split at h
  · split at h
    · rename_i ho _ _ hh; cases h; rw [ng_eq] at hh; exact ⟨_, hh, ho, rfl, rfl⟩
    · cases h
  · cases h
theorem st_ii_e {f : Int32 → Int32 → Int32} (h : st_ii lv f st = some (lv', st')) : ∃ x y r, st = .int y :: .int x :: r ∧ lv' = lv ∧ st' = .int (f x y) :: r := by
  unfold st_ii at h
  split at h
  · cases h; exact ⟨_, _, _, rfl, rfl, rfl⟩
  · cases h
theorem st_jj_e {f : Int64 → Int64 → Int64} (h : st_jj lv f st = some (lv', st')) : ∃ x y r, st = .long y :: .long x :: r ∧ lv' = lv ∧ st' = .long (f x y) :: r := by
  unfold st_jj at h
  split at h
  · cases h; exact ⟨_, _, _, rfl, rfl, rfl⟩
  · cases h
theorem st_ij_e {f : Int64 → Int32 → Int64} (h : st_ij lv f st = some (lv', st')) : ∃ x y r, st = .int y :: .long x :: r ∧ lv' = lv ∧ st' = .long (f x y) :: r := by
  unfold st_ij at h
  split at h
  · cases h; exact ⟨_, _, _, rfl, rfl, rfl⟩
  · cases h
theorem st_cmp_e (h : st_cmp lv st = some (lv', st')) : ∃ x y r, st = .long y :: .long x :: r ∧ lv' = lv ∧ st' = .int (lg_cmp x y) :: r := by
  unfold st_cmp at h
  split at h
  · cases h; exact ⟨_, _, _, rfl, rfl, rfl⟩
  · cases h
theorem st_i2l_e (h : st_i2l lv st = some (lv', st')) : ∃ x r, st = .int x :: r ∧ lv' = lv ∧ st' = .long x.toInt64 :: r := by
  unfold st_i2l at h
  split at h
  · cases h; exact ⟨_, _, rfl, rfl, rfl⟩
  · cases h
theorem st_l2i_e (h : st_l2i lv st = some (lv', st')) : ∃ x r, st = .long x :: r ∧ lv' = lv ∧ st' = .int x.toInt32 :: r := by
  unfold st_l2i at h
  split at h
  · cases h; exact ⟨_, _, rfl, rfl, rfl⟩
  · cases h
theorem st_pop_e (h : st_pop lv st = some (lv', st')) : ∃ x, st = .int x :: st' ∧ lv' = lv := by
  unfold st_pop at h
  split at h
  · cases h; exact ⟨_, rfl, rfl⟩
  · cases h
theorem st_dup_e (h : st_dup lv st = some (lv', st')) : (∃ x r, st = .int x :: r ∧ lv' = lv ∧ st' = .int x :: .int x :: r) ∨ (∃ x r, st = .ref x :: r ∧ lv' = lv ∧ st' = .ref x :: .ref x :: r) := by
  unfold st_dup at h
  split at h
  · cases h; exact Or.inl ⟨_, _, rfl, rfl, rfl⟩
  · cases h; exact Or.inr ⟨_, _, rfl, rfl, rfl⟩
  · cases h
theorem st_dup2_e (h : st_dup2 lv st = some (lv', st')) : ∃ x y r, st = .int x :: .ref y :: r ∧ lv' = lv ∧ st' = .int x :: .ref y :: .int x :: .ref y :: r := by
  unfold st_dup2 at h
  split at h
  · cases h; exact ⟨_, _, _, rfl, rfl, rfl⟩
  · cases h
end StpSpec

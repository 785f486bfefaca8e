/-! a typed store: the shape of all cells once both objects are made, by program; rows over it -/
abbrev Sh : Type := (Nat × Nat) ⊕ (Nat × List (Option Nat))
def shp : List Sh := [.inr (10, [some 1, some 5, some 10, some 15, some 20, none, some 21, some 22, some 30, some 34, some 38, some 45, some 49, none, none, none]), .inr (1, [some 2, some 3, some 4, none]), .inl (0, 30), .inl (0, 30), .inl (0, 30), .inr (7, [some 6, some 7, some 8, some 9, none]), .inl (0, 60), .inl (0, 60), .inl (0, 60), .inl (0, 60), .inr (7, [some 11, some 12, some 13, some 14, none]), .inl (0, 60), .inl (0, 60), .inl (0, 60), .inl (0, 60), .inr (7, [some 16, some 17, some 18, some 19, none]), .inl (0, 60), .inl (0, 60), .inl (0, 60), .inl (0, 60), .inl (0, 80), .inl (2, 4), .inr (4, [some 23, some 26, some 27, some 28, some 29, none, none, none, none]), .inr (2, [some 24, some 25, none, none, none]), .inl (0, 25), .inl (0, 8), .inl (0, 81), .inl (0, 81), .inl (0, 81), .inl (0, 81), .inr (3, [some 31, some 32, some 33]), .inl (0, 10), .inl (0, 10), .inl (0, 10), .inr (5, [some 35, some 36, some 37]), .inl (0, 2510), .inl (0, 10), .inl (0, 250), .inr (9, [some 39, some 42, some 43, some 44]), .inr (8, [some 40, some 41, none, none]), .inl (1, 400), .inl (0, 1024), .inl (0, 3200), .inl (0, 4000), .inl (0, 4000), .inr (0, [some 46]), .inr (8, [some 47, some 48, none, none]), .inl (1, 400), .inl (0, 1024), .inr (6, [some 50, none, none, none]), .inl (0, 10), .inr (2, [some 52, some 53, none, none, none]), .inl (0, 25), .inl (0, 8), .inr (2, [some 55, some 56, none, none, none]), .inl (0, 25), .inl (0, 8), .inr (2, [some 58, some 59, none, none, none]), .inl (0, 25), .inl (0, 8), .inr (2, [some 61, some 62, none, none, none]), .inl (0, 25), .inl (0, 8), .inr (11, [some 64, none, some 65, some 66, none, some 67, some 68, some 69, some 70, none, some 71, none, none, some 72, some 73, none, none, some 74, none, some 75, some 76, some 77, none, some 78, some 79, some 80, some 81, some 82, some 83, none, some 84, some 85, none]), .inl (0, 90), .inl (0, 3), .inl (0, 80), .inl (0, 4), .inl (0, 100), .inl (0, 32), .inl (0, 4), .inl (0, 10), .inl (0, 25), .inl (0, 8), .inl (0, 170), .inl (0, 90), .inl (0, 90), .inl (0, 90), .inl (0, 10), .inl (0, 10), .inl (0, 10), .inl (0, 2600), .inl (0, 401), .inl (0, 401), .inl (1, 4000), .inl (1, 4000)]
/-- int rows by cell and place, long rows, int fields, which row is 'ways', which 'waysThen' -/
abbrev Ty : Type := (Nat → Nat → Int32) × (Nat → Nat → Int64) × (Nat → Nat → Int32) × Nat × Nat
def gI (τ : Ty) : Nat → Nat → Int32 := τ.1
def gL (τ : Ty) : Nat → Nat → Int64 := τ.2.1
def gF (τ : Ty) : Nat → Nat → Int32 := τ.2.2.1
def gW (τ : Ty) : Nat × Nat := τ.2.2.2
def sA (τ : Ty) (k : Nat) (f : Nat → Int32) : Ty := (fun k' => if k' = k then f else τ.1 k', τ.2)
def sI (τ : Ty) (k j : Nat) (x : Int32) : Ty := sA τ k (upd (gI τ k) j x)
def sL (τ : Ty) (k j : Nat) (x : Int64) : Ty := (τ.1, fun k' => if k' = k then vp_updL (τ.2.1 k) j x else τ.2.1 k', τ.2.2)
def sF (τ : Ty) (k j : Nat) (x : Int32) : Ty := (τ.1, τ.2.1, fun k' => if k' = k then upd (τ.2.2.1 k) j x else τ.2.2.1 k', τ.2.2.2)
def sW (τ : Ty) (w : Nat × Nat) : Ty := (τ.1, τ.2.1, τ.2.2.1, w)
def swp (τ : Ty) (k r : Nat) : Nat := if k = 38 then (if r = 43 then τ.2.2.2.1 else if r = 44 then τ.2.2.2.2 else r) else r
def flds (τ : Ty) (k : Nat) : Nat → List (Option Nat) → List Value
  | _, [] => []
  | j, o :: t => (match o with
    | some r => .ref (swp τ k r)
    | none => .int (gF τ k j)) :: flds τ k (j + 1) t
theorem flds_get (τ : Ty) (k : Nat) (fs : List (Option Nat)) (j b : Nat) : (flds τ k j fs)[b]? = fs[b]?.map (fun o => match o with
    | some r => .ref (swp τ k r)
    | none => .int (gF τ k (j + b))) := by
  induction fs generalizing j b with
  | nil => simp [flds]
  | cons o t ih =>
    cases b with
    | zero => simp [flds]
    | succ b => simp only [flds, List.getElem?_cons_succ, ih, Nat.add_assoc, Nat.add_comm 1 b]
theorem flds_len (τ : Ty) (k : Nat) (fs : List (Option Nat)) (j : Nat) : (flds τ k j fs).length = fs.length := by
  induction fs generalizing j with
  | nil => rfl
  | cons o t ih => simp [flds, ih]
def exR : Nat → Option Nat := fun j => if j < 4 then some (51 + 3 * j) else none
def cellS (τ : Ty) (k : Nat) : Sh → va_E
  | .inl (0, n) => .inl (0, n, .inl (gI τ k))
  | .inl (1, n) => .inl (1, n, .inr (.inl (gL τ k)))
  | .inl (_, n) => .inl (2, n, .inr (.inr (.inr (.inr exR))))
  | .inr (ci, fs) => .inr (ci, flds τ k 0 fs)
def lay (τ : Ty) : List va_E := shp.mapIdx (fun k s => cellS τ k s)
theorem lay_len (τ : Ty) : (lay τ).length = 86 := by simp [lay, shp]
theorem lay_get {τ : Ty} {k : Nat} {s : Sh} (h : ng shp k = some s) : (lay τ)[k]? = some (cellS τ k s) := by
  rw [ng_eq] at h
  simp [lay, List.getElem?_mapIdx, h]
theorem flds_eq {τ τ' : Ty} {k : Nat} (hF : gF τ' k = gF τ k) (hW : k = 38 → gW τ' = gW τ) (fs : List (Option Nat)) (j : Nat) : flds τ' k j fs = flds τ k j fs := by
  induction fs generalizing j with
  | nil => rfl
  | cons o t ih =>
    simp only [flds, ih, hF]
    cases o with
    | none => rfl
    | some r =>
      have : swp τ' k r = swp τ k r := by
        unfold swp
        by_cases hk : k = 38
        · have e : τ'.2.2.2 = τ.2.2.2 := hW hk
          rw [if_pos hk, if_pos hk, e]
        · rw [if_neg hk, if_neg hk]
      simp only [this]
theorem cellS_eq {τ τ' : Ty} {k : Nat} (hI : gI τ' k = gI τ k) (hL : gL τ' k = gL τ k) (hF : gF τ' k = gF τ k) (hW : k = 38 → gW τ' = gW τ) (s : Sh) : cellS τ' k s = cellS τ k s := by
  unfold cellS
  split <;> simp only [hI, hL, flds_eq hF hW]
theorem lay_set {τ τ' : Ty} {k : Nat} {s : Sh} {e : va_E} (hk : ng shp k = some s) (he : cellS τ' k s = e) (ho : ∀ k', k' ≠ k → gI τ' k' = gI τ k' ∧ gL τ' k' = gL τ k' ∧ gF τ' k' = gF τ k' ∧ (k' = 38 → gW τ' = gW τ)) : (lay τ).set k e = lay τ' := by
  apply List.ext_getElem?
  intro i
  rw [ng_eq] at hk
  have hlt := (List.getElem?_eq_some_iff.mp hk).1
  rw [List.getElem?_set]
  by_cases hik : k = i
  · subst hik
    rw [if_pos rfl, if_pos (by rw [lay_len]; exact hlt)]
    simp [lay, List.getElem?_mapIdx, hk, he]
  · rw [if_neg hik]
    obtain ⟨a1, a2, a3, a4⟩ := ho i (fun h => hik h.symm)
    simp only [lay, List.getElem?_mapIdx]
    cases shp[i]? with
    | none => rfl
    | some s' => exact congrArg some (cellS_eq a1 a2 a3 a4 s').symm
/-- what field b of the cell k is, an object of class a: an int (some none), a cell (some (some r)) -/
def fK (k a b : Nat) : Option (Option Nat) := match ng shp k with
  | some (.inr (ci, fs)) => match Nat.decEq ci a with
    | isTrue _ => ng fs b
    | isFalse _ => none
  | _ => none
def aI (k : Nat) : Option Nat := match ng shp k with
  | some (.inl (0, n)) => some n
  | _ => none
def aL (k : Nat) : Option Nat := match ng shp k with
  | some (.inl (1, n)) => some n
  | _ => none
theorem fK_e {k a b : Nat} {o : Option Nat} (h : fK k a b = some o) : ∃ fs, ng shp k = some (.inr (a, fs)) ∧ fs[b]? = some o := by
  unfold fK at h
  split at h
  · rename_i ci fs hs
    split at h
    · rename_i h0 _; subst h0; rw [ng_eq] at h; exact ⟨fs, hs, h⟩
    · cases h
  · cases h
theorem aI_e {k n : Nat} (h : aI k = some n) : ng shp k = some (.inl (0, n)) := by
  unfold aI at h
  split at h
  · rename_i hs; cases h; exact hs
  · cases h
theorem aL_e {k n : Nat} (h : aL k = some n) : ng shp k = some (.inl (1, n)) := by
  unfold aL at h
  split at h
  · rename_i hs; cases h; exact hs
  · cases h
def fV (τ : Ty) (k b : Nat) (o : Option Nat) : Value := match o with
  | some r => .ref (swp τ k r)
  | none => .int (gF τ k b)
theorem lay_f {τ : Ty} {k a b : Nat} {o : Option Nat} (h : fK k a b = some o) : ∃ fs, (lay τ)[k]? = some (.inr (a, fs)) ∧ fs[b]? = some (fV τ k b o) := by
  obtain ⟨fs, h1, h2⟩ := fK_e h
  refine ⟨flds τ k 0 fs, lay_get h1, ?_⟩
  rw [flds_get, h2, Option.map_some, Nat.zero_add]
  rfl
/-- behind a call that makes nothing -/
theorem lay_back {τ : Ty} {n bc bs : Nat} {M : MD} {X : Option (Nat × (Nat → Int32))} {pc : Nat} {lv : List (Option Value)} {st : List Value} {σ' : List va_E} {Q : Option Value → List va_E → Prop} (h0 : n = 0) (h : ∃ τ', σ' = lay τ' ∧ ∀ bc bs, RJ M X bc bs pc lv st (lay τ') Q) : σ'.length = (lay τ).length + n ∧ RJ M X bc bs pc lv st σ' Q := by
  obtain ⟨τ', h1, h2⟩ := h
  have e1 : σ'.length = 86 := by rw [h1]; exact lay_len τ'
  have e2 : (lay τ).length = 86 := lay_len τ
  refine ⟨by omega, ?_⟩
  rw [h1]
  exact h2 bc bs
theorem lay_i {τ : Ty} {k n : Nat} (h : aI k = some n) : (lay τ)[k]? = some (.inl (0, n, .inl (gI τ k))) := lay_get (aI_e h)
theorem lay_l {τ : Ty} {k n : Nat} (h : aL k = some n) : (lay τ)[k]? = some (.inl (1, n, .inr (.inl (gL τ k)))) := lay_get (aL_e h)
theorem lay_sA {τ : Ty} {k n : Nat} (h : aI k = some n) (f : Nat → Int32) : (lay τ).set k (.inl (0, n, .inl f)) = lay (sA τ k f) := by
  refine lay_set (aI_e h) ?_ (fun k' hk' => ⟨?_, rfl, rfl, fun _ => rfl⟩)
  · show Sum.inl (0, n, Sum.inl (gI (sA τ k f) k)) = _
    simp [gI, sA]
  · simp [gI, sA, hk']
theorem lay_sL {τ : Ty} {k n : Nat} (h : aL k = some n) (j : Nat) (x : Int64) : (lay τ).set k (.inl (1, n, .inr (.inl (vp_updL (gL τ k) j x)))) = lay (sL τ k j x) := by
  refine lay_set (aL_e h) ?_ (fun k' hk' => ⟨rfl, ?_, rfl, fun _ => rfl⟩)
  · show Sum.inl (1, n, Sum.inr (Sum.inl (gL (sL τ k j x) k))) = _
    simp [gL, sL]
  · simp [gL, sL, hk']
theorem lay_sF {τ : Ty} {k a b : Nat} (h : fK k a b = some none) (x : Int32) : ∃ fs, (lay τ)[k]? = some (.inr (a, fs)) ∧ b < fs.length ∧ (lay τ).set k (.inr (a, fs.set b (.int x))) = lay (sF τ k b x) := by
  obtain ⟨fs, h1, h2⟩ := fK_e h
  have hb : b < fs.length := (List.getElem?_eq_some_iff.mp h2).1
  refine ⟨flds τ k 0 fs, lay_get h1, by rw [flds_len]; exact hb, lay_set h1 ?_ (fun k' hk' => ⟨rfl, rfl, ?_, fun _ => rfl⟩)⟩
  · show Sum.inr (a, flds (sF τ k b x) k 0 fs) = _
    congr 2
    apply List.ext_getElem?
    intro i
    rw [List.getElem?_set, flds_get, flds_get, flds_len]
    by_cases hi : b = i
    · subst hi
      rw [if_pos rfl, if_pos hb, h2]
      simp [gF, sF, upd]
    · rw [if_neg hi]
      cases fs[i]? with
      | none => rfl
      | some o => cases o with
        | some r => rfl
        | none =>
          have : ¬ i = b := fun e => hi e.symm
          simp [gF, sF, upd, this]
  · simp [gF, sF, hk']
/-- the judgement over the typed store: nothing is made any more -/
def RT (M : MD) (X : Option (Nat × (Nat → Int32))) (pc : Nat) (lv : List (Option Value)) (st : List Value) (τ : Ty) (Q : Option Value → Ty → Prop) : Prop :=
  ∀ bc bs, RJ M X bc bs pc lv st (lay τ) (fun v σ' => ∃ τ', σ' = lay τ' ∧ Q v τ')
def pI (a b : Nat) : Bool := match ng tyTab a with
  | some l => match ng l b with
    | some (false, .int) => true
    | _ => false
  | none => false
theorem pI_e {a b : Nat} (h : pI a b = true) : (tyTab[a]?.bind (·[b]?)) = some (false, .int) := by
  unfold pI at h
  split at h
  · rename_i l hl
    split at h
    · rename_i hh
      rw [ng_eq] at hl hh
      rw [hl]
      exact hh
    · cases h
  · cases h
section RtRows
variable {M : MD} {X : Option (Nat × (Nat → Int32))} {pc nx a b : Nat} {c : Int32} {cl : Int64} {lv lv' : List (Option Value)} {st st' : List Value} {τ τ' : Ty} {Q : Option Value → Ty → Prop}
theorem rt_pure {E : Instr} (hq : lk (mTab M) pc = some (E, nx, a, b, c, cl)) (hs : stp E a c cl lv st = some (lv', st')) (k : RT M X nx lv' st' τ Q) : RT M X pc lv st τ Q := fun bc bs => rj_step hq hs (k bc bs)
theorem rt_getI {i k : Nat} (hq : lk (mTab M) pc = some (.getfield i, nx, a, b, c, cl)) (hf : fK k a b = some none) (K : RT M X nx lv (.int (gF τ k b) :: st) τ Q) : RT M X pc lv (.ref k :: st) τ Q := fun bc bs => by
  obtain ⟨fs, h1, h2⟩ := lay_f (τ := τ) hf
  exact rj_get hq h1 h2 (K bc bs)
theorem rt_getR {i k r : Nat} (hq : lk (mTab M) pc = some (.getfield i, nx, a, b, c, cl)) (hf : fK k a b = some (some r)) (K : RT M X nx lv (.ref (swp τ k r) :: st) τ Q) : RT M X pc lv (.ref k :: st) τ Q := fun bc bs => by
  obtain ⟨fs, h1, h2⟩ := lay_f (τ := τ) hf
  exact rj_get hq h1 h2 (K bc bs)
theorem rt_putI {i k : Nat} {x : Int32} (hq : lk (mTab M) pc = some (.putfield i, nx, a, b, c, cl)) (hf : fK k a b = some none) (hp : pI a b = true) (K : RT M X nx lv st (sF τ k b x) Q) : RT M X pc lv (.int x :: .ref k :: st) τ Q := fun bc bs => by
  obtain ⟨fs, h1, h2, h3⟩ := lay_sF (τ := τ) hf x
  refine rj_put0 hq h1 h2 (pI_e hp) (fun _ _ => rfl) (fun _ _ => rfl) ?_
  rw [h3]
  exact K bc bs
theorem rt_putZ {i k : Nat} {x : Int32} (hq : lk (mTab M) pc = some (.putfield i, nx, a, b, c, cl)) (hf : fK k a b = some none) (hp : (tyTab[a]?.bind (·[b]?)) = some (false, .boolean)) (hx : x = 0 ∨ x = 1) (K : RT M X nx lv st (sF τ k b x) Q) : RT M X pc lv (.int x :: .ref k :: st) τ Q := fun bc bs => by
  obtain ⟨fs, h1, h2, h3⟩ := lay_sF (τ := τ) hf x
  refine rj_put0 hq h1 h2 hp (fun _ _ => by rcases hx with rfl | rfl <;> rfl) (fun _ _ => by rcases hx with rfl | rfl <;> rfl) ?_
  rw [h3]
  exact K bc bs
theorem rt_iald {k n : Nat} {i : Int32} (hq : lk (mTab M) pc = some (.iaload, nx, a, b, c, cl)) (hf : aI k = some n) (hin : vp_in i n) (K : RT M X nx lv (.int (gI τ k i.toNatClampNeg) :: st) τ Q) : RT M X pc lv (.int i :: .ref k :: st) τ Q := fun bc bs => rj_iald hq (lay_i hf) hin (K bc bs)
theorem rt_lald {k n : Nat} {i : Int32} (hq : lk (mTab M) pc = some (.laload, nx, a, b, c, cl)) (hf : aL k = some n) (hin : vp_in i n) (K : RT M X nx lv (.long (gL τ k i.toNatClampNeg) :: st) τ Q) : RT M X pc lv (.int i :: .ref k :: st) τ Q := fun bc bs => rj_lald hq (lay_l hf) hin (K bc bs)
theorem rt_iast {k n : Nat} {i x : Int32} (hq : lk (mTab M) pc = some (.iastore, nx, a, b, c, cl)) (hf : aI k = some n) (hin : vp_in i n) (K : RT M X nx lv st (sI τ k i.toNatClampNeg x) Q) : RT M X pc lv (.int x :: .int i :: .ref k :: st) τ Q := fun bc bs => by
  refine rj_iast hq (lay_i hf) hin ?_
  rw [lay_sA hf]
  exact K bc bs
theorem rt_last {k n : Nat} {i : Int32} {x : Int64} (hq : lk (mTab M) pc = some (.lastore, nx, a, b, c, cl)) (hf : aL k = some n) (hin : vp_in i n) (K : RT M X nx lv st (sL τ k i.toNatClampNeg x) Q) : RT M X pc lv (.long x :: .int i :: .ref k :: st) τ Q := fun bc bs => by
  refine rj_last hq (lay_l hf) hin ?_
  rw [lay_sL hf]
  exact K bc bs
theorem rt_aald {j : Nat} (hq : lk (mTab M) pc = some (.aaload, nx, a, b, c, cl)) (hj : j < 4) (K : RT M X nx lv (.ref (51 + 3 * j) :: st) τ Q) : RT M X pc lv (.int (nI j) :: .ref 21 :: st) τ Q := fun bc bs => by
  refine rj_aald (f := exR) hq (lay_get (s := .inl (2, 4)) rfl) (vp_in_nI hj (by decide)) ?_ (K bc bs)
  rw [nI_clamp (by omega)]
  simp [exR, hj]
theorem rt_alen {k n : Nat} (hq : lk (mTab M) pc = some (.arraylength, nx, a, b, c, cl)) (hf : aI k = some n) (K : RT M X nx lv (.int (nI n) :: st) τ Q) : RT M X pc lv (.ref k :: st) τ Q := fun bc bs => rj_alen hq (lay_i hf) (by decide) (K bc bs)
theorem rt_alenL {k n : Nat} (hq : lk (mTab M) pc = some (.arraylength, nx, a, b, c, cl)) (hf : aL k = some n) (K : RT M X nx lv (.int (nI n) :: st) τ Q) : RT M X pc lv (.ref k :: st) τ Q := fun bc bs => rj_alen hq (lay_l hf) (by decide) (K bc bs)
theorem rt_copy {i k0 k1 n0 n1 : Nat} {sp dp n : Int32} (hq : lk (mTab M) pc = some (.invokestatic i, nx, a, b, c, cl)) (hw : Jvm.Cond.methodLink (mY M).cls i arraycopyName ∈ lw_tbl) (h0 : aI k0 = some n0) (h1 : aI k1 = some n1)
    (g1 : ¬ sp < 0) (g2 : ¬ dp < 0) (g3 : ¬ n < 0) (g4 : sp.toNatClampNeg + n.toNatClampNeg ≤ n0) (g5 : dp.toNatClampNeg + n.toNatClampNeg ≤ n1) (hf : 1 ≤ (mRm M).frames) (hl : catSum st + (nativeFrameWords "java/lang/System" "arraycopy" 5 + 11) ≤ (mRm M).locals)
    (K : RT M X nx lv st (sA τ k1 (va_cpy (gI τ k0) (gI τ k1) sp.toNatClampNeg dp.toNatClampNeg n.toNatClampNeg)) Q) : RT M X pc lv (.int n :: .int dp :: .ref k1 :: .int sp :: .ref k0 :: st) τ Q := fun bc bs => by
  refine rj_copy hq hw (lay_i h0) (lay_i h1) g1 g2 g3 g4 g5 hf hl ?_
  rw [lay_sA h1]
  exact K bc bs
theorem rt_idiv {x y : Int32} (hq : lk (mTab M) pc = some (.idiv, nx, a, b, c, cl)) (hne : ¬ y = 0) (K : RT M X nx lv (.int (x / y) :: st) τ Q) : RT M X pc lv (.int y :: .int x :: st) τ Q := fun bc bs => rs_idiv hq hne (K bc bs)
theorem rt_irem {x y : Int32} (hq : lk (mTab M) pc = some (.irem, nx, a, b, c, cl)) (hne : ¬ y = 0) (K : RT M X nx lv (.int (x - x / y * y) :: st) τ Q) : RT M X pc lv (.int y :: .int x :: st) τ Q := fun bc bs => rs_irem hq hne (K bc bs)
theorem rt_ldiv {x y : Int64} (hq : lk (mTab M) pc = some (.ldiv, nx, a, b, c, cl)) (hne : ¬ y = 0) (K : RT M X nx lv (.long (x / y) :: st) τ Q) : RT M X pc lv (.long y :: .long x :: st) τ Q := fun bc bs => rs_ldiv hq hne (K bc bs)
theorem rt_lrem {x y : Int64} (hq : lk (mTab M) pc = some (.lrem, nx, a, b, c, cl)) (hne : ¬ y = 0) (K : RT M X nx lv (.long (x - x / y * y) :: st) τ Q) : RT M X pc lv (.long y :: .long x :: st) τ Q := fun bc bs => rs_lrem hq hne (K bc bs)
theorem rt_if_eq {x : Int32} {n : Int} (hq : lk (mTab M) pc = some (.ifCond .eq n, nx, a, b, c, cl)) (kt : x = 0 → RT M X a lv st τ Q) (kf : ¬ x = 0 → RT M X nx lv st τ Q) : RT M X pc lv (.int x :: st) τ Q := fun bc bs => rj_if_eq hq (fun h => kt h bc bs) (fun h => kf h bc bs)
theorem rt_if_ne {x : Int32} {n : Int} (hq : lk (mTab M) pc = some (.ifCond .ne n, nx, a, b, c, cl)) (kt : ¬ x = 0 → RT M X a lv st τ Q) (kf : x = 0 → RT M X nx lv st τ Q) : RT M X pc lv (.int x :: st) τ Q := fun bc bs => rj_if_ne hq (fun h => kt h bc bs) (fun h => kf h bc bs)
theorem rt_if_lt {x : Int32} {n : Int} (hq : lk (mTab M) pc = some (.ifCond .lt n, nx, a, b, c, cl)) (kt : x < 0 → RT M X a lv st τ Q) (kf : ¬ x < 0 → RT M X nx lv st τ Q) : RT M X pc lv (.int x :: st) τ Q := fun bc bs => rj_if_lt hq (fun h => kt h bc bs) (fun h => kf h bc bs)
theorem rt_if_ge {x : Int32} {n : Int} (hq : lk (mTab M) pc = some (.ifCond .ge n, nx, a, b, c, cl)) (kt : 0 ≤ x → RT M X a lv st τ Q) (kf : ¬ 0 ≤ x → RT M X nx lv st τ Q) : RT M X pc lv (.int x :: st) τ Q := fun bc bs => rj_if_ge hq (fun h => kt h bc bs) (fun h => kf h bc bs)
theorem rt_if_gt {x : Int32} {n : Int} (hq : lk (mTab M) pc = some (.ifCond .gt n, nx, a, b, c, cl)) (kt : 0 < x → RT M X a lv st τ Q) (kf : ¬ 0 < x → RT M X nx lv st τ Q) : RT M X pc lv (.int x :: st) τ Q := fun bc bs => rj_if_gt hq (fun h => kt h bc bs) (fun h => kf h bc bs)
theorem rt_if_le {x : Int32} {n : Int} (hq : lk (mTab M) pc = some (.ifCond .le n, nx, a, b, c, cl)) (kt : x ≤ 0 → RT M X a lv st τ Q) (kf : ¬ x ≤ 0 → RT M X nx lv st τ Q) : RT M X pc lv (.int x :: st) τ Q := fun bc bs => rj_if_le hq (fun h => kt h bc bs) (fun h => kf h bc bs)
theorem rt_ic_eq {x y : Int32} {n : Int} (hq : lk (mTab M) pc = some (.if_icmp .eq n, nx, a, b, c, cl)) (kt : x = y → RT M X a lv st τ Q) (kf : ¬ x = y → RT M X nx lv st τ Q) : RT M X pc lv (.int y :: .int x :: st) τ Q := fun bc bs => rj_ic_eq hq (fun h => kt h bc bs) (fun h => kf h bc bs)
theorem rt_ic_ne {x y : Int32} {n : Int} (hq : lk (mTab M) pc = some (.if_icmp .ne n, nx, a, b, c, cl)) (kt : ¬ x = y → RT M X a lv st τ Q) (kf : x = y → RT M X nx lv st τ Q) : RT M X pc lv (.int y :: .int x :: st) τ Q := fun bc bs => rj_ic_ne hq (fun h => kt h bc bs) (fun h => kf h bc bs)
theorem rt_ic_lt {x y : Int32} {n : Int} (hq : lk (mTab M) pc = some (.if_icmp .lt n, nx, a, b, c, cl)) (kt : x < y → RT M X a lv st τ Q) (kf : ¬ x < y → RT M X nx lv st τ Q) : RT M X pc lv (.int y :: .int x :: st) τ Q := fun bc bs => rj_ic_lt hq (fun h => kt h bc bs) (fun h => kf h bc bs)
theorem rt_ic_ge {x y : Int32} {n : Int} (hq : lk (mTab M) pc = some (.if_icmp .ge n, nx, a, b, c, cl)) (kt : y ≤ x → RT M X a lv st τ Q) (kf : ¬ y ≤ x → RT M X nx lv st τ Q) : RT M X pc lv (.int y :: .int x :: st) τ Q := fun bc bs => rj_ic_ge hq (fun h => kt h bc bs) (fun h => kf h bc bs)
theorem rt_ic_gt {x y : Int32} {n : Int} (hq : lk (mTab M) pc = some (.if_icmp .gt n, nx, a, b, c, cl)) (kt : y < x → RT M X a lv st τ Q) (kf : ¬ y < x → RT M X nx lv st τ Q) : RT M X pc lv (.int y :: .int x :: st) τ Q := fun bc bs => rj_ic_gt hq (fun h => kt h bc bs) (fun h => kf h bc bs)
theorem rt_ic_le {x y : Int32} {n : Int} (hq : lk (mTab M) pc = some (.if_icmp .le n, nx, a, b, c, cl)) (kt : x ≤ y → RT M X a lv st τ Q) (kf : ¬ x ≤ y → RT M X nx lv st τ Q) : RT M X pc lv (.int y :: .int x :: st) τ Q := fun bc bs => rj_ic_le hq (fun h => kt h bc bs) (fun h => kf h bc bs)
theorem rt_iret {x : Int32} (hq : lk (mTab M) pc = some (.ireturn, nx, a, b, c, cl)) (hr : mRet M = some .int) (h : Q (some (.int x)) τ) : RT M X pc lv [.int x] τ Q := fun bc bs => rj_iret hq hr ⟨τ, rfl, h⟩
theorem rt_zret {x : Int32} (hq : lk (mTab M) pc = some (.ireturn, nx, a, b, c, cl)) (hr : mRet M = some .boolean) (hn : x = 0 ∨ x = 1) (h : Q (some (.int x)) τ) : RT M X pc lv [.int x] τ Q := fun bc bs => rj_zret hq hr hn ⟨τ, rfl, h⟩
theorem rt_lret {x : Int64} (hq : lk (mTab M) pc = some (.lreturn, nx, a, b, c, cl)) (hr : mRet M = some .long) (h : Q (some (.long x)) τ) : RT M X pc lv [.long x] τ Q := fun bc bs => rj_lret hq hr ⟨τ, rfl, h⟩
theorem rt_vret (hq : lk (mTab M) pc = some (.return_, nx, a, b, c, cl)) (hr : mRet M = none) (h : Q none τ) : RT M X pc lv [] τ Q := fun bc bs => rj_vret hq hr ⟨τ, rfl, h⟩
theorem rt_tsIn {d lo hi : Int} {os : Array Int} {x : Int32} {off : Int} {tgt : Nat} (hq : lk (mTab M) pc = some (.tableswitch d lo hi os, nx, a, b, c, cl)) (h1 : ¬ x.toInt < lo) (h2 : ¬ hi < x.toInt) (ho : os[(x.toInt - lo).toNat]? = some off) (ht : (pc : Int) + off = (tgt : Int)) (K : RT M X tgt lv st τ Q) : RT M X pc lv (.int x :: st) τ Q := fun bc bs => rj_tsIn hq h1 h2 ho ht (K bc bs)
theorem rt_tsOut {d lo hi : Int} {os : Array Int} {x : Int32} {tgt : Nat} (hq : lk (mTab M) pc = some (.tableswitch d lo hi os, nx, a, b, c, cl)) (h : x.toInt < lo ∨ hi < x.toInt) (ht : (pc : Int) + d = (tgt : Int)) (K : RT M X tgt lv st τ Q) : RT M X pc lv (.int x :: st) τ Q := fun bc bs => rj_tsOut hq h ht (K bc bs)
theorem rt_ls {d : Int} {ps : Array (Int × Int)} {x : Int32} {off : Int} {tgt : Nat} (hq : lk (mTab M) pc = some (.lookupswitch d ps, nx, a, b, c, cl)) (ho : Op.lookupswitch.offset ps.toList d x.toInt = off) (ht : (pc : Int) + off = (tgt : Int)) (K : RT M X tgt lv st τ Q) : RT M X pc lv (.int x :: st) τ Q := fun bc bs => rj_ls hq ho ht (K bc bs)
theorem RT.mono {Q' : Option Value → Ty → Prop} (hQ : ∀ v τ', Q v τ' → Q' v τ') (h : RT M X pc lv st τ Q) : RT M X pc lv st τ Q' := fun bc bs => (h bc bs).mono (fun _ _ ⟨τ', h1, h2⟩ => ⟨τ', h1, hQ _ _ h2⟩)
theorem rt_callV {i n k ci : Nat} (Mc : MD) (hq : lk (mTab M) pc = some (.invokevirtual i, nx, n, b, c, cl)) (hc : cvOk M i n Mc = true) (hk : ng st n = some (.ref k)) (hf : fK k ci 0 ≠ none) (hci : (vwCl[ci]?.map (·.1)) = some (mY Mc).cls) (hrest : catSum (st.drop (n + 1)) ≤ 8) (hok : mOk Mc = true) (hAs : (lvA (.ref k :: (st.take n).reverse)).length ≤ mML Mc) (h0 : (mRm Mc).cells = 0 ∧ (mRm Mc).slots = 0)
    (K : RT Mc none 0 (lvArgs (mML Mc) (.ref k :: (st.take n).reverse)) [] τ (fun v τ' => RT M X nx lv (v.toList ++ st.drop (n + 1)) τ' Q)) : RT M X pc lv st τ Q := fun bc bs => by
  cases ho : fK k ci 0 with
  | none => exact absurd ho hf
  | some o =>
    obtain ⟨fs, h1, -⟩ := lay_f (τ := τ) ho
    refine rj_callV Mc hq hc hk h1 hci hrest hok hAs (by rw [h0.1]; exact Nat.zero_le _) (by rw [h0.2]; exact Nat.zero_le _) ((K _ _).mono (fun v σ' h => lay_back h0.1 h))
theorem rt_callS {i n : Nat} (Mc : MD) (hq : lk (mTab M) pc = some (.invokestatic i, nx, n, b, c, cl)) (hc : csOk M i n Mc = true) (hk : n ≤ st.length) (hrest : catSum (st.drop n) ≤ 8) (hok : mOk Mc = true) (hAs : (lvA (st.take n).reverse).length ≤ mML Mc) (h0 : (mRm Mc).cells = 0 ∧ (mRm Mc).slots = 0)
    (K : RT Mc none 0 (lvArgs (mML Mc) (st.take n).reverse) [] τ (fun v τ' => RT M X nx lv (v.toList ++ st.drop n) τ' Q)) : RT M X pc lv st τ Q := fun bc bs => by
  refine rj_callS Mc hq hc hk hrest hok hAs (by rw [h0.1]; exact Nat.zero_le _) (by rw [h0.2]; exact Nat.zero_le _) ((K _ _).mono (fun v σ' h => lay_back h0.1 h))
end RtRows

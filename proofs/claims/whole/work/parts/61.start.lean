/-! the state at the start; what one side's call leaves of the other's -/
def tyI (f1 f2 f3 f4 g : Nat → Int32) : Ty := (fun k => if k = 16 then f1 else if k = 17 then f2 else if k = 18 then f3 else if k = 19 then f4 else if k = 67 then g else fun _ => 0, fun _ _ => 0, fun k j => if k = 15 then (if j = 4 then nI 8 else 0) else if k = 49 then (if j = 1 then -1 else 0) else if k = 63 then (if j = 9 then -1 else if j = 32 then -1 else 0) else 0, 43, 44)
def mI (f : Nat → Sh → va_E) : Nat → List Sh → List va_E
  | _, [] => []
  | n, x :: t => f n x :: mI f (n + 1) t
theorem mI_eq (f : Nat → Sh → va_E) (n : Nat) (l : List Sh) : l.mapIdx (fun k x => f (k + n) x) = mI f n l := by
  induction l generalizing n with
  | nil => rfl
  | cons x t ih =>
    rw [List.mapIdx_cons]
    show f (0 + n) x :: _ = f n x :: mI f (n + 1) t
    rw [Nat.zero_add, ← ih (n + 1)]
    congr 1
    congr 1
    funext k y
    rw [Nat.add_assoc, Nat.add_comm 1 n]
theorem cons_e {α : Type} {x y : α} {l m : List α} (h1 : x = y) (h2 : l = m) : x :: l = y :: m := by rw [h1, h2]
set_option maxRecDepth 100000 in
set_option maxHeartbeats 4000000 in
theorem lay_start (f1 f2 f3 f4 g : Nat → Int32) : clsAll f1 f2 f3 f4 ++ mdlO 63 :: mdlR g = lay (tyI f1 f2 f3 f4 g) := by
  have e : lay (tyI f1 f2 f3 f4 g) = mI (cellS (tyI f1 f2 f3 f4 g)) 0 shp := mI_eq (cellS (tyI f1 f2 f3 f4 g)) 0 shp
  rw [e]
  refine cons_e rfl ?_
  refine cons_e rfl ?_
  refine cons_e rfl ?_
  refine cons_e rfl ?_
  refine cons_e rfl ?_
  refine cons_e rfl ?_
  refine cons_e rfl ?_
  refine cons_e rfl ?_
  refine cons_e rfl ?_
  refine cons_e rfl ?_
  refine cons_e rfl ?_
  refine cons_e rfl ?_
  refine cons_e rfl ?_
  refine cons_e rfl ?_
  refine cons_e rfl ?_
  refine cons_e rfl ?_
  refine cons_e rfl ?_
  refine cons_e rfl ?_
  refine cons_e rfl ?_
  refine cons_e rfl ?_
  refine cons_e rfl ?_
  refine cons_e rfl ?_
  refine cons_e rfl ?_
  refine cons_e rfl ?_
  refine cons_e rfl ?_
  refine cons_e rfl ?_
  refine cons_e rfl ?_
  refine cons_e rfl ?_
  refine cons_e rfl ?_
  refine cons_e rfl ?_
  refine cons_e rfl ?_
  refine cons_e rfl ?_
  refine cons_e rfl ?_
  refine cons_e rfl ?_
  refine cons_e rfl ?_
  refine cons_e rfl ?_
  refine cons_e rfl ?_
  refine cons_e rfl ?_
  refine cons_e rfl ?_
  refine cons_e rfl ?_
  refine cons_e rfl ?_
  refine cons_e rfl ?_
  refine cons_e rfl ?_
  refine cons_e rfl ?_
  refine cons_e rfl ?_
  refine cons_e rfl ?_
  refine cons_e rfl ?_
  refine cons_e rfl ?_
  refine cons_e rfl ?_
  refine cons_e rfl ?_
  refine cons_e rfl ?_
  refine cons_e rfl ?_
  refine cons_e rfl ?_
  refine cons_e rfl ?_
  refine cons_e rfl ?_
  refine cons_e rfl ?_
  refine cons_e rfl ?_
  refine cons_e rfl ?_
  refine cons_e rfl ?_
  refine cons_e rfl ?_
  refine cons_e rfl ?_
  refine cons_e rfl ?_
  refine cons_e rfl ?_
  refine cons_e rfl ?_
  refine cons_e rfl ?_
  refine cons_e rfl ?_
  refine cons_e rfl ?_
  refine cons_e rfl ?_
  refine cons_e rfl ?_
  refine cons_e rfl ?_
  refine cons_e rfl ?_
  refine cons_e rfl ?_
  refine cons_e rfl ?_
  refine cons_e rfl ?_
  refine cons_e rfl ?_
  refine cons_e rfl ?_
  refine cons_e rfl ?_
  refine cons_e rfl ?_
  refine cons_e rfl ?_
  refine cons_e rfl ?_
  refine cons_e rfl ?_
  refine cons_e rfl ?_
  refine cons_e rfl ?_
  refine cons_e rfl ?_
  refine cons_e rfl ?_
  refine cons_e rfl ?_
  rfl
def asI : AS := ([], [], fun _ => none, none, 0, 0, 0, 0, 0)
theorem ci_start {f1 f2 f3 f4 : Nat → Int32} (g : Nat → Int32) (h : ∀ j, j < 8 → f1 j = 0 ∧ f2 j = nI j ∧ f3 j = 0 ∧ f4 j = nI j) : CIs (tyI f1 f2 f3 f4 g) asI := by
  refine ⟨⟨rfl, fun i q hq => (by cases hq), by decide, fun q hq => (by cases hq)⟩, ⟨rfl, fun i q hq => (by cases hq)⟩, ⟨rfl, fun i q hq => ?_⟩, ⟨rfl, by decide, fun i b hb => (by cases hb)⟩, fun x hx => ?_, ⟨43, 44, Or.inl ⟨rfl, rfl⟩, rfl⟩, ⟨rfl, fun x hx => (by cases hx), rfl, rfl, fun u _ => rfl⟩, ⟨rfl, rfl, rfl⟩⟩
  · have hi : i < 8 := (List.getElem?_eq_some_iff.mp hq).1
    unfold anyL at hq
    rw [List.getElem?_map, List.getElem?_range hi] at hq
    cases hq
    obtain ⟨h1, h2, h3, h4⟩ := h i hi
    exact ⟨h1, h2, h3, h4⟩
  · show gF (tyI f1 f2 f3 f4 g) (51 + 3 * x) 4 = 0 ∧ gF (tyI f1 f2 f3 f4 g) (51 + 3 * x) 3 = 0
    rcases (show x = 0 ∨ x = 1 ∨ x = 2 ∨ x = 3 by omega) with rfl | rfl | rfl | rfl <;> exact ⟨rfl, rfl⟩
theorem mi_start {g : Nat → Int32} (f1 f2 f3 f4 : Nat → Int32) (h : ∀ j, j < 4 → g j = -1) : MIs (tyI f1 f2 f3 f4 g) asI := by
  refine ⟨⟨⟨rfl, fun i q hq => (by cases hq), by decide, fun q hq => (by cases hq)⟩, ⟨rfl, by decide, fun i b hb => (by cases hb)⟩, fun x hx => ?_, ⟨rfl, fun x hx => (by cases hx), rfl, rfl⟩, ⟨rfl, rfl, rfl⟩, rfl⟩, fun u _ => rfl⟩
  exact h x hx
theorem mis_c {τ τ' : Ty} {a : AS} (h : MIs τ a) (ho : OffC τ τ') : MIs τ' a := by
  have hI : ∀ k, 63 ≤ k → gI τ' k = gI τ k := fun k hk => (ho k hk).1
  have hF : gF τ' 63 = gF τ 63 := (ho 63 (by decide)).2.2
  obtain ⟨⟨h1, h2, h3, h4, h5, h6⟩, h7⟩ := h
  refine ⟨⟨?_, ?_, fun x hx => ?_, ?_, ?_, ?_⟩, fun u hu => ?_⟩
  · unfold MEd at *
    rw [hF, hI 64 (by decide)]
    exact h1
  · unfold MTx at *
    rw [hF, hI 66 (by decide)]
    exact h2
  · have h3 := h3 x hx
    cases hA : aX a x with
    | none =>
      rw [hA] at h3
      dsimp only at h3 ⊢
      rw [hI 67 (by decide)]
      exact h3
    | some A =>
      rw [hA] at h3
      dsimp only at h3 ⊢
      unfold MEx at *
      rw [hI 67 (by decide), hI 68 (by decide), hI 69 (by decide), hI 70 (by decide)]
      exact h3
  · unfold MS0 at *
    rw [hF]
    exact h4
  · unfold MCt at *
    rw [hI 65 (by decide)]
    exact h5
  · rw [hF]
    exact h6
  · rw [hI 71 (by decide)]
    exact h7 u hu
theorem cis_d {τ τ' : Ty} {a : AS} (h : CIs τ a) (ho : OffD τ τ') : CIs τ' a := by
  have hI : ∀ k, k < 63 → gI τ' k = gI τ k := fun k hk => (ho.1 k hk).1
  have hF : ∀ k, k < 63 → gF τ' k = gF τ k := fun k hk => (ho.1 k hk).2.2
  obtain ⟨h1, h2, h3, h4, h5, h6, h7, h8⟩ := h
  refine ⟨?_, ?_, ?_, ?_, fun x hx => ?_, ?_, ?_, ?_⟩
  · unfold EdIs at *
    rw [hF 1 (by decide), hI 2 (by decide), hI 3 (by decide), hI 4 (by decide)]
    exact h1
  · unfold StIs at *
    rw [hF 5 (by decide), hI (5 + 1) (by decide), hI (5 + 2) (by decide), hI (5 + 3) (by decide), hI (5 + 4) (by decide)]
    exact h2
  · unfold StIs at *
    rw [hF 15 (by decide), hI (15 + 1) (by decide), hI (15 + 2) (by decide), hI (15 + 3) (by decide), hI (15 + 4) (by decide)]
    exact h3
  · unfold TxIs at *
    rw [hF 0 (by decide), hI 20 (by decide)]
    exact h4
  · have h5 := h5 x hx
    cases hA : aX a x with
    | none =>
      rw [hA] at h5
      dsimp only at h5 ⊢
      rw [hF _ (by omega)]
      exact h5
    | some A =>
      rw [hA] at h5
      dsimp only at h5 ⊢
      unfold ExIs at *
      rw [hF (51 + 3 * x) (by omega), hI (51 + 3 * x + 1) (by omega), hI (51 + 3 * x + 2) (by omega)]
      exact h5
  · unfold WsIs at *
    rw [ho.2]
    exact h6
  · unfold SdIs at *
    rw [hF 49 (by decide), hI 50 (by decide)]
    exact h7
  · unfold CtIs at *
    rw [hF 0 (by decide)]
    exact h8
section RtScript
variable {M : MD} {L : Nat} {xs : Nat → Int32} {pc nx a b : Nat} {c : Int32} {cl : Int64} {lv : List (Option Value)} {st : List Value} {τ : Ty} {Q : Option Value → Ty → Prop}
theorem rt_sld {x : Int32} (j : Nat) (hq : lk (mTab M) pc = some (.iaload, nx, a, b, c, cl)) (hj : j < L) (hL : L < 2 ^ 31) (K : RT M (some (L, xs)) nx lv (.int (xs j) :: st) τ Q) (hx : x = nI j) : RT M (some (L, xs)) pc lv (.int x :: .ref 1000000 :: st) τ Q := fun bc bs => by
  subst hx
  refine rj_sld hq (vp_in_nI hj hL) ?_
  rw [nI_clamp (by omega)]
  exact K bc bs
theorem rt_slen (hq : lk (mTab M) pc = some (.arraylength, nx, a, b, c, cl)) (K : RT M (some (L, xs)) nx lv (.int (nI L) :: st) τ Q) : RT M (some (L, xs)) pc lv (.ref 1000000 :: st) τ Q := fun bc bs => rj_slen hq (K bc bs)
end RtScript
theorem and31 (x : Int32) : ∃ n, n < 32 ∧ x &&& 31 = nI n := by
  obtain ⟨m, -, rfl⟩ := wb_of32 x
  refine ⟨m &&& 31, ?_, ?_⟩
  · have : m &&& 31 ≤ 31 := Nat.and_le_right
    omega
  · rw [show (31 : Int32) = nI 31 from rfl, and_nI]

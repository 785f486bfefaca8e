/-! the reference's does, depth, behind beside the class's reader -/
def OptC (v : Int32 × Int32) (c : Option (Int32 × Int32)) : Prop := (c = none ∧ v = (0, 0)) ∨ c = some v
def OptR (v : Int32 × Int32) (r : Option (Int32 × Int32)) : Prop := (r = none ∧ v = (1, 1)) ∨ r = some v
def bO : Option (Int32 × Int32) → List Nat
  | none => []
  | some _ => [124]
def dO : Option (Int32 × Int32) → List Nat
  | none => []
  | some _ => [46]
def BaseP (rf rl cf cl : Nat → Int32) : Nat → List Nat → List (Int32 × Int32) → Prop
  | 0, O, P => O = [] ∧ P = []
  | d + 1, O, P => ∃ O0 P0 c r, BaseP rf rl cf cl d O0 P0 ∧ OptC (cf d, cl d) c ∧ OptR (rf d, rl d) r ∧ O = O0 ++ (bO c ++ dO r) ++ [40] ∧ P = P0 ++ (c.toList ++ r.toList)
def c40 (c : Nat) : Nat := if c = 40 then 1 else 0
theorem base_end {rf rl cf cl : Nat → Int32} {d : Nat} {O : List Nat} {P : List (Int32 × Int32)} (h : BaseP rf rl cf cl d O P) : O = [] ∨ ∃ O', O = O' ++ [40] := by
  cases d with
  | zero => exact Or.inl h.1
  | succ d =>
    obtain ⟨O0, P0, c, r, -, -, -, e, -⟩ := h
    exact Or.inr ⟨_, e⟩
theorem lv_cnt (c r : Option (Int32 × Int32)) : sm (bO c ++ dO r) c40 = 0 := by
  cases c <;> cases r <;> rfl
theorem base_cnt {rf rl cf cl : Nat → Int32} {d : Nat} {O : List Nat} {P : List (Int32 × Int32)} (h : BaseP rf rl cf cl d O P) : sm O c40 = d := by
  induction d generalizing O P with
  | zero => rw [h.1]; rfl
  | succ d ih =>
    obtain ⟨O0, P0, c, r, h1, -, -, e, -⟩ := h
    rw [e, sm_app, sm_app, ih h1, lv_cnt]
    rfl
theorem base_cong {rf rl cf cl rf' rl' cf' cl' : Nat → Int32} {d : Nat} {O : List Nat} {P : List (Int32 × Int32)} (he : ∀ j, j < d → rf' j = rf j ∧ rl' j = rl j ∧ cf' j = cf j ∧ cl' j = cl j) (h : BaseP rf rl cf cl d O P) : BaseP rf' rl' cf' cl' d O P := by
  induction d generalizing O P with
  | zero => exact h
  | succ d ih =>
    obtain ⟨O0, P0, c, r, h1, h2, h3, e1, e2⟩ := h
    obtain ⟨g1, g2, g3, g4⟩ := he d (by omega)
    exact ⟨O0, P0, c, r, ih (fun j hj => he j (by omega)) h1, by rw [g3, g4]; exact h2, by rw [g1, g2]; exact h3, e1, e2⟩
def MStP (τ : Ty) (a b : Nat) (rf rl cf cl : Nat → Int32) (d : Nat) (cur : Option (Int32 × Int32)) (fol be : Nat → Int32) (n : Nat) : Prop :=
  ∃ O0 P0 c r, BaseP rf rl cf cl d O0 P0 ∧ OptC (cf d, cl d) c ∧ OptR (rf d, rl d) r ∧ OAtM τ (O0 ++ (bO c ++ dO r)) ∧ PAtM τ (P0 ++ (c.toList ++ r.toList) ++ cur.toList) ∧ DAtM τ fol be n ∧ (O0 ++ (bO c ++ dO r)).length ≤ a ∧ (P0 ++ (c.toList ++ r.toList) ++ cur.toList).length ≤ b
def MSt (τ : Ty) (i : Nat) : PSt → Prop
  | (rf, rl, cf, cl, pf, pl, sg, d, fol, be, n) => MStP τ (2 * i) i rf rl cf cl d (if sg = 2 then some (pf, pl) else none) fol be n
theorem MStP.of2 {ks fs : List Nat} {τ τ' : Ty} {a b d n : Nat} {rf rl cf cl fol be : Nat → Int32} {cur : Option (Int32 × Int32)} (h : MStP τ a b rf rl cf cl d cur fol be n) (ho : OfM ks fs τ τ') (h1 : 72 ∉ ks ∧ 73 ∉ ks ∧ 74 ∉ ks ∧ 75 ∉ ks ∧ 76 ∉ ks ∧ 77 ∉ ks) (h2 : 15 ∉ fs ∧ 18 ∉ fs ∧ 22 ∉ fs) : MStP τ' a b rf rl cf cl d cur fol be n := by
  obtain ⟨O0, P0, c, r, g1, g2, g3, g4, g5, g6, g7⟩ := h
  exact ⟨O0, P0, c, r, g1, g2, g3, g4.of ho ⟨h1.2.2.1, h2.2.1⟩, g5.of ho ⟨h1.2.2.2.1, h1.2.2.2.2.1, h1.2.2.2.2.2, h2.2.2⟩, g6.of ho ⟨h1.1, h1.2.1, h2.1⟩, g7⟩
theorem dotJ_1 (q : Int32 × Int32) : dotJ (1, 1) q = q := by
  unfold dotJ
  have e1 : ¬ ((1 : Int32) &&& 1 = 0) := by decide
  dsimp only
  rw [if_neg e1, show ((1 : Int32) &&& -2) = 0 from by decide, Int32.zero_or]
  refine Prod.ext rfl ?_
  show (if q.2 &&& 1 = 0 then q.2 else 1 ||| (q.2 &&& -2)) = q.2
  split
  · rfl
  · rename_i h
    apply b_ext
    intro i hi
    rw [b_or, b_and, b_one hi, b_m2 hi]
    by_cases h0 : i = 0
    · subst h0
      cases hb : bt q.2 0 with
      | false => exact absurd (and1_bt.mpr hb) h
      | true => rfl
    · simp [h0]
theorem lnkF_1 (fol : Nat → Int32) (n : Nat) (b : Int32) : lnkF fol n 1 b = fol := by
  funext p
  unfold lnkF
  rw [if_neg]
  rintro ⟨h1, h2, h3⟩
  by_cases hp : p < 32
  · rw [b_one hp] at h3
    have := of_decide_eq_true h3
    omega
  · rw [b_big (by omega)] at h3
    cases h3
theorem pClose_2 {rf rl cf cl fol be : Nat → Int32} {pf pl : Int32} {d n : Nat} : pClose (rf, rl, cf, cl, pf, pl, 2, d, fol, be, n) = (upd rf d (dotJ (rf d, rl d) (pf, pl)).1, upd rl d (dotJ (rf d, rl d) (pf, pl)).2, cf, cl, pf, pl, 2, d, lnkF fol n (rl d) pf, be, n) := rfl
section MdParse
variable {τ : Ty} {Q : Option Value → Ty → Prop}
theorem ole {x : Int32} {n : Nat} (h : x = nI (n + 1)) (hn : n < 1000) : ¬ x ≤ 0 := by
  subst h
  intro hc
  rw [Int32.le_iff_toInt_le, nI_toInt (by omega)] at hc
  have : (0 : Int32).toInt = 0 := by decide
  omega
theorem mDoes_end {O : List Nat} {b : Bool} (hO : OAtM τ O) (hl : O.length < 170) (he : O = [] ∨ ∃ O' x, O = O' ++ [x] ∧ x ≠ 46 ∧ (b = true → x ≠ 124)) (h : Q none τ) : RT mX11_does none 0 [some (.ref 63), some (.int (b01 b))] [] τ Q := by
  have fin : RT mX11_does none 69 [some (.ref 63), some (.int (b01 b))] [] τ Q := rt_vret rfl rfl h
  refine rt_run 2 rfl ?_
  rcases he with rfl | ⟨O', x, rfl, hx1, hx2⟩
  · exact rt_if_le rfl (fun _ => fin) (fun hc => absurd (by rw [hO.1]; decide) hc)
  · have hlen : (O' ++ [x]).length = O'.length + 1 := by rw [List.length_append]; rfl
    rw [hlen] at hl
    have e18 : gF τ 63 18 = nI (O'.length + 1) := by rw [hO.1, hlen]
    have hget : (O' ++ [x])[O'.length]? = some x := by rw [List.getElem?_append_right (Nat.le_refl _), Nat.sub_self]; rfl
    obtain ⟨g1, g2⟩ := hO.2 _ _ hget
    refine rt_if_le rfl (fun hc => absurd hc (ole e18 (by omega))) (fun _ => ?_)
    refine rt_run 6 rfl ?_
    refine rt_ld O'.length rfl (n := 170) rfl (by omega) ?_ (by rw [e18, nI_pred])
    rw [g1]
    refine rt_run 1 rfl ?_
    refine rt_eq x 46 rfl (by omega) (by omega) (fun e => absurd e hx1) (fun _ => ?_)
    refine rt_run 1 rfl ?_
    cases b with
    | false => exact rt_if_eq rfl (fun _ => fin) (fun hc => absurd rfl hc)
    | true =>
      refine rt_if_eq rfl (fun hc => absurd hc (by decide)) (fun _ => ?_)
      refine rt_run 6 rfl ?_
      refine rt_ld O'.length rfl (n := 170) rfl (by omega) ?_ (by rw [e18, nI_pred])
      rw [g1]
      refine rt_run 1 rfl ?_
      exact rt_ne x 124 rfl (by omega) (by omega) (fun _ => fin) (fun e => absurd e (hx2 rfl))
theorem oat_pop {τ τ' : Ty} {O : List Nat} {x : Nat} (hO : OAtM τ (O ++ [x])) (h1 : gF τ' 63 18 = nI O.length) (h2 : gI τ' 74 = gI τ 74) : OAtM τ' O := by
  refine ⟨h1, fun i c hc => ?_⟩
  rw [h2]
  exact hO.2 i c (by rw [List.getElem?_append_left (List.getElem?_eq_some_iff.mp hc).1]; exact hc)
theorem oat_push {τ τ' : Ty} {O : List Nat} {x : Nat} (hO : OAtM τ O) (hx : x < 128) (h1 : gF τ' 63 18 = nI (O.length + 1)) (h2 : gI τ' 74 = upd (gI τ 74) O.length (nI x)) : OAtM τ' (O ++ [x]) := by
  refine ⟨by rw [h1, List.length_append]; rfl, fun i c hc => ?_⟩
  rw [h2]
  rcases getApp hc with ⟨hi, hc⟩ | ⟨rfl, rfl⟩
  · rw [pk_un (by omega)]; exact hO.2 i c hc
  · rw [pk_us]; exact ⟨rfl, hx⟩
theorem mDoes_dot {O : List Nat} {P : List (Int32 × Int32)} {qa qb : Int32 × Int32} {fol be : Nat → Int32} {n : Nat} {b : Bool} (hO : OAtM τ (O ++ [46])) (hl : O.length < 165) (hP : PAtM τ (P ++ [qa, qb])) (hpl : P.length < 80) (hD : DAtM τ fol be n) (hup : up n qa.2)
    (h : ∀ τ', OfM [72, 75, 76, 77] [18, 22] τ τ' → OAtM τ' O → PAtM τ' (P ++ [dotJ qa qb]) → DAtM τ' (lnkF fol n qa.2 qb.1) be n → RT mX11_does none 0 [some (.ref 63), some (.int (b01 b))] [] τ' Q) : RT mX11_does none 0 [some (.ref 63), some (.int (b01 b))] [] τ Q := by
  have hlen : (O ++ [46]).length = O.length + 1 := by rw [List.length_append]; rfl
  have e18 : gF τ 63 18 = nI (O.length + 1) := by rw [hO.1, hlen]
  have hget : (O ++ [46])[O.length]? = some 46 := by rw [List.getElem?_append_right (Nat.le_refl _), Nat.sub_self]; rfl
  obtain ⟨g1, g2⟩ := hO.2 _ _ hget
  refine rt_run 2 rfl ?_
  refine rt_if_le rfl (fun hc => absurd hc (ole e18 (by omega))) (fun _ => ?_)
  refine rt_run 6 rfl ?_
  refine rt_ld O.length rfl (n := 170) rfl (by omega) ?_ (by rw [e18, nI_pred])
  rw [g1]
  refine rt_run 1 rfl ?_
  refine rt_eq 46 46 rfl (by omega) (by omega) (fun _ => ?_) (fun hc => absurd rfl hc)
  refine rt_run 6 rfl ?_
  rw [e18, nI_pred]
  refine rt_run 5 rfl ?_
  have hO1 : OfM [72, 75, 76, 77] [18, 22] τ (sF τ 63 18 (nI O.length)) := (OfM.rf _ _ τ).sF (by simp) _
  have hA1 : OAtM (sF τ 63 18 (nI O.length)) O := oat_pop hO rfl rfl
  refine rt_ld O.length rfl (n := 170) rfl (by omega) ?_
  rw [show gI (sF τ 63 18 (nI O.length)) 74 O.length = nI 46 from g1]
  have hP1 : PAtM (sF τ 63 18 (nI O.length)) (P ++ [qa, qb]) := hP
  have hD1 : DAtM (sF τ 63 18 (nI O.length)) fol be n := hD
  refine rt_cV (ci := 11) mX11_joins kX11_does_63 okX11_joins rfl rfl rfl rfl rfl ?_
  refine mJoins_spec hP1 hpl hD1 hup (fun τ2 hO2 _ hP2 hD2 => ?_)
  refine rt_run 1 rfl ?_
  exact h τ2 (hO1.tr (hO2.up (by simp) (by simp))) (hA1.of hO2 (by decide)) hP2 hD2
theorem mDoes_bar {O : List Nat} {P : List (Int32 × Int32)} {qa qb : Int32 × Int32} (hO : OAtM τ (O ++ [124])) (hl : O.length < 165) (hP : PAtM τ (P ++ [qa, qb])) (hpl : P.length < 80)
    (h : ∀ τ', OfM [75, 76, 77] [18, 22] τ τ' → OAtM τ' O → PAtM τ' (P ++ [barJ qa qb]) → RT mX11_does none 0 [some (.ref 63), some (.int (b01 true))] [] τ' Q) : RT mX11_does none 0 [some (.ref 63), some (.int (b01 true))] [] τ Q := by
  have hlen : (O ++ [124]).length = O.length + 1 := by rw [List.length_append]; rfl
  have e18 : gF τ 63 18 = nI (O.length + 1) := by rw [hO.1, hlen]
  have hget : (O ++ [124])[O.length]? = some 124 := by rw [List.getElem?_append_right (Nat.le_refl _), Nat.sub_self]; rfl
  obtain ⟨g1, g2⟩ := hO.2 _ _ hget
  refine rt_run 2 rfl ?_
  refine rt_if_le rfl (fun hc => absurd hc (ole e18 (by omega))) (fun _ => ?_)
  refine rt_run 6 rfl ?_
  refine rt_ld O.length rfl (n := 170) rfl (by omega) ?_ (by rw [e18, nI_pred])
  rw [g1]
  refine rt_run 1 rfl ?_
  refine rt_eq 124 46 rfl (by omega) (by omega) (fun hc => absurd hc (by decide)) (fun _ => ?_)
  refine rt_run 1 rfl ?_
  refine rt_if_eq rfl (fun hc => absurd hc (by decide)) (fun _ => ?_)
  refine rt_run 6 rfl ?_
  refine rt_ld O.length rfl (n := 170) rfl (by omega) ?_ (by rw [e18, nI_pred])
  rw [g1]
  refine rt_run 1 rfl ?_
  refine rt_ne 124 124 rfl (by omega) (by omega) (fun hc => absurd rfl hc) (fun _ => ?_)
  refine rt_run 6 rfl ?_
  rw [e18, nI_pred]
  refine rt_run 5 rfl ?_
  have hO1 : OfM [75, 76, 77] [18, 22] τ (sF τ 63 18 (nI O.length)) := (OfM.rf _ _ τ).sF (by simp) _
  have hA1 : OAtM (sF τ 63 18 (nI O.length)) O := oat_pop hO rfl rfl
  refine rt_ld O.length rfl (n := 170) rfl (by omega) ?_
  rw [show gI (sF τ 63 18 (nI O.length)) 74 O.length = nI 124 from g1]
  have hP1 : PAtM (sF τ 63 18 (nI O.length)) (P ++ [qa, qb]) := hP
  refine rt_cV (ci := 11) mX11_joins kX11_does_63 okX11_joins rfl rfl rfl rfl rfl ?_
  refine mJoinsB_spec hP1 hpl (fun τ2 hO2 hP2 => ?_)
  refine rt_run 1 rfl ?_
  exact h τ2 (hO1.tr (hO2.up (by simp) (by simp))) (hA1.of hO2 (by decide)) hP2
theorem mDepth_spec {O : List Nat} (hO : OAtM τ O) (hl : O.length ≤ 170) (h : Q (some (.int (nI (sm O c40)))) τ) : RT mX11_depth none 0 [some (.ref 63), none, none] [] τ Q := by
  have loop : ∀ d k, k + d = O.length → RT mX11_depth none 4 [some (.ref 63), some (.int (nI (sm (O.take k) c40))), some (.int (nI k))] [] τ Q := by
    intro d
    induction d with
    | zero =>
      intro k hk
      have : k = O.length := by omega
      subst this
      refine rt_run 3 rfl ?_
      refine rt_ge O.length O.length rfl (by omega) (by omega) (fun _ => ?_) (fun _ => by omega) rfl hO.1
      refine rt_run 1 rfl ?_
      rw [List.take_length]
      exact rt_iret rfl rfl h
    | succ d ih =>
      intro k hk
      have hlt : k < O.length := by omega
      have hq : O[k]? = some O[k] := List.getElem?_eq_getElem hlt
      obtain ⟨g1, g2⟩ := hO.2 _ _ hq
      generalize O[k] = c at hq g1 g2
      have hih := ih (k + 1) (by omega)
      have es : sm (O.take (k + 1)) c40 = sm (O.take k) c40 + c40 c := by rw [List.take_add_one, hq, sm_app]; rfl
      rw [es, nI_succ, ← nI_add] at hih
      refine rt_run 3 rfl ?_
      refine rt_ge k O.length rfl (by omega) (by omega) (fun _ => by omega) (fun _ => ?_) rfl hO.1
      refine rt_run 4 rfl ?_
      refine rt_ld k rfl (n := 170) rfl (by omega) ?_
      rw [g1]
      refine rt_run 1 rfl ?_
      unfold c40 at hih
      refine rt_ne c 40 rfl (by omega) (by omega) (fun e => ?_) (fun e => ?_)
      · rw [if_neg e] at hih
        refine rt_run 1 rfl ?_
        refine rt_run 4 rfl ?_
        exact hih
      · rw [if_pos e] at hih
        refine rt_run 2 rfl ?_
        refine rt_run 4 rfl ?_
        exact hih
  refine rt_run 4 rfl ?_
  exact loop O.length 0 (by omega)
theorem end_lv {rf rl cf cl : Nat → Int32} {d : Nat} {O : List Nat} {P : List (Int32 × Int32)} {b : Bool} (h : BaseP rf rl cf cl d O P) : O = [] ∨ ∃ O' x, O = O' ++ [x] ∧ x ≠ 46 ∧ (b = true → x ≠ 124) := by
  rcases base_end h with h | ⟨O', h⟩
  · exact Or.inl h
  · exact Or.inr ⟨O', 40, h, by decide, fun _ => by decide⟩
/-- the row is closed: its part is joined -/
theorem mRow {i d n : Nat} {a : Bool} {rf rl fol be : Nat → Int32} {pf pl : Int32} {O0 : List Nat} {P0 : List (Int32 × Int32)} {c r : Option (Int32 × Int32)} (hi : i ≤ 80) (hR : OptR (rf d, rl d) r) (hO : OAtM τ (O0 ++ (bO c ++ dO r))) (hP : PAtM τ (P0 ++ (c.toList ++ r.toList) ++ [(pf, pl)])) (hD : DAtM τ fol be n) (hol : (O0 ++ (bO c ++ dO r)).length ≤ 2 * i) (hpl : (P0 ++ (c.toList ++ r.toList) ++ [(pf, pl)]).length ≤ i) (hup : up n (rl d))
    (h : ∀ τ', OfM [72, 75, 76, 77] [18, 22] τ τ' → OAtM τ' (O0 ++ bO c) → PAtM τ' (P0 ++ c.toList ++ [dotJ (rf d, rl d) (pf, pl)]) → DAtM τ' (lnkF fol n (rl d) pf) be n → RT mX11_does none 0 [some (.ref 63), some (.int (b01 a))] [] τ' Q) : RT mX11_does none 0 [some (.ref 63), some (.int (b01 a))] [] τ Q := by
  rcases hR with ⟨rfl, e⟩ | rfl
  · have e1 : rf d = 1 := congrArg Prod.fst e
    have e2 : rl d = 1 := congrArg Prod.snd e
    rw [e1, e2, dotJ_1, lnkF_1] at h
    have hO : OAtM τ (O0 ++ (bO c ++ [])) := hO
    have hP : PAtM τ (P0 ++ (c.toList ++ []) ++ [(pf, pl)]) := hP
    rw [List.append_nil] at hO hP
    exact h τ (OfM.rf _ _ _) hO hP hD
  · have hO : OAtM τ (O0 ++ (bO c ++ [46])) := hO
    have hP : PAtM τ (P0 ++ (c.toList ++ [(rf d, rl d)]) ++ [(pf, pl)]) := hP
    rw [← List.append_assoc] at hO
    rw [← List.append_assoc, List.append_assoc] at hP
    have hol : (O0 ++ (bO c ++ [46])).length ≤ 2 * i := hol
    have hpl : (P0 ++ (c.toList ++ [(rf d, rl d)]) ++ [(pf, pl)]).length ≤ i := hpl
    simp only [List.length_append, List.length_singleton] at hol hpl
    exact mDoes_dot hO (by rw [List.length_append]; omega) hP (by rw [List.length_append]; omega) hD hup h
/-- the choice is closed -/
theorem mClose {i d n : Nat} {rf rl cf cl fol be : Nat → Int32} {pf pl : Int32} {O0 : List Nat} {P0 : List (Int32 × Int32)} {c r : Option (Int32 × Int32)} (hi : i ≤ 80) (hB : BaseP rf rl cf cl d O0 P0) (hC : OptC (cf d, cl d) c) (hR : OptR (rf d, rl d) r) (hO : OAtM τ (O0 ++ (bO c ++ dO r))) (hP : PAtM τ (P0 ++ (c.toList ++ r.toList) ++ [(pf, pl)])) (hD : DAtM τ fol be n) (hol : (O0 ++ (bO c ++ dO r)).length ≤ 2 * i) (hpl : (P0 ++ (c.toList ++ r.toList) ++ [(pf, pl)]).length ≤ i) (hup : up n (rl d))
    (h : ∀ τ', OfM [72, 75, 76, 77] [18, 22] τ τ' → OAtM τ' O0 → PAtM τ' (P0 ++ [barJ (cf d, cl d) (dotJ (rf d, rl d) (pf, pl))]) → DAtM τ' (lnkF fol n (rl d) pf) be n → Q none τ') : RT mX11_does none 0 [some (.ref 63), some (.int (b01 true))] [] τ Q := by
  refine mRow (a := true) hi hR hO hP hD hol hpl hup (fun τ1 hO1 hA1 hP1 hD1 => ?_)
  have hl0 : O0.length ≤ 160 ∧ P0.length + 1 ≤ 80 := by
    simp only [List.length_append, List.length_singleton] at hol hpl
    omega
  rcases hC with ⟨rfl, e⟩ | rfl
  · have e1 : cf d = 0 := congrArg Prod.fst e
    have e2 : cl d = 0 := congrArg Prod.snd e
    have hA1 : OAtM τ1 (O0 ++ []) := hA1
    have hP1 : PAtM τ1 (P0 ++ [] ++ [dotJ (rf d, rl d) (pf, pl)]) := hP1
    rw [List.append_nil] at hA1 hP1
    have eb : barJ (cf d, cl d) (dotJ (rf d, rl d) (pf, pl)) = dotJ (rf d, rl d) (pf, pl) := by
      unfold barJ
      rw [e1, e2]
      dsimp only
      rw [Int32.zero_or, Int32.zero_or]
    rw [eb] at h
    exact mDoes_end hA1 (by omega) (end_lv hB) (h τ1 hO1 hA1 hP1 hD1)
  · have hA1 : OAtM τ1 (O0 ++ [124]) := hA1
    have hP1 : PAtM τ1 (P0 ++ [(cf d, cl d)] ++ [dotJ (rf d, rl d) (pf, pl)]) := hP1
    rw [List.append_assoc] at hP1
    have hpl : (P0 ++ ([(cf d, cl d)] ++ r.toList) ++ [(pf, pl)]).length ≤ i := hpl
    simp only [List.length_append, List.length_singleton] at hpl
    refine mDoes_bar hA1 (by omega) hP1 (by omega) (fun τ2 hO2 hA2 hP2 => ?_)
    exact mDoes_end hA2 (by omega) (end_lv hB) (h τ2 (hO1.tr (hO2.up (by simp) (by simp))) hA2 hP2 (hD1.of hO2 (by decide)))
theorem mBehind_spec {i d n sg : Nat} {rf rl cf cl fol be : Nat → Int32} {pf pl : Int32} (hi : i ≤ 80) (hS : MSt τ i (rf, rl, cf, cl, pf, pl, sg, d, fol, be, n)) (hup : up n (rl d))
    (h : ∀ τ', OfM [72, 74, 75, 76, 77] [18, 22] τ τ' → (∀ rf' rl' fol', pClose (rf, rl, cf, cl, pf, pl, sg, d, fol, be, n) = (rf', rl', cf, cl, pf, pl, sg, d, fol', be, n) → MStP τ' (2 * i + 1) i rf' rl' cf cl d none fol' be n) → Q none τ') : RT mX11_behind none 0 [some (.ref 63), some (.int (b01 (decide (sg = 2))))] [] τ Q := by
  obtain ⟨O0, P0, c, r, hB, hC, hR, hO, hP, hD, hol, hpl⟩ := hS
  refine rt_run 1 rfl ?_
  by_cases hs : sg = 2
  · subst hs
    rw [if_pos rfl] at hP hpl
    rw [decide_eq_true rfl]
    refine rt_if_eq rfl (fun hc => absurd hc (by decide)) (fun _ => ?_)
    refine rt_run 2 rfl ?_
    refine rt_cV (ci := 11) mX11_does kX11_behind_6 okX11_does rfl rfl rfl rfl rfl ?_
    refine mRow (a := false) hi hR hO hP hD hol hpl hup (fun τ1 hO1 hA1 hP1 hD1 => ?_)
    have hend : O0 ++ bO c = [] ∨ ∃ O' x, O0 ++ bO c = O' ++ [x] ∧ x ≠ 46 ∧ (false = true → x ≠ 124) := by
      cases c with
      | none =>
        show O0 ++ [] = [] ∨ _
        have e : O0 ++ bO none = O0 := List.append_nil _
        rw [e, List.append_nil]
        exact end_lv hB
      | some q => exact Or.inr ⟨O0, 124, rfl, by decide, fun e => by cases e⟩
    have hl1 : (O0 ++ bO c).length ≤ 2 * i := by
      simp only [List.length_append] at hol ⊢
      omega
    have hl2 : (P0 ++ c.toList ++ [dotJ (rf d, rl d) (pf, pl)]).length ≤ i := by
      have hpl : (P0 ++ (c.toList ++ r.toList) ++ [(pf, pl)]).length ≤ i := hpl
      simp only [List.length_append, List.length_singleton] at hpl ⊢
      omega
    refine mDoes_end hA1 (by omega) hend ?_
    refine rt_run 5 rfl ?_
    refine rt_st (O0 ++ bO c).length rfl (n := 170) rfl (by omega) ?_ hA1.1
    refine rt_run 6 rfl ?_
    refine rt_vret rfl rfl (h _ (((hO1.up (by simp) (by simp)).sI (by simp) _ _).sF (by simp) _) (fun rf' rl' fol' e => ?_))
    rw [pClose_2] at e
    cases e
    refine ⟨O0, P0, c, some (dotJ (rf d, rl d) (pf, pl)), base_cong (fun j hj => ?_) hB, hC, Or.inr ?_, ?_, ?_, hD1, ?_, ?_⟩
    · rw [pk_un (by omega), pk_un (by omega)]
      exact ⟨rfl, rfl, rfl, rfl⟩
    · rw [pk_us, pk_us]
    · rw [← List.append_assoc]
      refine oat_push hA1 (by decide) ?_ rfl
      rw [gF_sF, if_pos rfl, pk_us]
      show gF τ1 63 18 + 1 = _
      rw [hA1.1, ← nI_succ]
    · show PAtM _ (P0 ++ (c.toList ++ [dotJ (rf d, rl d) (pf, pl)]) ++ [])
      rw [List.append_nil, ← List.append_assoc]
      exact hP1
    · show (O0 ++ (bO c ++ [46])).length ≤ _
      rw [← List.append_assoc, List.length_append, List.length_singleton]
      omega
    · show (P0 ++ (c.toList ++ [dotJ (rf d, rl d) (pf, pl)]) ++ []).length ≤ _
      rw [List.append_nil, ← List.append_assoc]
      exact hl2
  · rw [decide_eq_false hs]
    refine rt_if_eq rfl (fun _ => ?_) (fun hc => absurd rfl hc)
    refine rt_vret rfl rfl (h τ (OfM.rf _ _ _) (fun rf' rl' fol' e => ?_))
    have ep : pClose (rf, rl, cf, cl, pf, pl, sg, d, fol, be, n) = (rf, rl, cf, cl, pf, pl, sg, d, fol, be, n) := by simp only [pClose, if_neg hs]
    rw [ep] at e
    cases e
    rw [if_neg hs] at hP hpl
    exact ⟨O0, P0, c, r, hB, hC, hR, hO, hP, hD, by omega, hpl⟩
end MdParse

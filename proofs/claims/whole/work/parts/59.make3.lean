/-! the two large constructors -/
theorem fo_getR {σ0 r : List va_E} {e : va_E} (j : Nat) : (σ0 ++ e :: r)[σ0.length + (j + 1)]? = r[j]? := by
  rw [List.getElem?_append_right (by omega), show σ0.length + (j + 1) - σ0.length = j + 1 by omega]
  rfl
theorem fo_setR {σ0 r : List va_E} {e x : va_E} (j : Nat) : (σ0 ++ e :: r).set (σ0.length + (j + 1)) x = σ0 ++ e :: r.set j x := by
  rw [List.set_append_right _ _ (by omega), show σ0.length + (j + 1) - σ0.length = j + 1 by omega]
  rfl
def mdlO (n : Nat) : va_E := .inr (11, [.ref (n + 1), .int 0, .ref (n + 2), .ref (n + 3), .int 0, .ref (n + 4), .ref (n + 5), .ref (n + 6), .ref (n + 7), .int (-1), .ref (n + 8), .int 0, .int 0, .ref (n + 9), .ref (n + 10), .int 0, .int 0, .ref (n + 11), .int 0, .ref (n + 12), .ref (n + 13), .ref (n + 14), .int 0, .ref (n + 15), .ref (n + 16), .ref (n + 17), .ref (n + 18), .ref (n + 19), .ref (n + 20), .int 0, .ref (n + 21), .ref (n + 22), .int (-1)])
def mdlR (g : Nat → Int32) : List va_E := [zI 90, zI 3, zI 80, .inl (0, 4, .inl g), zI 100, zI 32, zI 4, zI 10, zI 25, zI 8, zI 170, zI 90, zI 90, zI 90, zI 10, zI 10, zI 10, zI 2600, zI 401, zI 401, zL 4000, zL 4000]
section Makes3
variable {σ0 : List va_E} {Q : Option Value → List va_E → Prop}
theorem x11_loop {bc bs : Nat} (h : ∀ g : Nat → Int32, (∀ j, j < 4 → g j = -1) → Q none (σ0 ++ mdlO σ0.length :: mdlR g)) : ∀ d k (g : Nat → Int32), k + d = 4 → (∀ j, j < k → g j = -1) → RJ mX11_init none bc bs 195 [some (.ref σ0.length), some (.int (nI k))] [] (σ0 ++ mdlO σ0.length :: mdlR g) Q := by
  intro d
  induction d with
  | zero =>
    intro k g hk hg
    have : k = 4 := by omega
    subst this
    refine rj_step rfl rfl ?_
    refine rj_step rfl rfl ?_
    refine rj_ic_ge rfl (fun _ => ?_) (fun hc => absurd (by decide) hc)
    exact rj_vret rfl rfl (h g hg)
  | succ d ih =>
    intro k g hk hg
    refine rj_step rfl rfl ?_
    refine rj_step rfl rfl ?_
    refine rj_ic_ge rfl (fun hc => ?_) (fun _ => ?_)
    · exact absurd hc (nI_ge (show k < 4 by omega) (by decide))
    · refine rj_step rfl rfl ?_
      refine rj_get rfl fo_get rfl ?_
      refine rj_step rfl rfl ?_
      refine rj_step rfl rfl ?_
      refine rj_iast rfl ((fo_getR 3).trans rfl) (vp_in_nI (show k < 4 by omega) (by decide)) ?_
      rw [show (σ0 ++ mdlO σ0.length :: mdlR g).set (σ0.length + 4) (.inl (0, 4, .inl (upd g (nI k).toNatClampNeg (-1)))) = σ0 ++ mdlO σ0.length :: mdlR (upd g (nI k).toNatClampNeg (-1)) from fo_setR 3]
      rw [nI_clamp (by omega)]
      refine rj_step rfl rfl ?_
      refine rj_step rfl rfl ?_
      have := ih (k + 1) (upd g k (-1)) (by omega) (fun j hj => ?_)
      · rw [nI_succ] at this
        exact this
      · by_cases hjk : j = k
        · subst hjk; rw [pk_us]
        · rw [pk_un hjk]; exact hg j (by omega)
theorem x11_i6 (h0 : σ0.length < 900000) (h : ∀ g : Nat → Int32, (∀ j, j < 4 → g j = -1) → Q none (σ0 ++ mdlO σ0.length :: mdlR g)) : RJ mX11_init none 0 0 193 [some (.ref σ0.length), none] [] (σ0 ++ .inr (11, [.ref (σ0.length + 1), .int 0, .ref (σ0.length + 2), .ref (σ0.length + 3), .int 0, .ref (σ0.length + 4), .ref (σ0.length + 5), .ref (σ0.length + 6), .ref (σ0.length + 7), .int (-1), .ref (σ0.length + 8), .int 0, .int 0, .ref (σ0.length + 9), .ref (σ0.length + 10), .int 0, .int 0, .ref (σ0.length + 11), .int 0, .ref (σ0.length + 12), .ref (σ0.length + 13), .ref (σ0.length + 14), .int 0, .ref (σ0.length + 15), .ref (σ0.length + 16), .ref (σ0.length + 17), .ref (σ0.length + 18), .ref (σ0.length + 19), .ref (σ0.length + 20), .int 0, .ref (σ0.length + 21), .ref (σ0.length + 22), .int (-1)]) :: [zI 90, zI 3, zI 80, zI 4, zI 100, zI 32, zI 4, zI 10, zI 25, zI 8, zI 170, zI 90, zI 90, zI 90, zI 10, zI 10, zI 10, zI 2600, zI 401, zI 401, zL 4000, zL 4000]) Q := by
  refine rj_step rfl rfl ?_
  refine rj_step rfl rfl ?_
  exact x11_loop h 4 0 (fun _ => 0) rfl (fun j hj => by omega)
theorem x11_i5 (h0 : σ0.length < 900000) (h : ∀ g : Nat → Int32, (∀ j, j < 4 → g j = -1) → Q none (σ0 ++ mdlO σ0.length :: mdlR g)) : RJ mX11_init none 3 8401 161 [some (.ref σ0.length), none] [] (σ0 ++ .inr (11, [.ref (σ0.length + 1), .int 0, .ref (σ0.length + 2), .ref (σ0.length + 3), .int 0, .ref (σ0.length + 4), .ref (σ0.length + 5), .ref (σ0.length + 6), .ref (σ0.length + 7), .int (-1), .ref (σ0.length + 8), .int 0, .int 0, .ref (σ0.length + 9), .ref (σ0.length + 10), .int 0, .int 0, .ref (σ0.length + 11), .int 0, .ref (σ0.length + 12), .ref (σ0.length + 13), .ref (σ0.length + 14), .int 0, .ref (σ0.length + 15), .ref (σ0.length + 16), .ref (σ0.length + 17), .ref (σ0.length + 18), .ref (σ0.length + 19), .null, .int 0, .null, .null, .int 0]) :: [zI 90, zI 3, zI 80, zI 4, zI 100, zI 32, zI 4, zI 10, zI 25, zI 8, zI 170, zI 90, zI 90, zI 90, zI 10, zI 10, zI 10, zI 2600, zI 401]) Q := by
  refine rj_step rfl rfl ?_
  refine rj_step rfl rfl ?_
  refine fo_newI 401 rfl h0 rfl (by decide) rfl rfl rfl rfl ?_
  refine fo_putF rfl rfl rfl rfl rfl (fun _ _ => rfl) (fun _ _ => rfl) ?_
  refine rj_step rfl rfl ?_
  refine rj_step rfl rfl ?_
  refine fo_newL 4000 rfl h0 rfl (by decide) rfl rfl rfl rfl ?_
  refine fo_putF rfl rfl rfl rfl rfl (fun _ _ => rfl) (fun _ _ => rfl) ?_
  refine rj_step rfl rfl ?_
  refine rj_step rfl rfl ?_
  refine fo_newL 4000 rfl h0 rfl (by decide) rfl rfl rfl rfl ?_
  refine fo_putF rfl rfl rfl rfl rfl (fun _ _ => rfl) (fun _ _ => rfl) ?_
  refine rj_step rfl rfl ?_
  refine rj_step rfl rfl ?_
  refine fo_put rfl rfl rfl (fun _ _ => rfl) (fun _ _ => rfl) ?_
  exact x11_i6 h0 h
theorem x11_i4 (h0 : σ0.length < 900000) (h : ∀ g : Nat → Int32, (∀ j, j < 4 → g j = -1) → Q none (σ0 ++ mdlO σ0.length :: mdlR g)) : RJ mX11_init none 7 11422 127 [some (.ref σ0.length), none] [] (σ0 ++ .inr (11, [.ref (σ0.length + 1), .int 0, .ref (σ0.length + 2), .ref (σ0.length + 3), .int 0, .ref (σ0.length + 4), .ref (σ0.length + 5), .ref (σ0.length + 6), .ref (σ0.length + 7), .int (-1), .ref (σ0.length + 8), .int 0, .int 0, .ref (σ0.length + 9), .ref (σ0.length + 10), .int 0, .int 0, .ref (σ0.length + 11), .int 0, .ref (σ0.length + 12), .ref (σ0.length + 13), .ref (σ0.length + 14), .int 0, .ref (σ0.length + 15), .null, .null, .null, .null, .null, .int 0, .null, .null, .int 0]) :: [zI 90, zI 3, zI 80, zI 4, zI 100, zI 32, zI 4, zI 10, zI 25, zI 8, zI 170, zI 90, zI 90, zI 90, zI 10]) Q := by
  refine rj_step rfl rfl ?_
  refine rj_step rfl rfl ?_
  refine fo_newI 10 rfl h0 rfl (by decide) rfl rfl rfl rfl ?_
  refine fo_putF rfl rfl rfl rfl rfl (fun _ _ => rfl) (fun _ _ => rfl) ?_
  refine rj_step rfl rfl ?_
  refine rj_step rfl rfl ?_
  refine fo_newI 10 rfl h0 rfl (by decide) rfl rfl rfl rfl ?_
  refine fo_putF rfl rfl rfl rfl rfl (fun _ _ => rfl) (fun _ _ => rfl) ?_
  refine rj_step rfl rfl ?_
  refine rj_step rfl rfl ?_
  refine fo_newI 2600 rfl h0 rfl (by decide) rfl rfl rfl rfl ?_
  refine fo_putF rfl rfl rfl rfl rfl (fun _ _ => rfl) (fun _ _ => rfl) ?_
  refine rj_step rfl rfl ?_
  refine rj_step rfl rfl ?_
  refine fo_newI 401 rfl h0 rfl (by decide) rfl rfl rfl rfl ?_
  refine fo_putF rfl rfl rfl rfl rfl (fun _ _ => rfl) (fun _ _ => rfl) ?_
  exact x11_i5 h0 h
theorem x11_i3 (h0 : σ0.length < 900000) (h : ∀ g : Nat → Int32, (∀ j, j < 4 → g j = -1) → Q none (σ0 ++ mdlO σ0.length :: mdlR g)) : RJ mX11_init none 11 11702 95 [some (.ref σ0.length), none] [] (σ0 ++ .inr (11, [.ref (σ0.length + 1), .int 0, .ref (σ0.length + 2), .ref (σ0.length + 3), .int 0, .ref (σ0.length + 4), .ref (σ0.length + 5), .ref (σ0.length + 6), .ref (σ0.length + 7), .int (-1), .ref (σ0.length + 8), .int 0, .int 0, .ref (σ0.length + 9), .ref (σ0.length + 10), .int 0, .int 0, .ref (σ0.length + 11), .int 0, .null, .null, .null, .int 0, .null, .null, .null, .null, .null, .null, .int 0, .null, .null, .int 0]) :: [zI 90, zI 3, zI 80, zI 4, zI 100, zI 32, zI 4, zI 10, zI 25, zI 8, zI 170]) Q := by
  refine rj_step rfl rfl ?_
  refine rj_step rfl rfl ?_
  refine fo_newI 90 rfl h0 rfl (by decide) rfl rfl rfl rfl ?_
  refine fo_putF rfl rfl rfl rfl rfl (fun _ _ => rfl) (fun _ _ => rfl) ?_
  refine rj_step rfl rfl ?_
  refine rj_step rfl rfl ?_
  refine fo_newI 90 rfl h0 rfl (by decide) rfl rfl rfl rfl ?_
  refine fo_putF rfl rfl rfl rfl rfl (fun _ _ => rfl) (fun _ _ => rfl) ?_
  refine rj_step rfl rfl ?_
  refine rj_step rfl rfl ?_
  refine fo_newI 90 rfl h0 rfl (by decide) rfl rfl rfl rfl ?_
  refine fo_putF rfl rfl rfl rfl rfl (fun _ _ => rfl) (fun _ _ => rfl) ?_
  refine rj_step rfl rfl ?_
  refine rj_step rfl rfl ?_
  refine fo_newI 10 rfl h0 rfl (by decide) rfl rfl rfl rfl ?_
  refine fo_putF rfl rfl rfl rfl rfl (fun _ _ => rfl) (fun _ _ => rfl) ?_
  exact x11_i4 h0 h
theorem x11_i2 (h0 : σ0.length < 900000) (h : ∀ g : Nat → Int32, (∀ j, j < 4 → g j = -1) → Q none (σ0 ++ mdlO σ0.length :: mdlR g)) : RJ mX11_init none 15 11915 62 [some (.ref σ0.length), none] [] (σ0 ++ .inr (11, [.ref (σ0.length + 1), .int 0, .ref (σ0.length + 2), .ref (σ0.length + 3), .int 0, .ref (σ0.length + 4), .ref (σ0.length + 5), .ref (σ0.length + 6), .ref (σ0.length + 7), .int (-1), .null, .int 0, .int 0, .null, .null, .int 0, .int 0, .null, .int 0, .null, .null, .null, .int 0, .null, .null, .null, .null, .null, .null, .int 0, .null, .null, .int 0]) :: [zI 90, zI 3, zI 80, zI 4, zI 100, zI 32, zI 4]) Q := by
  refine rj_step rfl rfl ?_
  refine rj_step rfl rfl ?_
  refine fo_newI 10 rfl h0 rfl (by decide) rfl rfl rfl rfl ?_
  refine fo_putF rfl rfl rfl rfl rfl (fun _ _ => rfl) (fun _ _ => rfl) ?_
  refine rj_step rfl rfl ?_
  refine rj_step rfl rfl ?_
  refine fo_newI 25 rfl h0 rfl (by decide) rfl rfl rfl rfl ?_
  refine fo_putF rfl rfl rfl rfl rfl (fun _ _ => rfl) (fun _ _ => rfl) ?_
  refine rj_step rfl rfl ?_
  refine rj_step rfl rfl ?_
  refine fo_newI 8 rfl h0 rfl (by decide) rfl rfl rfl rfl ?_
  refine fo_putF rfl rfl rfl rfl rfl (fun _ _ => rfl) (fun _ _ => rfl) ?_
  refine rj_step rfl rfl ?_
  refine rj_step rfl rfl ?_
  refine fo_newI 170 rfl h0 rfl (by decide) rfl rfl rfl rfl ?_
  refine fo_putF rfl rfl rfl rfl rfl (fun _ _ => rfl) (fun _ _ => rfl) ?_
  exact x11_i3 h0 h
theorem x11_i1 (h0 : σ0.length < 900000) (h : ∀ g : Nat → Int32, (∀ j, j < 4 → g j = -1) → Q none (σ0 ++ mdlO σ0.length :: mdlR g)) : RJ mX11_init none 18 12051 34 [some (.ref σ0.length), none] [] (σ0 ++ .inr (11, [.ref (σ0.length + 1), .int 0, .ref (σ0.length + 2), .ref (σ0.length + 3), .int 0, .ref (σ0.length + 4), .null, .null, .null, .int 0, .null, .int 0, .int 0, .null, .null, .int 0, .int 0, .null, .int 0, .null, .null, .null, .int 0, .null, .null, .null, .null, .null, .null, .int 0, .null, .null, .int 0]) :: [zI 90, zI 3, zI 80, zI 4]) Q := by
  refine rj_step rfl rfl ?_
  refine rj_step rfl rfl ?_
  refine fo_newI 100 rfl h0 rfl (by decide) rfl rfl rfl rfl ?_
  refine fo_putF rfl rfl rfl rfl rfl (fun _ _ => rfl) (fun _ _ => rfl) ?_
  refine rj_step rfl rfl ?_
  refine rj_step rfl rfl ?_
  refine fo_newI 32 rfl h0 rfl (by decide) rfl rfl rfl rfl ?_
  refine fo_putF rfl rfl rfl rfl rfl (fun _ _ => rfl) (fun _ _ => rfl) ?_
  refine rj_step rfl rfl ?_
  refine rj_step rfl rfl ?_
  refine fo_newI 4 rfl h0 rfl (by decide) rfl rfl rfl rfl ?_
  refine fo_putF rfl rfl rfl rfl rfl (fun _ _ => rfl) (fun _ _ => rfl) ?_
  refine rj_step rfl rfl ?_
  refine rj_step rfl rfl ?_
  refine fo_put rfl rfl rfl (fun _ _ => rfl) (fun _ _ => rfl) ?_
  exact x11_i2 h0 h
theorem x11_init (h0 : σ0.length < 900000) (h : ∀ g : Nat → Int32, (∀ j, j < 4 → g j = -1) → Q none (σ0 ++ mdlO σ0.length :: mdlR g)) : RJ mX11_init none 22 12228 0 [some (.ref σ0.length), none] [] (σ0 ++ .inr (11, [.null, .int 0, .null, .null, .int 0, .null, .null, .null, .null, .int 0, .null, .int 0, .int 0, .null, .null, .int 0, .int 0, .null, .int 0, .null, .null, .null, .int 0, .null, .null, .null, .null, .null, .null, .int 0, .null, .null, .int 0]) :: []) Q := by
  refine rj_step rfl rfl ?_
  refine rj_obj rfl (by decide +kernel) (by decide) (by decide) ?_
  refine rj_step rfl rfl ?_
  refine rj_step rfl rfl ?_
  refine fo_newI 90 rfl h0 rfl (by decide) rfl rfl rfl rfl ?_
  refine fo_putF rfl rfl rfl rfl rfl (fun _ _ => rfl) (fun _ _ => rfl) ?_
  refine rj_step rfl rfl ?_
  refine rj_step rfl rfl ?_
  refine fo_newI 3 rfl h0 rfl (by decide) rfl rfl rfl rfl ?_
  refine fo_putF rfl rfl rfl rfl rfl (fun _ _ => rfl) (fun _ _ => rfl) ?_
  refine rj_step rfl rfl ?_
  refine rj_step rfl rfl ?_
  refine fo_newI 80 rfl h0 rfl (by decide) rfl rfl rfl rfl ?_
  refine fo_putF rfl rfl rfl rfl rfl (fun _ _ => rfl) (fun _ _ => rfl) ?_
  refine rj_step rfl rfl ?_
  refine rj_step rfl rfl ?_
  refine fo_newI 4 rfl h0 rfl (by decide) rfl rfl rfl rfl ?_
  refine fo_putF rfl rfl rfl rfl rfl (fun _ _ => rfl) (fun _ _ => rfl) ?_
  exact x11_i1 h0 h
end Makes3
def clsO : va_E := .inr (10, [.ref 1, .ref 5, .ref 10, .ref 15, .ref 20, .int 0, .ref 21, .ref 22, .ref 30, .ref 34, .ref 38, .ref 45, .ref 49, .int 0, .int 0, .int 0])
def clsC0 : List va_E := clsO :: (cEdges 1 ++ (cSteps 5 ++ cSteps 10))
def arE (f : Nat → Option Nat) : va_E := .inl (2, 4, .inr (.inr (.inr (.inr f))))
def clsB0 : List va_E := clsC0 ++ (cSteps 15 ++ [zI 80])
def clsB1 : List va_E := cReader 22 ++ (cReach 30 ++ (cShort 34 ++ (cTally 38 ++ (cComp 45 ++ cStand 49))))
def clsE : Nat → List va_E
  | 0 => []
  | k + 1 => clsE k ++ cExp (51 + 3 * k)
def clsF : Nat → (Nat → Option Nat)
  | 0 => fun _ => none
  | k + 1 => va_up (clsF k) k (some (51 + 3 * k))
theorem clsE_len (k : Nat) : (clsE k).length = 3 * k := by
  induction k with
  | zero => rfl
  | succ k ih =>
    show (clsE k ++ cExp (51 + 3 * k)).length = _
    rw [List.length_append, ih]
    show 3 * k + 3 = _
    omega
theorem cls_len (k : Nat) : (clsB0 ++ arE (clsF k) :: (clsB1 ++ clsE k)).length = 51 + 3 * k := by
  rw [fo_len, List.length_append, clsE_len]
  show 21 + (29 + 3 * k + 1) = _
  omega
theorem clsF_4 : clsF 4 = exR := by
  funext j
  show (if j = 3 then some 60 else if j = 2 then some 57 else if j = 1 then some 54 else if j = 0 then some 51 else none) = (if j < 4 then some (51 + 3 * j) else none)
  by_cases h3 : j = 3
  · subst h3; rfl
  by_cases h2 : j = 2
  · subst h2; rfl
  by_cases h1 : j = 1
  · subst h1; rfl
  by_cases h0 : j = 0
  · subst h0; rfl
  rw [if_neg h3, if_neg h2, if_neg h1, if_neg h0, if_neg (by omega)]
def clsS (f1 f2 f3 f4 : Nat → Int32) (n : Nat) (R : List va_E) : List va_E := .inr (7, [.ref 16, .ref 17, .ref 18, .ref 19, .int (nI n)]) :: .inl (0, 60, .inl f1) :: .inl (0, 60, .inl f2) :: .inl (0, 60, .inl f3) :: .inl (0, 60, .inl f4) :: R
section Makes4
variable {Q : Option Value → List va_E → Prop}
theorem x7_put {C0 R : List va_E} {f1 f2 f3 f4 : Nat → Int32} {i : Nat} {u s v e : Int32} {bc bs : Nat} (hC : C0.length = 15) (hi : i < 60) (h : Q none (C0 ++ clsS (upd f1 i u) (upd f2 i s) (upd f3 i v) (upd f4 i e) (i + 1) R)) :
    RJ mX7_put none bc bs 0 [some (.ref 15), some (.int u), some (.int s), some (.int v), some (.int e)] [] (C0 ++ clsS f1 f2 f3 f4 i R) Q := by
  have g0 : ∀ a b r, (C0 ++ a :: b :: r)[15]? = some a := fun a b r => by rw [← hC]; exact fo_get
  have gR : ∀ (a : va_E) r j, (C0 ++ a :: r)[15 + (j + 1)]? = r[j]? := fun a r j => by rw [← hC]; exact fo_getR j
  have sR : ∀ (a x : va_E) r j, (C0 ++ a :: r).set (15 + (j + 1)) x = C0 ++ a :: r.set j x := fun a x r j => by rw [← hC]; exact fo_setR j
  have s0 : ∀ (a x : va_E) r, (C0 ++ a :: r).set 15 x = C0 ++ x :: r := fun a x r => by
    have := fo_set (σ0 := C0) (e := a) (e' := x) (r := r)
    rw [hC] at this
    exact this
  have hin : vp_in (nI i) 60 := vp_in_nI hi (by decide)
  have hcl : (nI i).toNatClampNeg = i := nI_clamp (by omega)
  refine rj_step rfl rfl ?_
  refine rj_get rfl (g0 _ _ _) rfl ?_
  refine rj_step rfl rfl ?_
  refine rj_ic_lt rfl (fun _ => ?_) (fun hc => absurd (nI_lt (b := 60) hi (by decide)) hc)
  refine rj_step rfl rfl ?_
  refine rj_get rfl (g0 _ _ _) rfl ?_
  refine rj_step rfl rfl ?_
  refine rj_get rfl (g0 _ _ _) rfl ?_
  refine rj_step rfl rfl ?_
  refine rj_iast rfl ((gR _ _ 0).trans rfl) hin ?_
  rw [hcl]
  refine Eq.mpr (congrArg (fun z => RJ _ _ _ _ _ _ _ z _) (sR _ _ _ 0)) ?_
  refine rj_step rfl rfl ?_
  refine rj_get rfl (g0 _ _ _) rfl ?_
  refine rj_step rfl rfl ?_
  refine rj_get rfl (g0 _ _ _) rfl ?_
  refine rj_step rfl rfl ?_
  refine rj_iast rfl ((gR _ _ 1).trans rfl) hin ?_
  rw [hcl]
  refine Eq.mpr (congrArg (fun z => RJ _ _ _ _ _ _ _ z _) (sR _ _ _ 1)) ?_
  refine rj_step rfl rfl ?_
  refine rj_get rfl (g0 _ _ _) rfl ?_
  refine rj_step rfl rfl ?_
  refine rj_get rfl (g0 _ _ _) rfl ?_
  refine rj_step rfl rfl ?_
  refine rj_iast rfl ((gR _ _ 2).trans rfl) hin ?_
  rw [hcl]
  refine Eq.mpr (congrArg (fun z => RJ _ _ _ _ _ _ _ z _) (sR _ _ _ 2)) ?_
  refine rj_step rfl rfl ?_
  refine rj_get rfl (g0 _ _ _) rfl ?_
  refine rj_step rfl rfl ?_
  refine rj_get rfl (g0 _ _ _) rfl ?_
  refine rj_step rfl rfl ?_
  refine rj_iast rfl ((gR _ _ 3).trans rfl) hin ?_
  rw [hcl]
  refine Eq.mpr (congrArg (fun z => RJ _ _ _ _ _ _ _ z _) (sR _ _ _ 3)) ?_
  refine rj_step rfl rfl ?_
  refine rj_step rfl rfl ?_
  refine rj_get rfl (g0 _ _ _) rfl ?_
  refine rj_step rfl rfl ?_
  refine rj_step rfl rfl ?_
  refine rj_put0 rfl (g0 _ _ _) (Nat.le_of_ble_eq_true rfl) (ty := .int) rfl (fun _ _ => rfl) (fun _ _ => rfl) ?_
  refine Eq.mpr (congrArg (fun z => RJ _ _ _ _ _ _ _ z _) (s0 _ _ _)) ?_
  refine rj_vret rfl rfl ?_
  unfold clsS at h
  rw [nI_succ] at h
  exact h
end Makes4

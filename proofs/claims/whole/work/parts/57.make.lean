/-! constructors: an object under way at the end of some cells, what comes behind it -/
abbrev zI (N : Nat) : va_E := .inl (0, N, .inl (fun _ => 0))
abbrev zL (N : Nat) : va_E := .inl (1, N, .inr (.inl (fun _ => 0)))
theorem fo_get {σ0 r : List va_E} {e : va_E} : (σ0 ++ e :: r)[σ0.length]? = some e := by rw [List.getElem?_append_right (Nat.le_refl _), Nat.sub_self]; rfl
theorem fo_set {σ0 r : List va_E} {e e' : va_E} : (σ0 ++ e :: r).set σ0.length e' = σ0 ++ e' :: r := by
  rw [List.set_append_right _ _ (Nat.le_refl _), Nat.sub_self]
  rfl
theorem fo_len {σ0 r : List va_E} {e : va_E} : (σ0 ++ e :: r).length = σ0.length + (r.length + 1) := by rw [List.length_append]; rfl
section RjFo
variable {M : MD} {X : Option (Nat × (Nat → Int32))} {bc bs pc nx a b : Nat} {c : Int32} {cl : Int64} {lv : List (Option Value)} {st : List Value} {σ0 r : List va_E} {e : va_E} {Q : Option Value → List va_E → Prop}
theorem fo_put {i : Nat} {fs : List Value} {v : Value} {ty : FieldType} (hq : lk (mTab M) pc = some (.putfield i, nx, a, b, c, cl)) (hl : Nat.ble (b + 1) fs.length = true) (ht : (tyTab[a]?.bind (·[b]?)) = some (false, ty)) (hn : ∀ b sz, narrow ty (xv b sz v) = xv b sz v) (hfit : ∀ b sz, fits ty (xv b sz v) = true)
    (K : RJ M X bc bs nx lv st (σ0 ++ .inr (a, fs.set b v) :: r) Q) : RJ M X bc bs pc lv (v :: .ref σ0.length :: st) (σ0 ++ .inr (a, fs) :: r) Q := by
  refine rj_put0 hq fo_get (Nat.le_of_ble_eq_true hl) ht hn hfit ?_
  rw [fo_set]
  exact K
theorem fo_putF {i : Nat} {fs : List Value} {v : Value} {ty : FieldType} (hq : lk (mTab M) pc = some (.putfield i, nx, a, b, c, cl)) (hl : Nat.ble (b + 1) fs.length = true) (ht : (tyTab[a]?.bind (·[b]?)) = some (true, ty)) (hin : (mY M).name = "<init>") (hcl : (vwCl[a]?.map (·.1)) = some (mY M).cls) (hn : ∀ b sz, narrow ty (xv b sz v) = xv b sz v) (hfit : ∀ b sz, fits ty (xv b sz v) = true)
    (K : RJ M X bc bs nx lv st (σ0 ++ .inr (a, fs.set b v) :: r) Q) : RJ M X bc bs pc lv (v :: .ref σ0.length :: st) (σ0 ++ .inr (a, fs) :: r) Q := by
  refine rj_putF0 hq fo_get (Nat.le_of_ble_eq_true hl) ht hin hcl hn hfit ?_
  rw [fo_set]
  exact K
theorem fo_newI {n : Int32} (N : Nat) (hq : lk (mTab M) pc = some (.newarray .int, nx, a, b, c, cl)) (h0 : σ0.length < 900000) (hr : Nat.ble r.length 1000 = true) (hn : ¬ n < 0) (hN : n.toNatClampNeg = N) (hby : Nat.ble N 100000 = true) (hbc : Nat.ble 1 bc = true) (hbs : Nat.ble N bs = true)
    (K : RJ M X (bc - 1) (bs - N) nx lv (.ref (σ0.length + (r.length + 1)) :: st) (σ0 ++ e :: (r ++ [zI N])) Q) : RJ M X bc bs pc lv (.int n :: st) (σ0 ++ e :: r) Q := by
  have hr := Nat.le_of_ble_eq_true hr
  refine rj_newI hq hn hN (Nat.le_of_ble_eq_true hby) (by rw [fo_len]; omega) (Nat.le_of_ble_eq_true hbc) (Nat.le_of_ble_eq_true hbs) ?_
  rw [fo_len, List.append_assoc]
  exact K
theorem fo_newL {n : Int32} (N : Nat) (hq : lk (mTab M) pc = some (.newarray .long, nx, a, b, c, cl)) (h0 : σ0.length < 900000) (hr : Nat.ble r.length 1000 = true) (hn : ¬ n < 0) (hN : n.toNatClampNeg = N) (hby : Nat.ble N 100000 = true) (hbc : Nat.ble 1 bc = true) (hbs : Nat.ble N bs = true)
    (K : RJ M X (bc - 1) (bs - N) nx lv (.ref (σ0.length + (r.length + 1)) :: st) (σ0 ++ e :: (r ++ [zL N])) Q) : RJ M X bc bs pc lv (.int n :: st) (σ0 ++ e :: r) Q := by
  have hr := Nat.le_of_ble_eq_true hr
  refine rj_newL hq hn hN (Nat.le_of_ble_eq_true hby) (by rw [fo_len]; omega) (Nat.le_of_ble_eq_true hbc) (Nat.le_of_ble_eq_true hbs) ?_
  rw [fo_len, List.append_assoc]
  exact K
/-- a new object, made -/
theorem fo_make {iN iC nx1 nx2 nx3 a' b1 b2 b3 : Nat} {c1 c2 c3 : Int32} {l1 l2 l3 : Int64} {N : Nat} {C : String} {T : u_T} {host : String} {ds : List Value} {σ : List va_E} (Mc : MD) (cells : Nat → List va_E)
    (hq1 : lk (mTab M) pc = some (.new iN, nx1, a', b1, c1, l1)) (hq2 : lk (mTab M) nx1 = some (.dup, nx2, a, b2, c2, l2)) (hq3 : lk (mTab M) nx2 = some (.invokespecial iC, nx3, 0, b3, c3, l3))
    (hc : vwCl[a']? = some (C, T, N)) (hfs : (tyTab[a']?.map (fun l => l.map (fun q => defaultValue q.2))) = some ds) (hfl : ∀ b sz, ds.map (xv b sz) = ds) (hw : decide (Jvm.Cond.classLink (mY M).cls iN C ∈ lw_tbl) && decide (Jvm.Cond.instantiable C N ∈ lw_tbl) && decide (Jvm.Cond.initialized C ∈ lw_tbl) = true)
    (hcn : cnOk M iC 0 Mc host = true) (hok : mOk Mc = true) (hml : mML Mc = 1) (h0 : σ.length < 900000) (hst : Nat.ble (catSum st) 6 = true) (hbc : Nat.ble (1 + (mRm Mc).cells) bc = true) (hbs : Nat.ble (N + (mRm Mc).slots) bs = true) (hlen : ∀ n, (cells n).length = 1 + (mRm Mc).cells)
    (hsub : ∀ Q' : Option Value → List va_E → Prop, Q' none (σ ++ cells σ.length) → RJ Mc none (mRm Mc).cells (mRm Mc).slots 0 [some (.ref σ.length)] [] (σ ++ [.inr (a', ds)]) Q')
    (K : RJ M X (bc - 1 - (mRm Mc).cells) (bs - N - (mRm Mc).slots) nx3 lv (.ref σ.length :: st) (σ ++ cells σ.length) Q) : RJ M X bc bs pc lv st σ Q := by
  have hbc := Nat.le_of_ble_eq_true hbc
  have hbs := Nat.le_of_ble_eq_true hbs
  have hst := Nat.le_of_ble_eq_true hst
  refine rj_new hq1 hc hfs hfl hw (by omega) (by omega) (by omega) ?_
  refine rj_step (lv' := lv) (st' := .ref σ.length :: .ref σ.length :: st) hq2 rfl ?_
  refine rj_callN Mc hq3 hcn (k := σ.length) rfl (by omega) ?_ hok ?_ (by omega) (by omega) ?_
  · show catSum (.ref σ.length :: st) ≤ 8
    have : catSum (.ref σ.length :: st) = 1 + catSum st := by
      unfold catSum
      rw [List.map_cons, List.sum_cons]
      rfl
    omega
  · rw [hml]
    exact Nat.le_refl 1
  · rw [hml]
    refine hsub _ ⟨?_, K⟩
    rw [List.length_append, List.length_append, hlen, List.length_singleton]
    omega
end RjFo
def cTable (n : Nat) : List va_E := [.inr (8, [.ref (n + 1), .ref (n + 2), .int 0, .int 0]), zL 400, zI 1024]
def cEdges (n : Nat) : List va_E := [.inr (1, [.ref (n + 1), .ref (n + 2), .ref (n + 3), .int 0]), zI 30, zI 30, zI 30]
def cExp (n : Nat) : List va_E := [.inr (2, [.ref (n + 1), .ref (n + 2), .int 0, .int 0, .int 0]), zI 25, zI 8]
def cReach (n : Nat) : List va_E := [.inr (3, [.ref (n + 1), .ref (n + 2), .ref (n + 3)]), zI 10, zI 10, zI 10]
def cShort (n : Nat) : List va_E := [.inr (5, [.ref (n + 1), .ref (n + 2), .ref (n + 3)]), zI 2510, zI 10, zI 250]
def cStand (n : Nat) : List va_E := [.inr (6, [.ref (n + 1), .int (-1), .int 0, .int 0]), zI 10]
def cSteps (n : Nat) : List va_E := [.inr (7, [.ref (n + 1), .ref (n + 2), .ref (n + 3), .ref (n + 4), .int 0]), zI 60, zI 60, zI 60, zI 60]
def cReader (n : Nat) : List va_E := .inr (4, [.ref (n + 1), .ref (n + 4), .ref (n + 5), .ref (n + 6), .ref (n + 7), .int 0, .int 0, .int 0, .int 0]) :: (cExp (n + 1) ++ [zI 81, zI 81, zI 81, zI 81])
def cTally (n : Nat) : List va_E := .inr (9, [.ref (n + 1), .ref (n + 4), .ref (n + 5), .ref (n + 6)]) :: (cTable (n + 1) ++ [zI 3200, zI 4000, zI 4000])
def cComp (n : Nat) : List va_E := .inr (0, [.ref (n + 1)]) :: cTable (n + 1)
section Makes
variable {σ0 : List va_E} {Q : Option Value → List va_E → Prop}
theorem x8_init (h0 : σ0.length < 900000) (h : Q none (σ0 ++ cTable σ0.length)) : RJ mX8_init none 2 1424 0 [some (.ref σ0.length)] [] (σ0 ++ [.inr (8, [.null, .null, .int 0, .int 0])]) Q := by
  refine rj_step rfl rfl ?_
  refine rj_obj rfl (by decide +kernel) (by decide) (by decide) ?_
  refine rj_step rfl rfl ?_
  refine rj_step rfl rfl ?_
  refine fo_newL 400 rfl h0 rfl (by decide) rfl rfl rfl rfl ?_
  refine fo_putF rfl rfl rfl rfl rfl (fun _ _ => rfl) (fun _ _ => rfl) ?_
  refine rj_step rfl rfl ?_
  refine rj_step rfl rfl ?_
  refine fo_newI 1024 rfl h0 rfl (by decide) rfl rfl rfl rfl ?_
  refine fo_putF rfl rfl rfl rfl rfl (fun _ _ => rfl) (fun _ _ => rfl) ?_
  refine rj_step rfl rfl ?_
  refine rj_step rfl rfl ?_
  refine fo_put rfl rfl rfl (fun _ _ => rfl) (fun _ _ => rfl) ?_
  refine rj_step rfl rfl ?_
  refine rj_step rfl rfl ?_
  refine fo_put rfl rfl rfl (fun _ _ => rfl) (fun _ _ => rfl) ?_
  exact rj_vret rfl rfl h
end Makes

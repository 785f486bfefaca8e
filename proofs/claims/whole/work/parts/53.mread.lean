/-! the reference's small methods that read -/
theorem wO {o : Option Nat} {i : Nat} (ho : ∀ b, o = some b → b < 128) (hi : i < 128) : wI o = nI i ↔ o = some i := by
  cases o with
  | none =>
    constructor
    · intro h
      exact absurd h.symm (neg1 (by omega))
    · intro h; cases h
  | some b =>
    have := ho b rfl
    show nI b = nI i ↔ _
    rw [nI_eq (by omega) (by omega)]
    constructor
    · intro h; rw [h]
    · intro h; cases h; rfl
def sgO : Option Nat → Int32
  | none => 0
  | some b => sgnI b
def mqB (m c : Int32) : Prop := ∀ j, j < 32 → bt m j = bt c (j + 1)
def PAtM (τ : Ty) (P : List (Int32 × Int32)) : Prop := gF τ 63 22 = nI P.length ∧ ∀ i q, P[i]? = some q → gI τ 75 i = b01 (bt q.1 0) ∧ mqB (gI τ 76 i) q.1 ∧ mqB (gI τ 77 i) q.2 ∧ bt q.1 0 = bt q.2 0
def OAtM (τ : Ty) (O : List Nat) : Prop := gF τ 63 18 = nI O.length ∧ ∀ i c, O[i]? = some c → gI τ 74 i = nI c ∧ c < 128
def DAtM (τ : Ty) (fol be : Nat → Int32) (n : Nat) : Prop := gF τ 63 15 = nI n ∧ n ≤ 24 ∧ (∀ p, p < 24 → mqB (gI τ 72 p) (fol (p + 1))) ∧ ∀ s, s < 8 → mqB (gI τ 73 s) (be s)
theorem MQ_or {m m' c c' : Int32} (h : mqB m c) (h' : mqB m' c') : mqB (m ||| m') (c ||| c') := fun j hj => by rw [b_or, b_or, h j hj, h' j hj]
theorem MQ_0 {m c c' : Int32} (h : mqB m c) (e : ∀ j, 1 ≤ j → j < 32 → bt c j = bt c' j) : mqB m c' := fun j hj => by
  rw [h j hj]
  by_cases h31 : j + 1 < 32
  · exact e _ (by omega) h31
  · rw [b_big (by omega), b_big (by omega)]
theorem MQ_m2 {m c : Int32} (h : mqB m c) : mqB m (c &&& -2) := MQ_0 h (fun j h1 h2 => by rw [b_and, b_m2 h2, decide_eq_true (by omega)]; simp)
theorem MQ_o1 {m c : Int32} (h : mqB m c) : mqB m (c ||| 1) := MQ_0 h (fun j h1 h2 => by rw [b_or, b_one h2, decide_eq_false (by omega)]; simp)
theorem PAtM.of {ks fs : List Nat} {τ τ' : Ty} {P : List (Int32 × Int32)} (h : PAtM τ P) (ho : OfM ks fs τ τ') (h1 : 75 ∉ ks ∧ 76 ∉ ks ∧ 77 ∉ ks ∧ 22 ∉ fs) : PAtM τ' P := by
  unfold PAtM at *
  rw [ho.2.2.1 22 h1.2.2.2, (ho.1 75 h1.1).1, (ho.1 76 h1.2.1).1, (ho.1 77 h1.2.2.1).1]
  exact h
theorem OAtM.of {ks fs : List Nat} {τ τ' : Ty} {O : List Nat} (h : OAtM τ O) (ho : OfM ks fs τ τ') (h1 : 74 ∉ ks ∧ 18 ∉ fs) : OAtM τ' O := by
  unfold OAtM at *
  rw [ho.2.2.1 18 h1.2, (ho.1 74 h1.1).1]
  exact h
theorem DAtM.of {ks fs : List Nat} {τ τ' : Ty} {fol be : Nat → Int32} {n : Nat} (h : DAtM τ fol be n) (ho : OfM ks fs τ τ') (h1 : 72 ∉ ks ∧ 73 ∉ ks ∧ 15 ∉ fs) : DAtM τ' fol be n := by
  unfold DAtM at *
  rw [ho.2.2.1 15 h1.2.2, (ho.1 72 h1.1).1, (ho.1 73 h1.2.1).1]
  exact h
section MdRead
variable {τ : Ty} {Q : Option Value → Ty → Prop}
theorem mByteAt_spec {T : List Nat} {k : Nat} (hT : MTx τ T) (hk : k ≤ 1000) (h : Q (some (.int (wI T[k]?))) τ) : RT mX11_byteAt none 0 [some (.ref 63), some (.int (nI k))] [] τ Q := by
  obtain ⟨t1, t2, t3⟩ := hT
  refine rt_run 3 rfl ?_
  refine rt_ge k T.length rfl (by omega) (by omega) (fun hge => ?_) (fun hlt => ?_) rfl t1
  · rw [List.getElem?_eq_none hge] at h
    refine rt_run 1 rfl ?_
    exact rt_iret rfl rfl h
  · have hq : T[k]? = some T[k] := List.getElem?_eq_getElem hlt
    rw [hq] at h
    refine rt_run 3 rfl ?_
    refine rt_ld k rfl (n := 80) rfl (by omega) ?_
    rw [(t3 k _ hq).2]
    refine rt_run 1 rfl ?_
    exact rt_iret rfl rfl h
theorem MTx.of {ks fs : List Nat} {τ τ' : Ty} {T : List Nat} (h : MTx τ T) (ho : OfM ks fs τ τ') (h1 : 66 ∉ ks ∧ 4 ∉ fs) : MTx τ' T := by
  unfold MTx at *
  rw [ho.2.2.1 4 h1.2, (ho.1 66 h1.1).1]
  exact h
theorem MTx.lt {τ : Ty} {T : List Nat} (h : MTx τ T) {k b : Nat} (hb : T[k]? = some b) : b < 128 := (h.2.2 k b hb).1
theorem mSkips_spec {T : List Nat} {i : Nat} (hT : MTx τ T) (hi : i ≤ T.length) (hat : gF τ 63 16 = nI i)
    (h : ∀ j τ', i ≤ j → j ≤ T.length → (∀ k, i ≤ k → k < j → T[k]? = some 32) → T[j]? ≠ some 32 → OfM [] [16] τ τ' → gF τ' 63 16 = nI j → Q none τ') : RT mX11_skips none 0 [some (.ref 63)] [] τ Q := by
  have hl := hT.2.1
  have loop : ∀ d j τ', j + d = T.length → i ≤ j → (∀ k, i ≤ k → k < j → T[k]? = some 32) → OfM [] [16] τ τ' → gF τ' 63 16 = nI j → RT mX11_skips none 0 [some (.ref 63)] [] τ' Q := by
    intro d
    induction d with
    | zero =>
      intro j τ' hj hij hb hO ha
      have : j = T.length := by omega
      subst this
      have hn : T[T.length]? = none := List.getElem?_eq_none (Nat.le_refl _)
      refine rt_run 3 rfl ?_
      rw [ha]
      refine rt_cV (ci := 11) mX11_byteAt kX11_skips_5 okX11_byteAt rfl rfl rfl rfl rfl ?_
      refine mByteAt_spec (hT.of hO (by decide)) (by omega) ?_
      rw [hn]
      refine rt_run 1 rfl ?_
      refine rt_ic_ne rfl (fun _ => ?_) (fun hc => absurd hc (by decide))
      exact rt_vret rfl rfl (h _ τ' hij (Nat.le_refl _) hb (by rw [hn]; simp) hO ha)
    | succ d ih =>
      intro j τ' hj hij hb hO ha
      refine rt_run 3 rfl ?_
      rw [ha]
      refine rt_cV (ci := 11) mX11_byteAt kX11_skips_5 okX11_byteAt rfl rfl rfl rfl rfl ?_
      refine mByteAt_spec (hT.of hO (by decide)) (by omega) ?_
      refine rt_run 1 rfl ?_
      have hw := wO (o := T[j]?) (i := 32) (fun b hb => hT.lt hb) (by decide)
      refine rt_ic_ne rfl (fun hne => ?_) (fun heq => ?_)
      · exact rt_vret rfl rfl (h j τ' hij (by omega) hb (fun e => hne (hw.mpr e)) hO ha)
      · have heq := hw.mp heq
        refine rt_run 7 rfl ?_
        refine ih (j + 1) _ (by omega) (by omega) (fun k h1 h2 => ?_) (hO.sF (by simp) _) ?_
        · by_cases hkj : k = j
          · subst hkj; exact heq
          · exact hb k h1 (by omega)
        · rw [gF_sF, if_pos rfl, pk_us]
          show gF τ' 63 16 + 1 = _
          rw [ha, ← nI_succ]
  exact loop (T.length - i) i τ (by omega) (Nat.le_refl _) (fun k h1 h2 => by omega) (OfM.rf _ _ _) hat
theorem mSignsBy_spec {o : Option Nat} (ho : ∀ b, o = some b → b < 128) (h : Q (some (.int (sgO o))) τ) : RT mX11_signsBy none 0 [some (.int (wI o))] [] τ Q := by
  cases o with
  | none =>
    refine rt_run 3 rfl ?_
    refine rt_cS mX11_in kX11_signsBy_5 okX11_in rfl rfl ?_
    refine in_gen (fun _ => ?_) (fun hc => absurd (by decide : (-1 : Int32) < 97) hc)
    refine rt_if_eq rfl (fun _ => ?_) (fun hc => absurd rfl hc)
    refine rt_run 3 rfl ?_
    refine rt_cS mX11_in kX11_signsBy_25 okX11_in rfl rfl ?_
    refine in_gen (fun _ => ?_) (fun hc => absurd (by decide : (-1 : Int32) < 65) hc)
    refine rt_if_eq rfl (fun _ => ?_) (fun hc => absurd rfl hc)
    refine rt_run 2 rfl ?_
    refine rt_ic_ne rfl (fun _ => ?_) (fun hc => absurd hc (by decide))
    refine rt_run 2 rfl ?_
    refine rt_ic_ne rfl (fun _ => ?_) (fun hc => absurd hc (by decide))
    refine rt_run 1 rfl ?_
    exact rt_iret rfl rfl h
  | some b =>
    have hb := ho b rfl
    have h : Q (some (.int (sgnI b))) τ := h
    show RT mX11_signsBy none 0 [some (.int (nI b))] [] τ Q
    unfold sgnI at h
    have nlt : ∀ c, c < 128 → (nI b < nI c ↔ b < c) := fun c hc => nI_ltI (by omega) (by omega)
    have nlt' : ∀ c, c < 128 → (nI c < nI b ↔ c < b) := fun c hc => nI_ltI (by omega) (by omega)
    refine rt_run 3 rfl ?_
    refine rt_cS mX11_in kX11_signsBy_5 okX11_in rfl rfl ?_
    refine in_gen (fun hh => ?_) (fun g1 g2 => ?_)
    · have h97 : ¬ (97 ≤ b ∧ b ≤ 100) := by
        rcases hh with hh | hh
        · have := (nlt 97 (by decide)).mp hh; omega
        · have := (nlt' 100 (by decide)).mp hh; omega
      rw [if_neg h97] at h
      refine rt_if_eq rfl (fun _ => ?_) (fun hc => absurd rfl hc)
      refine rt_run 3 rfl ?_
      refine rt_cS mX11_in kX11_signsBy_25 okX11_in rfl rfl ?_
      refine in_gen (fun hh => ?_) (fun g1 g2 => ?_)
      · have h65 : ¬ (65 ≤ b ∧ b ≤ 68) := by
          rcases hh with hh | hh
          · have := (nlt 65 (by decide)).mp hh; omega
          · have := (nlt' 68 (by decide)).mp hh; omega
        rw [if_neg h65] at h
        refine rt_if_eq rfl (fun _ => ?_) (fun hc => absurd rfl hc)
        refine rt_run 2 rfl ?_
        refine rt_ne b 46 rfl (by omega) (by omega) (fun e => ?_) (fun e => ?_)
        · rw [if_neg e] at h
          refine rt_run 2 rfl ?_
          refine rt_ne b 45 rfl (by omega) (by omega) (fun e2 => ?_) (fun e2 => ?_)
          · rw [if_neg e2] at h
            refine rt_run 1 rfl ?_
            exact rt_iret rfl rfl h
          · rw [if_pos e2] at h
            refine rt_run 2 rfl ?_
            exact rt_iret rfl rfl h
        · rw [if_pos e] at h
          refine rt_run 2 rfl ?_
          exact rt_iret rfl rfl h
      · have h1 : ¬ b < 65 := fun g => g1 ((nlt 65 (by decide)).mpr g)
        have h2 : ¬ 68 < b := fun g => g2 ((nlt' 68 (by decide)).mpr g)
        rw [if_pos ⟨by omega, by omega⟩] at h
        refine rt_if_eq rfl (fun hc => absurd hc (by decide)) (fun _ => ?_)
        refine rt_run 6 rfl ?_
        have e : (16 : Int32) <<< ((nI b - 65) &&& 31) = 1 <<< (nI (b - 65 + 4) &&& 31) := by
          rw [show (65 : Int32) = nI 65 from rfl, pk_sub (by omega)]
          exact (by decide +kernel : ∀ k, k < 4 → (16 : Int32) <<< (nI k &&& 31) = 1 <<< (nI (k + 4) &&& 31)) (b - 65) (by omega)
        rw [e]
        exact rt_iret rfl rfl h
    · have h1 : ¬ b < 97 := fun g => g1 ((nlt 97 (by decide)).mpr g)
      have h2 : ¬ 100 < b := fun g => g2 ((nlt' 100 (by decide)).mpr g)
      rw [if_pos ⟨by omega, by omega⟩] at h
      refine rt_if_eq rfl (fun hc => absurd hc (by decide)) (fun _ => ?_)
      refine rt_run 6 rfl ?_
      rw [show nI b - 97 = nI (b - 97) by rw [show (97 : Int32) = nI 97 from rfl, pk_sub (by omega)]]
      exact rt_iret rfl rfl h
theorem mPart_spec {P : List (Int32 × Int32)} {q : Int32 × Int32} {f l : Int32} {e : Bool} (hP : PAtM τ P) (hl : P.length < 90) (he : e = bt q.1 0) (he2 : bt q.1 0 = bt q.2 0) (hf : mqB f q.1) (hla : mqB l q.2)
    (h : ∀ τ', OfM [75, 76, 77] [22] τ τ' → PAtM τ' (P ++ [q]) → Q none τ') : RT mX11_part none 0 [some (.ref 63), some (.int (b01 e)), some (.int f), some (.int l)] [] τ Q := by
  obtain ⟨p1, p2⟩ := hP
  refine rt_run 5 rfl ?_
  refine rt_st P.length rfl (n := 90) rfl hl ?_ p1
  refine rt_run 5 rfl ?_
  refine rt_st P.length rfl (n := 90) rfl hl ?_ p1
  refine rt_run 5 rfl ?_
  refine rt_st P.length rfl (n := 90) rfl hl ?_ p1
  refine rt_run 6 rfl ?_
  refine rt_vret rfl rfl (h _ (((((OfM.rf _ _ τ).sI (by simp) _ _).sI (by simp) _ _).sI (by simp) _ _).sF (by simp) _) ⟨?_, fun i q' hq => ?_⟩)
  · rw [gF_sF, if_pos rfl, pk_us]
    show gF τ 63 22 + 1 = _
    rw [p1, ← nI_succ, List.length_append]
    rfl
  · show upd (gI τ 75) P.length (b01 e) i = _ ∧ mqB (upd (gI τ 76) P.length f i) _ ∧ mqB (upd (gI τ 77) P.length l i) _ ∧ _
    rcases getApp hq with ⟨hi, hq⟩ | ⟨rfl, rfl⟩
    · rw [pk_un (by omega), pk_un (by omega), pk_un (by omega)]
      exact p2 i q' hq
    · rw [pk_us, pk_us, pk_us, he]
      exact ⟨rfl, hf, hla, he2⟩
theorem mFollows_spec {fol be : Nat → Int32} {n : Nat} {last first these beh : Int32} (hD : DAtM τ fol be n) (h1 : mqB last these) (h2 : mqB first beh) (hup : up n these)
    (h : ∀ τ', OfM [72] [] τ τ' → gI τ' 72 24 = gI τ 72 24 → DAtM τ' (lnkF fol n these beh) be n → Q none τ') : RT mX11_follows none 0 [some (.ref 63), some (.int last), some (.int first), none] [] τ Q := by
  obtain ⟨d1, d2, d3, d4⟩ := hD
  have loop : ∀ d p τ', p + d = 24 → OfM [72] [] τ τ' → gI τ' 72 24 = gI τ 72 24 → (∀ q, q < 24 → mqB (gI τ' 72 q) (if q < p then lnkF fol n these beh (q + 1) else fol (q + 1))) → RT mX11_follows none 2 [some (.ref 63), some (.int last), some (.int first), some (.int (nI p))] [] τ' Q := by
    intro d
    induction d with
    | zero =>
      intro p τ' hp hO h24 hq
      refine rt_run 2 rfl ?_
      refine rt_ge p 24 rfl (by omega) (by omega) (fun _ => ?_) (fun _ => by omega)
      refine rt_vret rfl rfl (h τ' hO h24 ⟨by rw [hO.2.2.1 15 (by decide)]; exact d1, d2, fun q hq' => ?_, fun s hs => ?_⟩)
      · have := hq q hq'
        rw [if_pos (by omega)] at this
        exact this
      · rw [(hO.1 73 (by decide)).1]; exact d4 s hs
    | succ d ih =>
      intro p τ' hp hO h24 hq
      have hp24 : p < 24 := by omega
      refine rt_run 2 rfl ?_
      refine rt_ge p 24 rfl (by omega) (by omega) (fun _ => by omega) (fun _ => ?_)
      refine rt_run 4 rfl ?_
      refine rt_ld p rfl (n := 25) rfl (by omega) ?_
      have hold := hq p hp24
      rw [if_neg (by omega)] at hold
      have put : ∀ z : Int32, mqB (gI τ' 72 p ||| z) (lnkF fol n these beh (p + 1)) → RT mX11_follows none 29 [some (.ref 63), some (.int last), some (.int first), some (.int (nI p))] [.int z, .int (gI τ' 72 p), .int (nI p), .ref 72] τ' Q := by
        intro z hz
        refine rt_run 1 rfl ?_
        refine rt_st p rfl (n := 25) rfl (by omega) ?_
        refine rt_run 2 rfl ?_
        rw [← nI_succ]
        refine ih (p + 1) _ (by omega) (hO.sI (by simp) _ _) ?_ (fun q hq' => ?_)
        · rw [gI_sI, if_pos rfl, pk_un (by omega)]; exact h24
        · rw [gI_sI, if_pos rfl]
          by_cases hqp : q = p
          · subst hqp
            rw [pk_us, if_pos (by omega)]
            exact hz
          · rw [pk_un hqp]
            have := hq q hq'
            by_cases hlt : q < p
            · rw [if_pos hlt] at this; rw [if_pos (by omega)]; exact this
            · rw [if_neg hlt] at this; rw [if_neg (by omega)]; exact this
      refine rt_run 6 rfl ?_
      rw [b_t1 (by omega), h1 p (by omega)]
      cases hb : bt these (p + 1) with
      | true =>
        refine rt_ic_ne rfl (fun hc => absurd rfl hc) (fun _ => ?_)
        refine rt_run 2 rfl ?_
        refine put first ?_
        unfold lnkF
        rw [if_pos ⟨by omega, hup _ hb, hb⟩]
        exact MQ_or hold (MQ_m2 h2)
      | false =>
        refine rt_ic_ne rfl (fun _ => ?_) (fun hc => absurd hc (by decide))
        refine rt_run 1 rfl ?_
        refine put 0 ?_
        unfold lnkF
        rw [if_neg (fun g => by rw [hb] at g; exact absurd g.2.2 (by decide)), Int32.or_zero]
        exact hold
  refine rt_run 2 rfl ?_
  refine loop 24 0 τ (by omega) (OfM.rf _ _ _) rfl (fun q hq => ?_)
  rw [if_neg (by omega)]
  exact d3 q hq
def dotJ (a b : Int32 × Int32) : Int32 × Int32 := ((if a.1 &&& 1 = 0 then a.1 else (a.1 &&& -2) ||| b.1), (if b.2 &&& 1 = 0 then b.2 else a.2 ||| (b.2 &&& -2)))
def barJ (a b : Int32 × Int32) : Int32 × Int32 := (a.1 ||| b.1, a.2 ||| b.2)
theorem pam_two9 {τ τ' : Ty} {P : List (Int32 × Int32)} {qa qb r : Int32 × Int32} (hP : PAtM τ (P ++ [qa, qb])) (hn : gF τ' 63 22 = nI (P.length + 1)) (ho : ∀ i, i ≠ P.length → gI τ' 75 i = gI τ 75 i ∧ gI τ' 76 i = gI τ 76 i ∧ gI τ' 77 i = gI τ 77 i)
    (h1 : gI τ' 75 P.length = b01 (bt r.1 0)) (h2 : mqB (gI τ' 76 P.length) r.1) (h3 : mqB (gI τ' 77 P.length) r.2) (h4 : bt r.1 0 = bt r.2 0) : PAtM τ' (P ++ [r]) := by
  refine ⟨by rw [hn, List.length_append]; rfl, fun i q hq => ?_⟩
  rcases getApp hq with ⟨hi, hq⟩ | ⟨rfl, rfl⟩
  · obtain ⟨e1, e2, e3⟩ := ho i (by omega)
    rw [e1, e2, e3]
    exact hP.2 i q (by rw [List.getElem?_append_left hi]; exact hq)
  · exact ⟨h1, h2, h3, h4⟩
theorem and1_bt {x : Int32} : (x &&& 1 = 0) ↔ bt x 0 = false := b_and1
theorem b01_and (x y : Bool) : b01 x &&& b01 y = b01 (x && y) := by cases x <;> cases y <;> decide
theorem b01_or (x y : Bool) : b01 x ||| b01 y = b01 (x || y) := by cases x <;> cases y <;> decide
theorem mJoins_spec {P : List (Int32 × Int32)} {qa qb : Int32 × Int32} {fol be : Nat → Int32} {n : Nat} (hP : PAtM τ (P ++ [qa, qb])) (hl : P.length < 80) (hD : DAtM τ fol be n) (hup : up n qa.2)
    (h : ∀ τ', OfM [72, 75, 76, 77] [22] τ τ' → gI τ' 72 24 = gI τ 72 24 → PAtM τ' (P ++ [dotJ qa qb]) → DAtM τ' (lnkF fol n qa.2 qb.1) be n → Q none τ') : RT mX11_joins none 0 [some (.ref 63), some (.int 46), none, none] [] τ Q := by
  have hlen : (P ++ [qa, qb]).length = P.length + 2 := by rw [List.length_append]; rfl
  have ga : (P ++ [qa, qb])[P.length]? = some qa := by rw [List.getElem?_append_right (Nat.le_refl _), Nat.sub_self]; rfl
  have gb : (P ++ [qa, qb])[P.length + 1]? = some qb := by rw [List.getElem?_append_right (by omega), Nat.add_sub_cancel_left]; rfl
  obtain ⟨a1, a2, a3, a4⟩ := hP.2 _ _ ga
  obtain ⟨b1, b2, b3, b4⟩ := hP.2 _ _ gb
  have e22 : gF τ 63 22 = nI (P.length + 1 + 1) := by rw [hP.1, hlen]
  have e22' : gF τ 63 22 - 1 = nI (P.length + 1) := by rw [e22, nI_pred]
  refine rt_run 6 rfl ?_
  rw [e22']
  refine rt_run 10 rfl ?_
  rw [show gF (sF τ 63 22 (nI (P.length + 1))) 63 22 = nI (P.length + 1) from rfl, nI_pred]
  have hO0 : OfM [72, 75, 76, 77] [22] τ (sF τ 63 22 (nI (P.length + 1))) := (OfM.rf _ _ τ).sF (by simp) _
  have eg : gF (sF τ 63 22 (nI (P.length + 1))) 63 22 = nI (P.length + 1) := rfl
  have eI : gI (sF τ 63 22 (nI (P.length + 1))) = gI τ := rfl
  have hD0 : DAtM (sF τ 63 22 (nI (P.length + 1))) fol be n := hD
  generalize sF τ 63 22 (nI (P.length + 1)) = τ0 at hO0 eg eI hD0
  refine rt_ne 46 46 rfl (by decide) (by decide) (fun hc => absurd rfl hc) (fun _ => ?_)
  refine rt_run 4 rfl ?_
  refine rt_ld P.length rfl (n := 90) rfl (by omega) ?_
  refine rt_run 3 rfl ?_
  refine rt_ld (P.length + 1) rfl (n := 90) rfl (by omega) ?_
  refine rt_cV (ci := 11) mX11_follows kX11_joins_41 okX11_follows rfl rfl rfl rfl rfl ?_
  refine mFollows_spec hD0 (by rw [eI]; exact a3) (by rw [eI]; exact b2) hup (fun τ1 hO1 h24 hD1 => ?_)
  have e75 : gI τ1 75 = gI τ 75 := (hO1.1 75 (by decide)).1.trans (by rw [eI])
  have e76 : gI τ1 76 = gI τ 76 := (hO1.1 76 (by decide)).1.trans (by rw [eI])
  have e77 : gI τ1 77 = gI τ 77 := (hO1.1 77 (by decide)).1.trans (by rw [eI])
  have hO1' : OfM [72, 75, 76, 77] [22] τ τ1 := hO0.tr (hO1.up (by simp) (by simp))
  have eg1 : gF τ1 63 22 = nI (P.length + 1) := (hO1.2.2.1 22 (by decide)).trans eg
  -- what is done behind the firsts
  have lst : ∀ z : Int32, mqB z (dotJ qa qb).1 → RT mX11_joins none 72 [some (.ref 63), some (.int 46), some (.int (nI P.length)), some (.int (nI (P.length + 1)))] [.int z, .int (nI P.length), .ref 76] τ1 Q := by
    intro z hz
    refine rt_st P.length rfl (n := 90) rfl (by omega) ?_
    have fin : ∀ y : Int32, mqB y (dotJ qa qb).2 → RT mX11_joins none 105 [some (.ref 63), some (.int 46), some (.int (nI P.length)), some (.int (nI (P.length + 1)))] [.int y, .int (nI P.length), .ref 77] (sI τ1 76 P.length z) Q := by
      intro y hy
      refine rt_st P.length rfl (n := 90) rfl (by omega) ?_
      refine rt_run 4 rfl ?_
      refine rt_ld P.length rfl (n := 90) rfl (by omega) ?_
      refine rt_run 3 rfl ?_
      refine rt_ld (P.length + 1) rfl (n := 90) rfl (by omega) ?_
      refine rt_run 1 rfl ?_
      refine rt_st P.length rfl (n := 90) rfl (by omega) ?_
      refine rt_run 1 rfl ?_
      have ez : gI (sI (sI τ1 76 P.length z) 77 P.length y) 75 = gI τ 75 := e75
      rw [ez, a1, b1, b01_and]
      refine rt_vret rfl rfl (h _ (((hO1'.sI (by simp) _ _).sI (by simp) _ _).sI (by simp) _ _) ?_ (pam_two9 hP eg1 (fun i hi => ?_) ?_ ?_ ?_ ?_) ?_)
      · show gI τ1 72 24 = _
        rw [h24, eI]
      · show upd (gI τ1 75) _ _ i = _ ∧ upd (gI τ1 76) _ _ i = _ ∧ upd (gI τ1 77) _ _ i = _
        rw [pk_un hi, pk_un hi, pk_un hi, e75, e76, e77]
        exact ⟨rfl, rfl, rfl⟩
      · show upd (gI τ1 75) P.length _ P.length = _
        rw [pk_us]
        congr 1
        unfold dotJ
        cases hb : bt qa.1 0 with
        | false => rw [if_pos (and1_bt.mpr hb), hb]; rfl
        | true =>
          rw [if_neg (fun g => by rw [and1_bt.mp g] at hb; cases hb), b_or, b_and, b_m2 (by decide)]
          simp
      · show mqB (upd (gI τ1 76) P.length _ P.length) _
        rw [pk_us]
        exact hz
      · show mqB (upd (gI τ1 77) P.length _ P.length) _
        rw [pk_us]
        exact hy
      · unfold dotJ
        dsimp only
        cases ha : bt qa.1 0 with
        | false =>
          rw [if_pos (and1_bt.mpr ha), ha]
          cases hb : bt qb.2 0 with
          | false => rw [if_pos (and1_bt.mpr hb), hb]
          | true =>
            rw [if_neg (fun g => by rw [and1_bt.mp g] at hb; cases hb), b_or, b_and, b_m2 (by decide), ← a4, ha]
            simp
        | true =>
          rw [if_neg (fun g => by rw [and1_bt.mp g] at ha; cases ha), b_or, b_and, b_m2 (by decide), b4]
          cases hb : bt qb.2 0 with
          | false => rw [if_pos (and1_bt.mpr hb), hb]; simp
          | true =>
            rw [if_neg (fun g => by rw [and1_bt.mp g] at hb; cases hb), b_or, b_and, b_m2 (by decide), ← a4, ha]
            simp
      · exact hD1
    refine rt_run 6 rfl ?_
    refine rt_ld (P.length + 1) rfl (n := 90) rfl (by omega) ?_
    refine rt_run 3 rfl ?_
    refine rt_ld (P.length + 1) rfl (n := 90) rfl (by omega) ?_
    refine rt_run 1 rfl ?_
    have ez5 : gI (sI τ1 76 P.length z) 75 = gI τ 75 := e75
    have ez7 : gI (sI τ1 76 P.length z) 77 = gI τ 77 := e77
    rw [ez5, ez7, b1]
    cases hb : bt qb.1 0 with
    | true =>
      have hb2 : bt qb.2 0 = true := by rw [← b4]; exact hb
      refine rt_ic_ne rfl (fun hc => absurd rfl hc) (fun _ => ?_)
      refine rt_run 3 rfl ?_
      refine rt_ld P.length rfl (n := 90) rfl (by omega) ?_
      rw [ez7]
      refine rt_run 1 rfl ?_
      refine rt_run 1 rfl ?_
      refine fin _ ?_
      unfold dotJ
      dsimp only
      rw [if_neg (fun g => by rw [and1_bt.mp g] at hb2; cases hb2), Int32.or_comm]
      exact MQ_or a3 (MQ_m2 b3)
    | false =>
      have hb2 : bt qb.2 0 = false := by rw [← b4]; exact hb
      refine rt_ic_ne rfl (fun _ => ?_) (fun hc => absurd hc (by decide))
      refine rt_run 1 rfl ?_
      refine rt_run 1 rfl ?_
      rw [Int32.or_zero]
      refine fin _ ?_
      unfold dotJ
      dsimp only
      rw [if_pos (and1_bt.mpr hb2)]
      exact b3
  refine rt_run 4 rfl ?_
  refine rt_ld P.length rfl (n := 90) rfl (by omega) ?_
  refine rt_run 3 rfl ?_
  refine rt_ld P.length rfl (n := 90) rfl (by omega) ?_
  refine rt_run 1 rfl ?_
  rw [e75, e76, a1]
  cases ha : bt qa.1 0 with
  | true =>
    refine rt_ic_ne rfl (fun hc => absurd rfl hc) (fun _ => ?_)
    refine rt_run 3 rfl ?_
    refine rt_ld (P.length + 1) rfl (n := 90) rfl (by omega) ?_
    rw [e76]
    refine rt_run 1 rfl ?_
    refine rt_run 1 rfl ?_
    refine lst _ ?_
    unfold dotJ
    dsimp only
    rw [if_neg (fun g => by rw [and1_bt.mp g] at ha; cases ha)]
    exact MQ_or (MQ_m2 a2) b2
  | false =>
    refine rt_ic_ne rfl (fun _ => ?_) (fun hc => absurd hc (by decide))
    refine rt_run 1 rfl ?_
    refine rt_run 1 rfl ?_
    rw [Int32.or_zero]
    refine lst _ ?_
    unfold dotJ
    dsimp only
    rw [if_pos (and1_bt.mpr ha)]
    exact a2
theorem mJoinsB_spec {P : List (Int32 × Int32)} {qa qb : Int32 × Int32} (hP : PAtM τ (P ++ [qa, qb])) (hl : P.length < 80)
    (h : ∀ τ', OfM [75, 76, 77] [22] τ τ' → PAtM τ' (P ++ [barJ qa qb]) → Q none τ') : RT mX11_joins none 0 [some (.ref 63), some (.int 124), none, none] [] τ Q := by
  have hlen : (P ++ [qa, qb]).length = P.length + 2 := by rw [List.length_append]; rfl
  have ga : (P ++ [qa, qb])[P.length]? = some qa := by rw [List.getElem?_append_right (Nat.le_refl _), Nat.sub_self]; rfl
  have gb : (P ++ [qa, qb])[P.length + 1]? = some qb := by rw [List.getElem?_append_right (by omega), Nat.add_sub_cancel_left]; rfl
  obtain ⟨a1, a2, a3, a4⟩ := hP.2 _ _ ga
  obtain ⟨b1, b2, b3, b4⟩ := hP.2 _ _ gb
  have e22 : gF τ 63 22 = nI (P.length + 1 + 1) := by rw [hP.1, hlen]
  have e22' : gF τ 63 22 - 1 = nI (P.length + 1) := by rw [e22, nI_pred]
  refine rt_run 6 rfl ?_
  rw [e22']
  refine rt_run 10 rfl ?_
  rw [show gF (sF τ 63 22 (nI (P.length + 1))) 63 22 = nI (P.length + 1) from rfl, nI_pred]
  refine rt_ne 124 46 rfl (by decide) (by decide) (fun _ => ?_) (fun hc => absurd hc (by decide))
  refine rt_run 4 rfl ?_
  refine rt_ld P.length rfl (n := 90) rfl (by omega) ?_
  refine rt_run 3 rfl ?_
  refine rt_ld (P.length + 1) rfl (n := 90) rfl (by omega) ?_
  refine rt_run 1 rfl ?_
  refine rt_st P.length rfl (n := 90) rfl (by omega) ?_
  refine rt_run 4 rfl ?_
  refine rt_ld P.length rfl (n := 90) rfl (by omega) ?_
  refine rt_run 3 rfl ?_
  refine rt_ld (P.length + 1) rfl (n := 90) rfl (by omega) ?_
  refine rt_run 1 rfl ?_
  refine rt_st P.length rfl (n := 90) rfl (by omega) ?_
  refine rt_run 4 rfl ?_
  refine rt_ld P.length rfl (n := 90) rfl (by omega) ?_
  refine rt_run 3 rfl ?_
  refine rt_ld (P.length + 1) rfl (n := 90) rfl (by omega) ?_
  refine rt_run 1 rfl ?_
  refine rt_st P.length rfl (n := 90) rfl (by omega) ?_
  refine rt_vret rfl rfl (h _ (((((OfM.rf _ _ τ).sF (by simp) _).sI (by simp) _ _).sI (by simp) _ _).sI (by simp) _ _) (pam_two9 hP rfl (fun i hi => ?_) ?_ ?_ ?_ ?_))
  · show upd (gI τ 75) _ _ i = _ ∧ upd (gI τ 76) _ _ i = _ ∧ upd (gI τ 77) _ _ i = _
    rw [pk_un hi, pk_un hi, pk_un hi]
    exact ⟨rfl, rfl, rfl⟩
  · show upd (gI τ 75) P.length (gI τ 75 P.length ||| gI τ 75 (P.length + 1)) P.length = _
    rw [pk_us, a1, b1, b01_or]
    unfold barJ
    rw [b_or]
  · show mqB (upd (gI τ 76) P.length (gI τ 76 P.length ||| gI τ 76 (P.length + 1)) P.length) _
    rw [pk_us]
    exact MQ_or a2 b2
  · show mqB (upd (gI τ 77) P.length (gI τ 77 P.length ||| gI τ 77 (P.length + 1)) P.length) _
    rw [pk_us]
    exact MQ_or a3 b3
  · unfold barJ
    rw [b_or, b_or, a4, b4]
end MdRead

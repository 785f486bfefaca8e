/-! the state that class and reference share, as the class holds it; its small methods -/
/-- edges, text, expressions, which one stands, what came, what was lost, how many calls were refused with BAD, NO, FULL -/
abbrev AS : Type := Gr × List Nat × (Nat → Option AE) × Option Nat × Int32 × Int32 × Int32 × Int32 × Int32
abbrev aG (a : AS) : Gr := a.1
abbrev aT (a : AS) : List Nat := a.2.1
abbrev aX (a : AS) : Nat → Option AE := a.2.2.1
abbrev aW (a : AS) : Option Nat := a.2.2.2.1
abbrev aC (a : AS) : Int32 := a.2.2.2.2.1
abbrev aLo (a : AS) : Int32 := a.2.2.2.2.2.1
abbrev aB (a : AS) : Int32 := a.2.2.2.2.2.2.1
abbrev aN (a : AS) : Int32 := a.2.2.2.2.2.2.2.1
abbrev aF (a : AS) : Int32 := a.2.2.2.2.2.2.2.2
/-- the standing answers from u, as bits -/
noncomputable def rowI (G : Gr) (X : Nat → Option AE) (w : Option Nat) (u : Nat) : Int32 := match w with
  | none => 0
  | some x => match X x with
    | none => 0
    | some A => vb (ansB (stL G none) A u) 10
def anyL : SL := (List.range 8).map (fun s => (0, s, 0, s))
def TxIs (τ : Ty) (T : List Nat) : Prop := gF τ 0 5 = nI T.length ∧ T.length ≤ 80 ∧ ∀ i b, T[i]? = some b → b < 128 ∧ gI τ 20 i = nI b
def XsIs (τ : Ty) (X : Nat → Option AE) : Prop := ∀ x, x < 4 → match X x with
  | none => gF τ (51 + 3 * x) 4 = 0 ∧ gF τ (51 + 3 * x) 3 = 0
  | some A => gF τ (51 + 3 * x) 4 = 1 ∧ ExIs τ (51 + 3 * x) A
def WsIs (τ : Ty) : Prop := ∃ wa wb, isW wa wb ∧ gW τ = (wa, wb)
def SdIs (τ : Ty) (a : AS) : Prop := gF τ 49 1 = wI (aW a) ∧ (∀ x, aW a = some x → x < 4 ∧ (aX a x).isSome = true) ∧ gF τ 49 2 = aC a ∧ gF τ 49 3 = aLo a ∧ ∀ u, u < 10 → gI τ 50 u = rowI (aG a) (aX a) (aW a) u
def CtIs (τ : Ty) (a : AS) : Prop := gF τ 0 13 = aB a ∧ gF τ 0 14 = aN a ∧ gF τ 0 15 = aF a
def CIs (τ : Ty) (a : AS) : Prop := EdIs τ (aG a) ∧ StIs τ 5 (stL (aG a) none) ∧ StIs τ 15 anyL ∧ TxIs τ (aT a) ∧ XsIs τ (aX a) ∧ WsIs τ ∧ SdIs τ a ∧ CtIs τ a
/-- cells that hold nothing between two calls -/
abbrev kX : List Nat := [10, 11, 12, 13, 14, 22, 23, 24, 25, 26, 27, 28, 29, 31, 32, 33, 35, 36, 37, 39, 40, 41, 42, 43, 44, 46, 47, 48]
/-- the reference's cells are as they were -/
def OffC (τ τ' : Ty) : Prop := ∀ k, 63 ≤ k → gI τ' k = gI τ k ∧ gL τ' k = gL τ k ∧ gF τ' k = gF τ k
theorem OffC.rf (τ : Ty) : OffC τ τ := fun _ _ => ⟨rfl, rfl, rfl⟩
theorem OffC.tr {τ τ' τ'' : Ty} (h : OffC τ τ') (h' : OffC τ' τ'') : OffC τ τ'' :=
  fun k hk => ⟨(h' k hk).1.trans (h k hk).1, (h' k hk).2.1.trans (h k hk).2.1, (h' k hk).2.2.trans (h k hk).2.2⟩
theorem OffW.c {ks : List Nat} {τ τ' : Ty} (h : OffW ks τ τ') (hs : ∀ k ∈ ks, k < 63) : OffC τ τ' := fun k hk => h k (fun hin => by have := hs k hin; omega)
theorem OffW.up {ks ks' : List Nat} {τ τ' : Ty} (h : OffW ks τ τ') (hs : ∀ k ∈ ks, k ∈ ks') : OffW ks' τ τ' := fun k hk => h k (fun hh => hk (hs k hh))
theorem isE_x {x : Nat} (hx : x < 4) : isE (51 + 3 * x) := by
  rcases (show x = 0 ∨ x = 1 ∨ x = 2 ∨ x = 3 by omega) with rfl | rfl | rfl | rfl
  · exact Or.inr (Or.inl rfl)
  · exact Or.inr (Or.inr (Or.inl rfl))
  · exact Or.inr (Or.inr (Or.inr (Or.inl rfl)))
  · exact Or.inr (Or.inr (Or.inr (Or.inr rfl)))
theorem XsIs.offW {ks : List Nat} {τ τ' : Ty} {X : Nat → Option AE} (h : XsIs τ X) (ho : OffW ks τ τ') (hk : ∀ k, 51 ≤ k → k < 63 → k ∉ ks) : XsIs τ' X := by
  intro x hx
  have h1 := h x hx
  have hF := (ho (51 + 3 * x) (hk _ (by omega) (by omega))).2.2
  cases hX : X x with
  | none =>
    rw [hX] at h1
    dsimp only at h1 ⊢
    rw [hF]
    exact h1
  | some A =>
    rw [hX] at h1
    dsimp only at h1 ⊢
    refine ⟨by rw [hF]; exact h1.1, h1.2.offW ho ⟨hk _ (by omega) (by omega), hk _ (by omega) (by omega), hk _ (by omega) (by omega)⟩⟩
theorem CIs.scr {τ τ' : Ty} {a : AS} (h : CIs τ a) (ho : OffW kX τ τ') (hw : WsIs τ') : CIs τ' a := by
  obtain ⟨h1, h2, h3, h4, h5, h6, h7, h8⟩ := h
  refine ⟨h1.offW ho (by decide), h2.offW ho (by decide), h3.offW ho (by decide), ?_, h5.offW ho (fun k h1 h2 hin => ?_), hw, ?_, ?_⟩
  · unfold TxIs at *
    rw [(ho 0 (by decide)).2.2, (ho 20 (by decide)).1]
    exact h4
  · have : ∀ k ∈ kX, k < 51 := by decide
    have := this k hin
    omega
  · unfold SdIs at *
    rw [(ho 49 (by decide)).2.2, (ho 50 (by decide)).1]
    exact h7
  · unfold CtIs at *
    rw [(ho 0 (by decide)).2.2]
    exact h8
theorem stL_ok {G : Gr} (hl : G.length ≤ 30) (hG : ∀ q ∈ G, q.1 < 10 ∧ q.2.1 < 4 ∧ q.2.2 < 10) (w : Option Nat) : StOk (stL G w) := by
  have hf : ∀ n, ∀ q ∈ fwdN G w n, q.1 < 10 ∧ q.2.1 < 8 ∧ q.2.2.1 < 10 := by
    intro n
    induction n with
    | zero => intro q hq; simp [fwdN] at hq
    | succ n ih =>
      intro q hq
      unfold fwdN at hq
      rcases List.mem_append.mp hq with hq | hq
      · exact ih q hq
      · cases hg : G[n]? with
        | none => rw [hg] at hq; simp at hq
        | some x =>
          rw [hg] at hq
          dsimp only at hq
          split at hq
          · simp at hq
          · simp at hq
            subst hq
            have := hG x (List.mem_of_getElem? hg)
            exact ⟨this.1, by show x.2.1 < 8; omega, this.2.2⟩
  have hb : ∀ n, ∀ q ∈ bwdN G w n, q.1 < 10 ∧ q.2.1 < 8 ∧ q.2.2.1 < 10 := by
    intro n
    induction n with
    | zero => intro q hq; simp [bwdN] at hq
    | succ n ih =>
      intro q hq
      unfold bwdN at hq
      rcases List.mem_append.mp hq with hq | hq
      · exact ih q hq
      · cases hg : G[n]? with
        | none => rw [hg] at hq; simp at hq
        | some x =>
          rw [hg] at hq
          dsimp only at hq
          split at hq
          · simp at hq
          · simp at hq
            subst hq
            have := hG x (List.mem_of_getElem? hg)
            exact ⟨this.2.2, by show x.2.1 + 4 < 8; omega, this.1⟩
  refine ⟨?_, fun q hq => ?_⟩
  · unfold stL
    rw [List.length_append]
    have := fwdN_len G w G.length
    have := bwdN_len G w G.length
    omega
  · rcases List.mem_append.mp hq with hq | hq
    · exact hf _ q hq
    · exact hb _ q hq
theorem EdIs.ok {τ : Ty} {G : Gr} (h : EdIs τ G) (w : Option Nat) : StOk (stL G w) := stL_ok h.2.2.1 h.2.2.2 w
theorem anyL_ok : StOk anyL := by
  refine ⟨by decide, fun q hq => ?_⟩
  revert q
  decide
section ClSmall
variable {τ : Ty} {Q : Option Value → Ty → Prop}
theorem isVertex_spec {x : Int32} (h0 : (¬ ∃ j, j < 10 ∧ x = nI j) → Q (some (.int 0)) τ) (h1 : ∀ j, j < 10 → x = nI j → Q (some (.int 1)) τ) : RT mX10_isVertex none 0 [some (.int x)] [] τ Q := by
  have no : (¬ ∃ j, j < 10 ∧ x = nI j) → RT mX10_isVertex none 14 [some (.int x)] [] τ Q := by
    intro hh
    refine rt_run 1 rfl ?_
    exact rt_zret rfl rfl (Or.inl rfl) (h0 hh)
  refine rt_run 1 rfl ?_
  refine rt_if_lt rfl (fun hc => no ?_) (fun hc => ?_)
  · rintro ⟨j, hj, rfl⟩
    exact nI_pos (by omega) hc
  · refine rt_run 2 rfl ?_
    refine rt_ic_ge rfl (fun hd => no ?_) (fun hd => ?_)
    · rintro ⟨j, hj, rfl⟩
      exact nI_ge hj (by decide) hd
    · refine rt_run 2 rfl ?_
      rcases pk_ix x (n := 10) (by decide) with h | h | ⟨j, hj, e⟩
      · exact absurd h hc
      · exact absurd h hd
      · exact rt_zret rfl rfl (Or.inr rfl) (h1 j hj e)
theorem isExpr_spec {x : Int32} (h0 : (¬ ∃ j, j < 4 ∧ x = nI j) → Q (some (.int 0)) τ) (h1 : ∀ j, j < 4 → x = nI j → Q (some (.int 1)) τ) : RT mX10_isExpression none 0 [some (.int x)] [] τ Q := by
  have no : (¬ ∃ j, j < 4 ∧ x = nI j) → RT mX10_isExpression none 13 [some (.int x)] [] τ Q := by
    intro hh
    refine rt_run 1 rfl ?_
    exact rt_zret rfl rfl (Or.inl rfl) (h0 hh)
  refine rt_run 1 rfl ?_
  refine rt_if_lt rfl (fun hc => no ?_) (fun hc => ?_)
  · rintro ⟨j, hj, rfl⟩
    exact nI_pos (by omega) hc
  · refine rt_run 2 rfl ?_
    refine rt_ic_ge rfl (fun hd => no ?_) (fun hd => ?_)
    · rintro ⟨j, hj, rfl⟩
      exact nI_ge hj (by decide) hd
    · refine rt_run 2 rfl ?_
      rcases pk_ix x (n := 4) (by decide) with h | h | ⟨j, hj, e⟩
      · exact absurd h hc
      · exact absurd h hd
      · exact rt_zret rfl rfl (Or.inr rfl) (h1 j hj e)
/-- one more call refused -/
def refA (r : Int32) (a : AS) : AS := (aG a, aT a, aX a, aW a, aC a, aLo a, if r = -2 then aB a + 1 else aB a, if r = -3 then aN a + 1 else aN a, if r = -4 then aF a + 1 else aF a)
theorem CIs.ct {τ : Ty} {a : AS} {j : Nat} {x : Int32} (h : CIs τ a) (hj : 13 ≤ j) {B N F : Int32} (hB : upd (gF τ 0) j x 13 = B) (hN : upd (gF τ 0) j x 14 = N) (hF : upd (gF τ 0) j x 15 = F) : CIs (sF τ 0 j x) (aG a, aT a, aX a, aW a, aC a, aLo a, B, N, F) := by
  obtain ⟨h1, h2, h3, h4, h5, h6, h7, h8⟩ := h
  have ho : OffW [0] τ (sF τ 0 j x) := ((Off.rf _ _).sF (by simp) _ _).w
  refine ⟨h1.offW ho (by decide), h2.offW ho (by decide), h3.offW ho (by decide), ⟨?_, h4.2⟩, h5.offW ho (fun k h1 h2 hin => by simp at hin; omega), h6, h7, ⟨hB, hN, hF⟩⟩
  show upd (gF τ 0) j x 5 = _
  rw [pk_un (by omega)]
  exact h4.1
theorem refuse_spec {a : AS} {r : Int32} (hC : CIs τ a) (hr : r = -2 ∨ r = -3 ∨ r = -4) (h : ∀ τ', OffC τ τ' → CIs τ' (refA r a) → Q (some (.int r)) τ') : RT mX10_refuse none 0 [some (.ref 0), some (.int r)] [] τ Q := by
  obtain ⟨e1, e2, e3⟩ := hC.2.2.2.2.2.2.2
  have ho : ∀ j x, OffC τ (sF τ 0 j x) := fun j x => ((Off.rf [0] τ).sF (by simp) j x).w.c (by simp)
  rcases hr with rfl | rfl | rfl
  · refine rt_run 2 rfl ?_
    refine rt_ic_ne rfl (fun hc => absurd rfl hc) (fun _ => ?_)
    refine rt_run 8 rfl ?_
    refine rt_iret rfl rfl (h _ (ho _ _) (hC.ct (by decide) ?_ ?_ ?_))
    · rw [pk_us, e1]; rfl
    · rw [pk_un (by decide), e2]; rfl
    · rw [pk_un (by decide), e3]; rfl
  · refine rt_run 2 rfl ?_
    refine rt_ic_ne rfl (fun _ => ?_) (fun hc => absurd hc (by decide))
    refine rt_run 2 rfl ?_
    refine rt_ic_ne rfl (fun hc => absurd rfl hc) (fun _ => ?_)
    refine rt_run 8 rfl ?_
    refine rt_iret rfl rfl (h _ (ho _ _) (hC.ct (by decide) ?_ ?_ ?_))
    · rw [pk_un (by decide), e1]; rfl
    · rw [pk_us, e2]; rfl
    · rw [pk_un (by decide), e3]; rfl
  · refine rt_run 2 rfl ?_
    refine rt_ic_ne rfl (fun _ => ?_) (fun hc => absurd hc (by decide))
    refine rt_run 2 rfl ?_
    refine rt_ic_ne rfl (fun _ => ?_) (fun hc => absurd hc (by decide))
    refine rt_run 7 rfl ?_
    refine rt_iret rfl rfl (h _ (ho _ _) (hC.ct (by decide) ?_ ?_ ?_))
    · rw [pk_un (by decide), e1]; rfl
    · rw [pk_un (by decide), e2]; rfl
    · rw [pk_us, e3]; rfl
theorem orRefused_spec {a : AS} {r : Int32} (hC : CIs τ a) (h : ∀ τ', OffC τ τ' → CIs τ' (if r = -4 then refA (-4) a else a) → Q (some (.int r)) τ') : RT mX10_orRefused none 0 [some (.ref 0), some (.int r)] [] τ Q := by
  refine rt_run 2 rfl ?_
  refine rt_ic_ne rfl (fun hc => ?_) (fun hc => ?_)
  · rw [if_neg hc] at h
    refine rt_run 1 rfl ?_
    exact rt_iret rfl rfl (h τ (OffC.rf _) hC)
  · subst hc
    rw [if_pos rfl] at h
    refine rt_run 2 rfl ?_
    refine rt_cV (ci := 10) mX10_refuse kX10_orRefused_9 okX10_refuse rfl rfl rfl rfl rfl ?_
    refine refuse_spec hC (Or.inr (Or.inr rfl)) (fun τ' hO hC' => ?_)
    refine rt_run 1 rfl ?_
    exact rt_iret rfl rfl (h τ' hO hC')
/-- what a call about routes is refused with -/
noncomputable def rfOf (a : AS) (x u v : Int32) : Int32 := @ite _ ((∃ i, i < 4 ∧ x = nI i) ∧ (∃ j, j < 10 ∧ u = nI j) ∧ ∃ k, k < 10 ∧ v = nI k) (Classical.propDecidable _) (@ite _ (∃ i, i < 4 ∧ x = nI i ∧ (aX a i).isSome = true) (Classical.propDecidable _) 0 (-3)) (-2)
theorem refusalOf_spec {a : AS} {x u v : Int32} (hC : CIs τ a) (hbad : ¬ ((∃ i, i < 4 ∧ x = nI i) ∧ (∃ j, j < 10 ∧ u = nI j) ∧ ∃ k, k < 10 ∧ v = nI k) → Q (some (.int (-2))) τ) (hno : ∀ i j k, i < 4 → j < 10 → k < 10 → x = nI i → u = nI j → v = nI k → aX a i = none → Q (some (.int (-3))) τ) (hok : ∀ i j k A, i < 4 → j < 10 → k < 10 → x = nI i → u = nI j → v = nI k → aX a i = some A → ExIs τ (51 + 3 * i) A → Q (some (.int 0)) τ) :
    RT mX10_refusalOf none 0 [some (.ref 0), some (.int x), some (.int u), some (.int v)] [] τ Q := by
  have no : ¬ ((∃ i, i < 4 ∧ x = nI i) ∧ (∃ j, j < 10 ∧ u = nI j) ∧ ∃ k, k < 10 ∧ v = nI k) → RT mX10_refusalOf none 21 [some (.ref 0), some (.int x), some (.int u), some (.int v)] [] τ Q := by
    intro hh
    refine rt_run 1 rfl ?_
    exact rt_iret rfl rfl (hbad hh)
  refine rt_run 1 rfl ?_
  refine rt_cS mX10_isExpression kX10_refusalOf_1 okX10_isExpression rfl rfl ?_
  refine isExpr_spec (fun hh => ?_) (fun i hi ei => ?_)
  · refine rt_if_eq rfl (fun _ => no (fun g => hh g.1)) (fun hc => absurd rfl hc)
  · refine rt_if_eq rfl (fun hc => absurd hc (by decide)) (fun _ => ?_)
    refine rt_run 1 rfl ?_
    refine rt_cS mX10_isVertex kX10_refusalOf_8 okX10_isVertex rfl rfl ?_
    refine isVertex_spec (fun hh => ?_) (fun j hj ej => ?_)
    · refine rt_if_eq rfl (fun _ => no (fun g => hh g.2.1)) (fun hc => absurd rfl hc)
    · refine rt_if_eq rfl (fun hc => absurd hc (by decide)) (fun _ => ?_)
      refine rt_run 1 rfl ?_
      refine rt_cS mX10_isVertex kX10_refusalOf_15 okX10_isVertex rfl rfl ?_
      refine isVertex_spec (fun hh => ?_) (fun k hk ek => ?_)
      · refine rt_if_ne rfl (fun hc => absurd rfl hc) (fun _ => no (fun g => hh g.2.2))
      · refine rt_if_ne rfl (fun _ => ?_) (fun hc => absurd hc (by decide))
        subst ei; subst ej; subst ek
        have hX := hC.2.2.2.2.1 i hi
        obtain ⟨f0, f1, f2, f3, f4, a0, a1, h38⟩ := isE_f (isE_x hi)
        refine rt_run 3 rfl ?_
        refine rt_aald rfl hi ?_
        refine rt_getI rfl f4 ?_
        cases hA : aX a i with
        | none =>
          rw [hA] at hX
          refine rt_if_eq rfl (fun _ => ?_) (fun hc => absurd hX.1 hc)
          refine rt_run 1 rfl ?_
          exact rt_iret rfl rfl (hno i j k hi hj hk rfl rfl rfl hA)
        | some A =>
          rw [hA] at hX
          refine rt_if_eq rfl (fun hc => ?_) (fun _ => ?_)
          · rw [hX.1] at hc
            exact absurd hc (by decide)
          · refine rt_run 2 rfl ?_
            exact rt_iret rfl rfl (hok i j k A hi hj hk rfl rfl rfl hA hX.2)
end ClSmall

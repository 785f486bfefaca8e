/-! the class's shared methods: size, placesOfAll, answersOf, isAnswerWithout, keepAnswers, graphChanged -/
/-- a sum of ints -/
def smI (f : Nat → Int32) : Nat → Int32
  | 0 => 0
  | n + 1 => smI f n + f n
theorem smI_ext {f g : Nat → Int32} {n : Nat} (h : ∀ i, i < n → f i = g i) : smI f n = smI g n := by
  induction n with
  | zero => rfl
  | succ n ih =>
    unfold smI
    rw [ih (fun i hi => h i (by omega)), h n (by omega)]
noncomputable def szI (a : AS) : Int32 := smI (fun u => bcI (rowI (aG a) (aX a) (aW a) u)) 10
def Sd0 (τ : Ty) (a : AS) : Prop := gF τ 49 1 = wI (aW a) ∧ (∀ x, aW a = some x → x < 4 ∧ (aX a x).isSome = true) ∧ gF τ 49 2 = aC a ∧ gF τ 49 3 = aLo a
/-- the state but for its steps and its standing answers -/
def CI1 (τ : Ty) (a : AS) : Prop := EdIs τ (aG a) ∧ StIs τ 15 anyL ∧ TxIs τ (aT a) ∧ XsIs τ (aX a) ∧ WsIs τ ∧ Sd0 τ a ∧ CtIs τ a
theorem CIs.one {τ : Ty} {a : AS} (h : CIs τ a) : CI1 τ a := by
  obtain ⟨h1, h2, h3, h4, h5, h6, h7, h8⟩ := h
  exact ⟨h1, h3, h4, h5, h6, ⟨h7.1, h7.2.1, h7.2.2.1, h7.2.2.2.1⟩, h8⟩
theorem CI1.all {τ : Ty} {a : AS} (h : CI1 τ a) (hs : StIs τ 5 (stL (aG a) none)) (hr : ∀ u, u < 10 → gI τ 50 u = rowI (aG a) (aX a) (aW a) u) : CIs τ a := by
  obtain ⟨h1, h3, h4, h5, h6, h7, h8⟩ := h
  exact ⟨h1, hs, h3, h4, h5, h6, ⟨h7.1, h7.2.1, h7.2.2.1, h7.2.2.2, hr⟩, h8⟩
theorem WsIs.eq {τ τ' : Ty} (h : WsIs τ) (e : gW τ' = gW τ) : WsIs τ' := by
  obtain ⟨wa, wb, h1, h2⟩ := h
  exact ⟨wa, wb, h1, e.trans h2⟩
theorem CI1.offW {ks : List Nat} {τ τ' : Ty} {a : AS} (h : CI1 τ a) (ho : OffW ks τ τ') (hw : WsIs τ') (hk : ∀ k ∈ [0, 1, 2, 3, 4, 15, 16, 17, 18, 19, 20, 49, 51, 52, 53, 54, 55, 56, 57, 58, 59, 60, 61, 62], k ∉ ks) : CI1 τ' a := by
  obtain ⟨h1, h3, h4, h5, h6, h7, h8⟩ := h
  refine ⟨h1.offW ho ⟨hk _ (by decide), hk _ (by decide), hk _ (by decide), hk _ (by decide)⟩, h3.offW ho ⟨hk _ (by decide), hk _ (by decide), hk _ (by decide), hk _ (by decide), hk _ (by decide)⟩, ?_, h5.offW ho (fun k g1 g2 => ?_), hw, ?_, ?_⟩
  · unfold TxIs at *
    rw [(ho 0 (hk _ (by decide))).2.2, (ho 20 (hk _ (by decide))).1]
    exact h4
  · refine hk k ?_
    rcases (show k = 51 ∨ k = 52 ∨ k = 53 ∨ k = 54 ∨ k = 55 ∨ k = 56 ∨ k = 57 ∨ k = 58 ∨ k = 59 ∨ k = 60 ∨ k = 61 ∨ k = 62 by omega) with rfl | rfl | rfl | rfl | rfl | rfl | rfl | rfl | rfl | rfl | rfl | rfl <;> decide
  · unfold Sd0 at *
    rw [(ho 49 (hk _ (by decide))).2.2]
    exact h7
  · unfold CtIs at *
    rw [(ho 0 (hk _ (by decide))).2.2]
    exact h8
section ClShared
variable {τ : Ty} {Q : Option Value → Ty → Prop} {a : AS}
theorem size_spec (hC : CIs τ a) (h : Q (some (.int (szI a))) τ) : RT mX6_size none 0 [some (.ref 49), none, none] [] τ Q := by
  have hr := hC.2.2.2.2.2.2.1.2.2.2.2
  have loop : ∀ d u, u + d = 10 → RT mX6_size none 4 [some (.ref 49), some (.int (smI (fun u => bcI (rowI (aG a) (aX a) (aW a) u)) u)), some (.int (nI u))] [] τ Q := by
    intro d
    induction d with
    | zero =>
      intro u hu
      have : u = 10 := by omega
      subst this
      refine rt_run 2 rfl ?_
      refine rt_ge 10 10 rfl (by omega) (by omega) (fun _ => ?_) (fun _ => by omega)
      refine rt_run 1 rfl ?_
      exact rt_iret rfl rfl h
    | succ d ih =>
      intro u hu
      refine rt_run 2 rfl ?_
      refine rt_ge u 10 rfl (by omega) (by omega) (fun _ => by omega) (fun _ => ?_)
      refine rt_run 4 rfl ?_
      refine rt_ld u rfl (n := 10) rfl (by omega) ?_
      rw [hr u (by omega)]
      refine rt_cS mJ6_bitCount_0f7a4 kX6_size_17 okJ6_bitCount_0f7a4 rfl rfl ?_
      refine bitCount_spec ?_
      refine rt_run 4 rfl ?_
      rw [← nI_succ]
      exact ih (u + 1) (by omega)
  refine rt_run 4 rfl ?_
  exact loop 10 0 (by omega)
def plI (X : Nat → Option AE) (x : Nat) : Int32 := match X x with
  | none => 0
  | some A => nI A.2.2.2
theorem placesOfAll_spec (hC : CIs τ a) (h : Q (some (.int (smI (plI (aX a)) 4))) τ) : RT mX10_placesOfAll none 0 [some (.ref 0), none, none] [] τ Q := by
  have hX := hC.2.2.2.2.1
  have loop : ∀ d u, u + d = 4 → RT mX10_placesOfAll none 4 [some (.ref 0), some (.int (smI (plI (aX a)) u)), some (.int (nI u))] [] τ Q := by
    intro d
    induction d with
    | zero =>
      intro u hu
      have : u = 4 := by omega
      subst this
      refine rt_run 2 rfl ?_
      refine rt_ge 4 4 rfl (by omega) (by omega) (fun _ => ?_) (fun _ => by omega)
      refine rt_run 1 rfl ?_
      exact rt_iret rfl rfl h
    | succ d ih =>
      intro u hu
      obtain ⟨f0, f1, f2, f3, f4, a0, a1, h38⟩ := isE_f (isE_x (x := u) (by omega))
      refine rt_run 2 rfl ?_
      refine rt_ge u 4 rfl (by omega) (by omega) (fun _ => by omega) (fun _ => ?_)
      refine rt_run 4 rfl ?_
      refine rt_aald rfl (by omega) ?_
      refine rt_getI rfl f3 ?_
      have e : gF τ (51 + 3 * u) 3 = plI (aX a) u := by
        have h1 := hX u (by omega)
        unfold plI
        cases hA : aX a u with
        | none => rw [hA] at h1; exact h1.2
        | some A => rw [hA] at h1; exact h1.2.1
      rw [e]
      refine rt_run 4 rfl ?_
      rw [← nI_succ]
      exact ih (u + 1) (by omega)
  refine rt_run 4 rfl ?_
  exact loop 4 0 (by omega)
noncomputable def anI (L : SL) (A : AE) : Int32 := smI (fun u => bcI (vb (ansB L A u) 10)) 10
theorem answersOf_spec {ke : Nat} {A : AE} {L : SL} (hke : isE ke) (hE : ExIs τ ke A) (hS : StIs τ 5 L) (hL : StOk L) (h : ∀ τ', Off [31, 32, 33] τ τ' → Q (some (.int (anI L A))) τ') : RT mX10_answersOf none 0 [some (.ref 0), some (.ref ke), none, none] [] τ Q := by
  have loop : ∀ d u τ', u + d = 10 → Off [31, 32, 33] τ τ' → RT mX10_answersOf none 4 [some (.ref 0), some (.ref ke), some (.int (smI (fun u => bcI (vb (ansB L A u) 10)) u)), some (.int (nI u))] [] τ' Q := by
    intro d
    induction d with
    | zero =>
      intro u τ' hu hO
      have : u = 10 := by omega
      subst this
      refine rt_run 2 rfl ?_
      refine rt_ge 10 10 rfl (by omega) (by omega) (fun _ => ?_) (fun _ => by omega)
      refine rt_run 1 rfl ?_
      exact rt_iret rfl rfl (h τ' hO)
    | succ d ih =>
      intro u τ' hu hO
      refine rt_run 2 rfl ?_
      refine rt_ge u 10 rfl (by omega) (by omega) (fun _ => by omega) (fun _ => ?_)
      refine rt_run 7 rfl ?_
      refine rt_cV (ci := 3) mX3_endsFrom kX10_answersOf_21 okX3_endsFrom rfl rfl rfl rfl rfl ?_
      refine endsFrom_spec hke (Or.inl rfl) (hE.off hO (offE hke)) (hS.off hO (offS (Or.inl rfl))) hL (by omega) (fun τ2 hO2 => ?_)
      refine rt_cS mJ6_bitCount_0f7a4 kX10_answersOf_24 okJ6_bitCount_0f7a4 rfl rfl ?_
      refine bitCount_spec ?_
      refine rt_run 4 rfl ?_
      rw [← nI_succ]
      exact ih (u + 1) τ2 (by omega) (hO.tr hO2)
  refine rt_run 4 rfl ?_
  exact loop 10 0 τ (by omega) (Off.rf _ _)
theorem isAnswerWithout_spec {ke u v e : Nat} {A : AE} {G : Gr} (hke : isE ke) (hE : ExIs τ ke A) (hG : EdIs τ G) (hu : u < 10) (hv : v < 10) (he : e < 30)
    (h : ∀ τ', Off [10, 11, 12, 13, 14, 31, 32, 33] τ τ' → Q (some (.int (if ansB (stL G (some e)) A u v = true then 1 else 0))) τ') :
    RT mX10_isAnswerWithout none 0 [some (.ref 0), some (.ref ke), some (.int (nI u)), some (.int (nI v)), some (.int (nI e))] [] τ Q := by
  refine rt_run 5 rfl ?_
  refine rt_cV (ci := 1) mX1_spell kX10_isAnswerWithout_10 okX1_spell rfl rfl rfl rfl rfl ?_
  refine spell_spec (w := some e) (Or.inr (Or.inl rfl)) hG (fun e' h' => by cases h'; omega) (fun τ1 hO1 hS1 => ?_)
  refine rt_run 6 rfl ?_
  refine rt_cV (ci := 3) mX3_endsFrom kX10_isAnswerWithout_23 okX3_endsFrom rfl rfl rfl rfl rfl ?_
  refine endsFrom_spec hke (Or.inr (Or.inl rfl)) (hE.off hO1 ?_) hS1 (hG.ok _) hu (fun τ2 hO2 => ?_)
  · rcases hke with rfl | rfl | rfl | rfl | rfl <;> decide
  · have hh := h τ2 ((hO1.up (by simp)).tr (hO2.up (by simp)))
    refine rt_run 4 rfl ?_
    have hb : bt (vb (ansB (stL G (some e)) A u) 10) v = ansB (stL G (some e)) A u v := by
      rw [vb_bt _ _ (by omega) (by omega)]; simp [hv]
    rw [b_t1 (by omega), hb]
    cases hx : ansB (stL G (some e)) A u v with
    | true =>
      rw [hx] at hh
      refine rt_if_eq rfl (fun hc => absurd hc (by decide)) (fun _ => ?_)
      refine rt_run 2 rfl ?_
      exact rt_zret rfl rfl (Or.inr rfl) hh
    | false =>
      rw [hx] at hh
      refine rt_if_eq rfl (fun _ => ?_) (fun hc => absurd rfl hc)
      refine rt_run 1 rfl ?_
      exact rt_zret rfl rfl (Or.inl rfl) hh
theorem keepAnswers_spec (hC : CI1 τ a) (hS : StIs τ 5 (stL (aG a) none)) (h : ∀ τ', Off [31, 32, 33, 50] τ τ' → CIs τ' a → Q none τ') : RT mX10_keepAnswers none 0 [some (.ref 0), none] [] τ Q := by
  have loop : ∀ d u τ', u + d = 10 → Off [31, 32, 33, 50] τ τ' → (∀ v, v < u → gI τ' 50 v = rowI (aG a) (aX a) (aW a) v) → RT mX10_keepAnswers none 2 [some (.ref 0), some (.int (nI u))] [] τ' Q := by
    intro d
    induction d with
    | zero =>
      intro u τ' hu hO hr
      refine rt_run 2 rfl ?_
      refine rt_ge u 10 rfl (by omega) (by omega) (fun _ => ?_) (fun _ => by omega)
      refine rt_vret rfl rfl (h τ' hO ((hC.offW hO.w (hC.2.2.2.2.1.eq hO.2) (by decide)).all (hS.off hO (by decide)) (fun v hv => hr v (by omega))))
    | succ d ih =>
      intro u τ' hu hO hr
      have hC' := hC.offW hO.w (hC.2.2.2.2.1.eq hO.2) (by decide)
      have hS' := hS.off hO (by decide)
      obtain ⟨w1, w2, -, -⟩ := hC'.2.2.2.2.2.1
      have fin : ∀ τ2 x, Off [31, 32, 33, 50] τ τ2 → gI τ2 50 = gI τ' 50 → x = rowI (aG a) (aX a) (aW a) u → RT mX10_keepAnswers none 55 [some (.ref 0), some (.int (nI u))] [.int x, .int (nI u), .ref 50] τ2 Q := by
        intro τ2 x hO2 e50 hx
        refine rt_st u rfl (n := 10) rfl (by omega) ?_
        refine rt_run 2 rfl ?_
        rw [← nI_succ]
        refine ih (u + 1) _ (by omega) (hO2.sI (by simp) _ _) (fun v hv => ?_)
        rw [gI_sI, if_pos rfl]
        by_cases hvu : v = u
        · subst hvu; rw [pk_us]; exact hx
        · rw [pk_un hvu, e50]; exact hr v (by omega)
      refine rt_run 2 rfl ?_
      refine rt_ge u 10 rfl (by omega) (by omega) (fun _ => by omega) (fun _ => ?_)
      refine rt_run 8 rfl ?_
      cases hW : aW a with
      | none =>
        refine rt_ic_ne rfl (fun hc => absurd (by rw [w1, hW]; rfl) hc) (fun _ => ?_)
        refine rt_run 2 rfl ?_
        exact fin τ' 0 hO rfl (by rw [hW]; rfl)
      | some x =>
        obtain ⟨hx, hsome⟩ := w2 x hW
        have ew : gF τ' 49 1 = nI x := by rw [w1, hW]; rfl
        refine rt_ic_ne rfl (fun _ => ?_) (fun hc => absurd (ew.symm.trans hc) (neg1 (by omega)))
        refine rt_run 7 rfl ?_
        rw [ew]
        refine rt_aald rfl hx ?_
        refine rt_run 3 rfl ?_
        have hXx := hC'.2.2.2.1 x hx
        cases hA : aX a x with
        | none => rw [hA] at hsome; cases hsome
        | some A =>
          rw [hA] at hXx
          refine rt_cV (ci := 3) mX3_endsFrom kX10_keepAnswers_52 okX3_endsFrom rfl rfl rfl rfl rfl ?_
          refine endsFrom_spec (isE_x hx) (Or.inl rfl) hXx.2 hS' (hC'.1.ok _) (by omega) (fun τ2 hO2 => ?_)
          refine fin τ2 _ (hO.tr (hO2.up (by simp))) (hO2.1 50 (by decide)).1 ?_
          rw [hW]
          simp only [rowI, hA]
  refine rt_run 2 rfl ?_
  exact loop 10 0 τ (by omega) (Off.rf _ _) (fun v hv => by omega)
theorem graphChanged_spec (hC : CI1 τ a) (h : ∀ τ', Off [5, 6, 7, 8, 9, 31, 32, 33, 50] τ τ' → CIs τ' a → Q none τ') : RT mX10_graphChanged none 0 [some (.ref 0)] [] τ Q := by
  refine rt_run 5 rfl ?_
  refine rt_cV (ci := 1) mX1_spell kX10_graphChanged_9 okX1_spell rfl rfl rfl rfl rfl ?_
  refine spell_spec (w := none) (Or.inl rfl) hC.1 (fun e' h' => by cases h') (fun τ1 hO1 hS1 => ?_)
  refine rt_run 1 rfl ?_
  refine rt_cV (ci := 10) mX10_keepAnswers kX10_graphChanged_13 okX10_keepAnswers rfl rfl rfl rfl rfl ?_
  refine keepAnswers_spec (a := a) (hC.offW hO1.w (hC.2.2.2.2.1.eq hO1.2) (by decide)) hS1 (fun τ2 hO2 hC2 => ?_)
  exact rt_vret rfl rfl (h τ2 ((hO1.up (by simp)).tr (hO2.up (by simp))) hC2)
end ClShared

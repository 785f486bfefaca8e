/-! the reference's refuses, stays, edge, drop, anew, of, degree, type, clear -/
theorem MI1.of {ks fs : List Nat} {τ τ' : Ty} {a : AS} (h : MI1 τ a) (ho : OfM ks fs τ τ') (hk : 64 ∉ ks ∧ 65 ∉ ks ∧ 66 ∉ ks ∧ 67 ∉ ks ∧ 68 ∉ ks ∧ 69 ∉ ks ∧ 70 ∉ ks) (hf : 1 ∉ fs ∧ 4 ∉ fs ∧ 9 ∉ fs ∧ 11 ∉ fs ∧ 12 ∉ fs ∧ 32 ∉ fs) : MI1 τ' a := by
  obtain ⟨h1, h2, h3, h4, h5, h6⟩ := h
  refine ⟨h1.of ho ⟨hk.1, hf.1⟩, ?_, h3.of ho ⟨hk.2.2.2.1, hk.2.2.2.2⟩, ?_, ?_, ?_⟩
  · unfold MTx at *
    rw [ho.2.2.1 4 hf.2.1, (ho.1 66 hk.2.2.1).1]
    exact h2
  · unfold MS0 at *
    rw [ho.2.2.1 9 hf.2.2.1, ho.2.2.1 11 hf.2.2.2.1, ho.2.2.1 12 hf.2.2.2.2.1]
    exact h4
  · unfold MCt at *
    rw [(ho.1 65 hk.2.1).1]
    exact h5
  · rw [ho.2.2.1 32 hf.2.2.2.2.2]
    exact h6
theorem MIs.of {ks fs : List Nat} {τ τ' : Ty} {a : AS} (h : MIs τ a) (ho : OfM ks fs τ τ') (hk : 64 ∉ ks ∧ 65 ∉ ks ∧ 66 ∉ ks ∧ 67 ∉ ks ∧ 68 ∉ ks ∧ 69 ∉ ks ∧ 70 ∉ ks) (hf : 1 ∉ fs ∧ 4 ∉ fs ∧ 9 ∉ fs ∧ 11 ∉ fs ∧ 12 ∉ fs ∧ 32 ∉ fs) (h71 : 71 ∉ ks) : MIs τ' a :=
  ⟨h.1.of ho hk hf, fun u hu => by rw [(ho.1 71 h71).1]; exact h.2 u hu⟩
theorem MIs.sC {τ : Ty} {a : AS} (h : MIs τ a) (x : Int32) : MIs (sF τ 63 11 x) (sC a x) :=
  ⟨⟨h.1.1, h.1.2.1, h.1.2.2.1, ⟨h.1.2.2.2.1.1, h.1.2.2.2.1.2.1, rfl, h.1.2.2.2.1.2.2.2⟩, h.1.2.2.2.2.1, h.1.2.2.2.2.2⟩, h.2⟩
theorem MIs.sLo {τ : Ty} {a : AS} (h : MIs τ a) (x : Int32) : MIs (sF τ 63 12 x) (sLo a x) :=
  ⟨⟨h.1.1, h.1.2.1, h.1.2.2.1, ⟨h.1.2.2.2.1.1, h.1.2.2.2.1.2.1, h.1.2.2.2.1.2.2.1, rfl⟩, h.1.2.2.2.2.1, h.1.2.2.2.2.2⟩, h.2⟩
theorem MI1.setG {τ τ' : Ty} {a : AS} {G : Gr} (h : MI1 τ a) (ho : OfM [64] [1] τ τ') (hG : MEd τ' G) : MI1 τ' (sG a G) := by
  obtain ⟨h1, h2, h3, h4, h5, h6⟩ := h
  refine ⟨hG, ?_, h3.of ho (by decide), ?_, ?_, ?_⟩
  · unfold MTx at *
    rw [ho.2.2.1 4 (by decide), (ho.1 66 (by decide)).1]
    exact h2
  · unfold MS0 at *
    rw [ho.2.2.1 9 (by decide), ho.2.2.1 11 (by decide), ho.2.2.1 12 (by decide)]
    exact h4
  · unfold MCt at *
    rw [(ho.1 65 (by decide)).1]
    exact h5
  · rw [ho.2.2.1 32 (by decide)]
    exact h6
/-- the pairs that are new, or lost, as the reference counts them -/
noncomputable def styI (b : Bool) (K : Nat → Int32) (a : AS) : Int32 := smI (fun u => onI (if b = true then K u &&& (rowI (aG a) (aX a) (aW a) u ^^^ -1) else rowI (aG a) (aX a) (aW a) u &&& (K u ^^^ -1))) 10
theorem smI_zero {f : Nat → Int32} {n : Nat} (h : ∀ i, i < n → f i = 0) : smI f n = 0 := by
  induction n with
  | zero => rfl
  | succ n ih =>
    show smI f n + f n = 0
    rw [ih (fun i hi => h i (by omega)), h n (by omega)]
    rfl
theorem onI_0 : onI 0 = 0 := by rw [on_cb]; rfl
theorem Rch_mono {L L' : SL} {A : AE} {u : Nat} (h : ∀ st ∈ L, ∃ st' ∈ L', st'.1 = st.1 ∧ st'.2.1 = st.2.1 ∧ st'.2.2.1 = st.2.2.1) (m w q : Nat) (hr : Rch L A u m w q) : Rch L' A u m w q := by
  induction m generalizing w q with
  | zero => exact hr
  | succ m ih =>
    obtain ⟨st, hs, h1, ⟨p, h2, h3⟩, h4⟩ := hr
    obtain ⟨st', hs', e1, e2, e3⟩ := h st hs
    exact ⟨st', hs', by rw [e3]; exact h1, ⟨p, by rw [e1]; exact ih _ _ h2, h3⟩, by rw [e2]; exact h4⟩
theorem ansB_mono {L L' : SL} {A : AE} {u v : Nat} (h : ∀ st ∈ L, ∃ st' ∈ L', st'.1 = st.1 ∧ st'.2.1 = st.2.1 ∧ st'.2.2.1 = st.2.2.1) (ha : ansB L A u v = true) : ansB L' A u v = true := by
  obtain ⟨m, q, h1, h2⟩ := ansB_iff.mp ha
  exact ansB_iff.mpr ⟨m, q, Rch_mono h m v q h1, h2⟩
theorem stL_app {G : Gr} (x : Nat × Nat × Nat) : ∀ st ∈ stL G none, ∃ st' ∈ stL (G ++ [x]) none, st'.1 = st.1 ∧ st'.2.1 = st.2.1 ∧ st'.2.2.1 = st.2.2.1 := by
  intro st hst
  obtain ⟨i, q, h1, h2, h3⟩ := mem_stL.mp hst
  refine ⟨st, mem_stL.mpr ⟨i, q, ?_, h2, h3⟩, rfl, rfl, rfl⟩
  rw [List.getElem?_append_left (List.getElem?_eq_some_iff.mp h1).1]
  exact h1
theorem stL_era {G : Gr} (e : Nat) : ∀ st ∈ stL (G.eraseIdx e) none, ∃ st' ∈ stL G none, st'.1 = st.1 ∧ st'.2.1 = st.2.1 ∧ st'.2.2.1 = st.2.2.1 := by
  intro st hst
  obtain ⟨i, q, h1, -, h3⟩ := mem_stL.mp hst
  obtain ⟨j, hj⟩ := List.getElem?_of_mem (List.mem_of_mem_eraseIdx (List.mem_of_getElem? h1))
  rcases h3 with rfl | rfl
  · exact ⟨_, mem_stL.mpr ⟨j, q, hj, by simp, Or.inl rfl⟩, rfl, rfl, rfl⟩
  · exact ⟨_, mem_stL.mpr ⟨j, q, hj, by simp, Or.inr rfl⟩, rfl, rfl, rfl⟩
theorem on_diff (P P' : Nat → Bool) : onI (vb P' 10 &&& (vb P 10 ^^^ -1)) = nI (cP (fun i => P' i && !P i) 10) := by
  rw [on_cb]
  congr 1
  show cP _ (10 + 15) = _
  rw [cP_more 15 (fun i hi => ?_)]
  · refine cP_ext (fun i hi => ?_)
    rw [b_and, b_not (by omega), vb_bt P 10 (by omega) (by omega), vb_bt P' 10 (by omega) (by omega)]
    simp [hi]
  · by_cases h32 : i < 32
    · rw [b_and, vb_bt P' 10 (by omega) h32]
      have : ¬ i < 10 := by omega
      simp [this]
    · exact b_big (by omega)
theorem sN_add (f g : Nat → Nat) (n : Nat) : sN (fun i => f i + g i) n = sN f n + sN g n := by
  induction n with
  | zero => rfl
  | succ n ih => show sN (fun i => f i + g i) n + (f n + g n) = (sN f n + f n) + (sN g n + g n); rw [ih]; omega
theorem gain {P P' : Nat → Nat → Bool} (h : ∀ u v, P u v = true → P' u v = true) : smI (fun u => bcI (vb (P' u) 10)) 10 - smI (fun u => bcI (vb (P u) 10)) 10 = smI (fun u => onI (vb (P' u) 10 &&& (vb (P u) 10 ^^^ -1))) 10 := by
  have e1 : ∀ P : Nat → Nat → Bool, smI (fun u => bcI (vb (P u) 10)) 10 = nI (sN (fun u => cP (P u) 10) 10) := by
    intro P
    rw [← smI_nI]
    exact smI_ext (fun u _ => bc_vb (P u) 10 (by decide))
  have e2 : smI (fun u => onI (vb (P' u) 10 &&& (vb (P u) 10 ^^^ -1))) 10 = nI (sN (fun u => cP (fun i => P' u i && !P u i) 10) 10) := by
    rw [← smI_nI]
    exact smI_ext (fun u _ => on_diff (P u) (P' u))
  have e3 : sN (fun u => cP (P' u) 10) 10 = sN (fun u => cP (P u) 10) 10 + sN (fun u => cP (fun i => P' u i && !P u i) 10) 10 := by
    rw [← sN_add]
    congr 1
    funext u
    exact cP_sub (fun i _ hi => h u i hi)
  rw [e1, e1, e2, e3, pk_sub (by omega)]
  congr 1
  omega
theorem row_gain {G G' : Gr} {X : Nat → Option AE} {w : Option Nat} (h : ∀ st ∈ stL G none, ∃ st' ∈ stL G' none, st'.1 = st.1 ∧ st'.2.1 = st.2.1 ∧ st'.2.2.1 = st.2.2.1) : smI (fun u => bcI (rowI G' X w u)) 10 - smI (fun u => bcI (rowI G X w u)) 10 = smI (fun u => onI (rowI G' X w u &&& (rowI G X w u ^^^ -1))) 10 := by
  unfold rowI
  cases w with
  | none =>
    show smI (fun _ => bcI 0) 10 - smI (fun _ => bcI 0) 10 = smI (fun _ => onI (0 &&& (0 ^^^ -1))) 10
    decide +kernel
  | some x =>
    dsimp only
    cases X x with
    | none =>
      show smI (fun _ => bcI 0) 10 - smI (fun _ => bcI 0) 10 = smI (fun _ => onI (0 &&& (0 ^^^ -1))) 10
      decide +kernel
    | some A => exact gain (P := fun u => ansB (stL G none) A u) (P' := fun u => ansB (stL G' none) A u) (fun u v hh => ansB_mono h hh)
section MdPub
variable {τ : Ty} {Q : Option Value → Ty → Prop} {a : AS}
theorem refuses_spec {r : Int32} (hM : MIs τ a) (hr : r = -2 ∨ r = -3 ∨ r = -4) (h : ∀ τ', OffD τ τ' → MIs τ' (refA r a) → Q (some (.int r)) τ') : RT mX11_refuses none 0 [some (.ref 63), some (.int r)] [] τ Q := by
  obtain ⟨⟨h1, h2, h3, h4, h5, h6⟩, h7⟩ := hM
  obtain ⟨c1, c2, c3⟩ := h5
  have go : ∀ i, i < 3 → -2 - r = nI i → upd (gI τ 65) i (gI τ 65 i + 1) 0 = (if r = -2 then aB a + 1 else aB a) → upd (gI τ 65) i (gI τ 65 i + 1) 1 = (if r = -3 then aN a + 1 else aN a) → upd (gI τ 65) i (gI τ 65 i + 1) 2 = (if r = -4 then aF a + 1 else aF a) → RT mX11_refuses none 0 [some (.ref 63), some (.int r)] [] τ Q := by
    intro i hi hri e0 e1 e2
    refine refuses_gen hi hri (h _ (((OfM.rf [65] [] τ).sI (by simp) _ _).d (by decide)) ⟨⟨h1, h2, h3, h4, ⟨e0, e1, e2⟩, h6⟩, h7⟩)
  rcases hr with rfl | rfl | rfl
  · exact go 0 (by decide) rfl (by rw [pk_us, c1]; rfl) (by rw [pk_un (by decide), c2]; rfl) (by rw [pk_un (by decide), c3]; rfl)
  · exact go 1 (by decide) rfl (by rw [pk_un (by decide), c1]; rfl) (by rw [pk_us, c2]; rfl) (by rw [pk_un (by decide), c3]; rfl)
  · exact go 2 (by decide) rfl (by rw [pk_un (by decide), c1]; rfl) (by rw [pk_un (by decide), c2]; rfl) (by rw [pk_us, c3]; rfl)
theorem stays_spec {b : Bool} {K : Nat → Int32} (hM : MI1 τ a) (hK : ∀ u, u < 10 → gI τ 71 u = K u) (hK0 : aW a = none → ∀ u, u < 10 → K u = 0) (h : ∀ τ', OfM [71, 78, 79, 80] [] τ τ' → MIs τ' a → Q (some (.int (styI b K a))) τ') : RT mX11_stays none 0 [some (.ref 63), some (.int (b01 b)), none, none, none] [] τ Q := by
  cases hW : aW a with
  | none =>
    have hs : gF τ 63 9 = -1 := by rw [hM.2.2.2.1.1, hW]; rfl
    refine rt_run 4 rfl ?_
    refine rt_run 2 rfl ?_
    refine rt_ge 0 10 rfl (by omega) (by omega) (fun _ => by omega) (fun _ => ?_)
    refine rt_run 2 rfl ?_
    refine rt_if_lt rfl (fun _ => ?_) (fun hc => absurd (show gF τ 63 9 < 0 by rw [hs]; decide) hc)
    refine rt_run 1 rfl ?_
    have hz : styI b K a = 0 := by
      refine smI_zero (fun u hu => ?_)
      have hr : rowI (aG a) (aX a) (aW a) u = 0 := by rw [hW]; rfl
      rw [hr, hK0 hW u hu]
      cases b <;> exact onI_0
    have hq := h τ (OfM.rf _ _ _) ⟨hM, fun u hu => by rw [hK u hu, hK0 hW u hu, hW]; rfl⟩
    rw [hz] at hq
    exact rt_iret rfl rfl hq
  | some x =>
    obtain ⟨hx, hsome⟩ := hM.2.2.2.1.2.1 x hW
    cases hX : aX a x with
    | none => rw [hX] at hsome; cases hsome
    | some A =>
    have hs : gF τ 63 9 = nI x := by rw [hM.2.2.2.1.1, hW]; rfl
    have er : ∀ u, rowI (aG a) (aX a) (aW a) u = vb (ansB (stL (aG a) none) A u) 10 := by
      intro u
      rw [hW]
      unfold rowI
      dsimp only
      rw [hX]
    have loop : ∀ d u τ' l4, u + d = 10 → OfM [71, 78, 79, 80] [] τ τ' → (∀ j, j < u → gI τ' 71 j = rowI (aG a) (aX a) (aW a) j) → (∀ j, u ≤ j → j < 10 → gI τ' 71 j = K j) →
        RT mX11_stays none 4 [some (.ref 63), some (.int (b01 b)), some (.int (smI (fun u => onI (if b = true then K u &&& (rowI (aG a) (aX a) (aW a) u ^^^ -1) else rowI (aG a) (aX a) (aW a) u &&& (K u ^^^ -1))) u)), some (.int (nI u)), l4] [] τ' Q := by
      intro d
      induction d with
      | zero =>
        intro u τ' l4 hu hO h1 h2
        have : u = 10 := by omega
        subst this
        refine rt_run 2 rfl ?_
        refine rt_ge 10 10 rfl (by omega) (by omega) (fun _ => ?_) (fun _ => by omega)
        refine rt_run 1 rfl ?_
        exact rt_iret rfl rfl (h τ' hO ⟨hM.of hO (by decide) (by decide), fun j hj => h1 j hj⟩)
      | succ d ih =>
        intro u τ' l4 hu hO h1 h2
        have hM' := hM.of hO (by decide) (by decide)
        have hs' : gF τ' 63 9 = nI x := by rw [hO.2.2.1 9 (by decide)]; exact hs
        have hE' : MEx τ' x A := by
          have := hM'.2.2.1 x hx
          rw [hX] at this
          exact this.2
        refine rt_run 2 rfl ?_
        refine rt_ge u 10 rfl (by omega) (by omega) (fun _ => by omega) (fun hu10 => ?_)
        refine rt_run 2 rfl ?_
        rw [hs']
        refine rt_if_lt rfl (fun hc => absurd hc (nI_pos (by omega))) (fun _ => ?_)
        refine rt_run 4 rfl ?_
        rw [hs']
        refine rt_cV (ci := 11) mX11_endsOf kX11_stays_23 okX11_endsOf rfl rfl rfl rfl rfl ?_
        refine endsOf_spec hx hu10 hM'.1 (w := none) hM'.2.2.2.2.2 (fun e he => by cases he) hE' (fun τ1 hO1 => ?_)
        have hO1' : OfM [71, 78, 79, 80] [] τ' τ1 := hO1.up (by decide) (by decide)
        have hk : gI τ1 71 u = K u := by rw [(hO1.1 71 (by decide)).1]; exact h2 u (Nat.le_refl _) hu10
        rw [← er u]
        have tail : ∀ z : Int32, z = (if b = true then K u &&& (rowI (aG a) (aX a) (aW a) u ^^^ -1) else rowI (aG a) (aX a) (aW a) u &&& (K u ^^^ -1)) → RT mX11_stays none 58 [some (.ref 63), some (.int (b01 b)), some (.int (smI (fun u => onI (if b = true then K u &&& (rowI (aG a) (aX a) (aW a) u ^^^ -1) else rowI (aG a) (aX a) (aW a) u &&& (K u ^^^ -1))) u)), some (.int (nI u)), some (.int (rowI (aG a) (aX a) (aW a) u))] [.int z, .int (smI (fun u => onI (if b = true then K u &&& (rowI (aG a) (aX a) (aW a) u ^^^ -1) else rowI (aG a) (aX a) (aW a) u &&& (K u ^^^ -1))) u)] τ1 Q := by
          intro z hz
          refine rt_cS mX11_ones kX11_stays_58 okX11_ones rfl rfl ?_
          refine ones_spec ?_
          refine rt_run 6 rfl ?_
          refine rt_st u rfl (n := 10) rfl hu10 ?_
          refine rt_run 2 rfl ?_
          have := ih (u + 1) (sI τ1 71 u (rowI (aG a) (aX a) (aW a) u)) (some (.int (rowI (aG a) (aX a) (aW a) u))) (by omega) ((hO.tr hO1').sI (by simp) _ _) (fun j hj => ?_) (fun j hj hj10 => ?_)
          · rw [nI_succ] at this
            rw [hz]
            exact this
          · rw [gI_sI, if_pos rfl]
            by_cases hju : j = u
            · subst hju; exact pk_us
            · rw [pk_un hju, (hO1.1 71 (by decide)).1]
              exact h1 j (by omega)
          · rw [gI_sI, if_pos rfl, pk_un (by omega), (hO1.1 71 (by decide)).1]
            exact h2 j (by omega) hj10
        refine rt_run 3 rfl ?_
        cases b with
        | true =>
          refine rt_if_eq rfl (fun hc => absurd hc (by decide)) (fun _ => ?_)
          refine rt_run 3 rfl ?_
          refine rt_ld u rfl (n := 10) rfl hu10 ?_
          rw [hk]
          refine rt_run 5 rfl ?_
          exact tail _ rfl
        | false =>
          refine rt_if_eq rfl (fun _ => ?_) (fun hc => absurd rfl hc)
          refine rt_run 4 rfl ?_
          refine rt_ld u rfl (n := 10) rfl hu10 ?_
          rw [hk]
          refine rt_run 3 rfl ?_
          exact tail _ rfl
    refine rt_run 4 rfl ?_
    exact loop 10 0 τ none rfl (OfM.rf _ _ _) (fun j hj => by omega) (fun j _ hj => hK j hj)
theorem mrow0 (hM : MIs τ a) (hW : aW a = none) : ∀ u, u < 10 → rowI (aG a) (aX a) (aW a) u = 0 := fun u _ => by rw [hW]; rfl
theorem mEdge_spec {u l v : Int32} (hM : MIs τ a) (h : ∀ τ', OffD τ τ' → MIs τ' (edgeA a u l v).2 → Q (some (.int (edgeA a u l v).1)) τ') : RT mX11_edge none 0 [some (.ref 63), some (.int u), some (.int l), some (.int v), none] [] τ Q := by
  have no : edgeA a u l v = rfA (-2) a → RT mX11_edge none 23 [some (.ref 63), some (.int u), some (.int l), some (.int v), none] [] τ Q := by
    intro e
    rw [e] at h
    refine rt_run 2 rfl ?_
    refine rt_cV (ci := 11) mX11_refuses kX11_edge_26 okX11_refuses rfl rfl rfl rfl rfl ?_
    exact refuses_spec hM (Or.inl rfl) (fun τ' hO hC' => rt_iret rfl rfl (h τ' hO hC'))
  refine rt_run 1 rfl ?_
  refine rt_cS mX11_isVertex kX11_edge_1 okX11_isVertex rfl rfl ?_
  refine mVertex_spec (fun hh => ?_) (fun u' hu eu => ?_)
  · refine rt_if_eq rfl (fun _ => no (by unfold edgeA; rw [hh])) (fun hc => absurd rfl hc)
  subst eu
  refine rt_if_eq rfl (fun hc => absurd hc (by decide)) (fun _ => ?_)
  refine rt_run 3 rfl ?_
  refine rt_cS mX11_in kX11_edge_10 okX11_in rfl rfl ?_
  refine in_spec 4 (by decide) rfl (fun hh => ?_) (fun l' hl el => ?_)
  · refine rt_if_eq rfl (fun _ => no (by unfold edgeA; rw [rn_so hu (by decide)]; dsimp only; rw [hh])) (fun hc => absurd rfl hc)
  subst el
  refine rt_if_eq rfl (fun hc => absurd hc (by decide)) (fun _ => ?_)
  refine rt_run 1 rfl ?_
  refine rt_cS mX11_isVertex kX11_edge_17 okX11_isVertex rfl rfl ?_
  refine mVertex_spec (fun hh => ?_) (fun v' hv ev => ?_)
  · refine rt_if_ne rfl (fun hc => absurd rfl hc) (fun _ => no (by unfold edgeA; rw [rn_so hu (by decide)]; dsimp only; rw [rn_so hl (by decide)]; dsimp only; rw [hh]))
  subst ev
  refine rt_if_ne rfl (fun _ => ?_) (fun hc => absurd hc (by decide))
  have eA : edgeA a (nI u') (nI l') (nI v') = if (u', l', v') ∈ aG a then rfA (-3) a else if 30 ≤ (aG a).length then rfA (-4) a else
        (szI (sG a (aG a ++ [(u', l', v')])) - szI a, sC (sG a (aG a ++ [(u', l', v')])) (aC a + (szI (sG a (aG a ++ [(u', l', v')])) - szI a))) := by
    unfold edgeA; rw [rn_so hu (by decide)]; dsimp only; rw [rn_so hl (by decide)]; dsimp only; rw [rn_so hv (by decide)]
  rw [eA] at h
  have hl30 := hM.1.1.2.2.1
  refine rt_run 4 rfl ?_
  refine rt_cV (ci := 11) mX11_isThere kX11_edge_34 okX11_isThere rfl rfl rfl rfl rfl ?_
  refine isThere_spec hM.1.1 hu hl hv ?_
  by_cases hin : (u', l', v') ∈ aG a
  · rw [decide_eq_true hin]
    rw [if_pos hin] at h
    refine rt_if_eq rfl (fun hc => absurd hc (by decide)) (fun _ => ?_)
    refine rt_run 2 rfl ?_
    refine rt_cV (ci := 11) mX11_refuses kX11_edge_43 okX11_refuses rfl rfl rfl rfl rfl ?_
    exact refuses_spec hM (Or.inr (Or.inl rfl)) (fun τ' hO hC' => rt_iret rfl rfl (h τ' hO hC'))
  · rw [decide_eq_false hin]
    rw [if_neg hin] at h
    refine rt_if_eq rfl (fun _ => ?_) (fun hc => absurd rfl hc)
    refine rt_run 3 rfl ?_
    refine rt_ne (aG a).length 30 rfl (by omega) (by omega) (fun hne => ?_) (fun heq => ?_) hM.1.1.1
    · rw [if_neg (by omega)] at h
      refine rt_run 4 rfl ?_
      refine rt_cV (ci := 11) mX11_adds kX11_edge_67 okX11_adds rfl rfl rfl rfl rfl ?_
      refine adds_spec hM.1.1 hu hl hv (by omega) (fun τ1 hO1 hG1 => ?_)
      have hM1 : MI1 τ1 (sG a (aG a ++ [(u', l', v')])) := hM.1.setG hO1 hG1
      refine rt_run 2 rfl ?_
      refine rt_cV (ci := 11) mX11_stays kX11_edge_72 okX11_stays rfl rfl rfl rfl rfl ?_
      refine stays_spec (b := false) (K := fun u => rowI (aG a) (aX a) (aW a) u) hM1 (fun u hu => by rw [(hO1.1 71 (by decide)).1]; exact hM.2 u hu) (fun hW u hu => mrow0 hM hW u hu) (fun τ2 hO2 hM2 => ?_)
      have es : styI false (fun u => rowI (aG a) (aX a) (aW a) u) (sG a (aG a ++ [(u', l', v')])) = szI (sG a (aG a ++ [(u', l', v')])) - szI a := (row_gain (stL_app (u', l', v'))).symm
      rw [es]
      refine rt_run 8 rfl ?_
      refine rt_iret rfl rfl (h _ (((hO1.d (by decide)).tr (hO2.d (by decide))).tr (((OfM.rf [] [11] _).sF (by simp) _).d (by decide))) ?_)
      rw [show gF τ2 63 11 = aC a from hM2.1.2.2.2.1.2.2.1]
      exact hM2.sC _
    · rw [if_pos (by omega)] at h
      refine rt_run 2 rfl ?_
      refine rt_cV (ci := 11) mX11_refuses kX11_edge_59 okX11_refuses rfl rfl rfl rfl rfl ?_
      exact refuses_spec hM (Or.inr (Or.inr rfl)) (fun τ' hO hC' => rt_iret rfl rfl (h τ' hO hC'))
theorem MEd.era {τ : Ty} {G : Gr} {e : Nat} {g : Nat → Int32} (hG : MEd τ G) (he : e < G.length) (hg : ∀ j, g j = if 3 * e ≤ j ∧ j < 3 * (G.length - 1) then gI τ 64 (j + 3) else gI τ 64 j) : MEd (sA (sF τ 63 1 (nI (G.length - 1))) 64 g) (G.eraseIdx e) := by
  have hl : (G.eraseIdx e).length = G.length - 1 := List.length_eraseIdx_of_lt he
  refine ⟨by rw [hl]; rfl, fun i q hq => ?_, by have := hG.2.2.1; omega, fun q hq => hG.2.2.2 q (List.mem_of_mem_eraseIdx hq)⟩
  have hi := (List.getElem?_eq_some_iff.mp hq).1
  rw [gI_sA, if_pos rfl, hg, hg, hg]
  rw [List.getElem?_eraseIdx] at hq
  by_cases hie : i < e
  · rw [if_pos hie] at hq
    rw [if_neg (by omega), if_neg (by omega), if_neg (by omega)]
    exact hG.2.1 i q hq
  · rw [if_neg hie] at hq
    rw [if_pos (by omega), if_pos (by omega), if_pos (by omega)]
    have := hG.2.1 (i + 1) q hq
    exact this
theorem mDrop_spec {e : Int32} (hM : MIs τ a) (h : ∀ τ', OffD τ τ' → MIs τ' (dropA a e).2 → Q (some (.int (dropA a e).1)) τ') : RT mX11_drop none 0 [some (.ref 63), some (.int e), none] [] τ Q := by
  have hl30 := hM.1.1.2.2.1
  refine rt_run 6 rfl ?_
  rw [hM.1.1.1]
  refine rt_cS mX11_in kX11_drop_8 okX11_in rfl rfl ?_
  refine in_spec (aG a).length (by omega) rfl (fun hh => ?_) (fun e' he ee => ?_)
  · refine rt_if_ne rfl (fun hc => absurd rfl hc) (fun _ => ?_)
    refine rt_run 2 rfl ?_
    refine rt_cV (ci := 11) mX11_refuses kX11_drop_17 okX11_refuses rfl rfl rfl rfl rfl ?_
    unfold dropA at h
    rw [hh] at h
    exact refuses_spec hM (Or.inl rfl) (fun τ' hO hC' => rt_iret rfl rfl (h τ' hO hC'))
  subst ee
  refine rt_if_ne rfl (fun _ => ?_) (fun hc => absurd hc (by decide))
  unfold dropA at h
  rw [rn_so he (by omega)] at h
  dsimp only at h
  refine rt_run 10 rfl ?_
  have em : gF τ 63 1 - 1 = nI ((aG a).length - 1) := by
    rw [hM.1.1.1, show (aG a).length = ((aG a).length - 1) + 1 by omega, nI_pred, Nat.add_sub_cancel]
  rw [em]
  have loop : ∀ d k (g : Nat → Int32), k + d = 3 * ((aG a).length - 1) → 3 * e' ≤ k → (∀ j, g j = if 3 * e' ≤ j ∧ j < k then gI τ 64 (j + 3) else gI τ 64 j) →
      RT mX11_drop none 35 [some (.ref 63), some (.int (nI e')), some (.int (nI k))] [] (sA (sF τ 63 1 (nI ((aG a).length - 1))) 64 g) Q := by
    intro d
    induction d with
    | zero =>
      intro k g hk hek hg
      have ek : k = 3 * ((aG a).length - 1) := by omega
      subst ek
      refine rt_run 5 rfl ?_
      refine rt_ge (3 * ((aG a).length - 1)) (3 * ((aG a).length - 1)) rfl (by omega) (by omega) (fun _ => ?_) (fun _ => by omega) rfl (by rw [← pk_mul]; rfl)
      refine rt_run 2 rfl ?_
      have hO1 : OfM [64] [1] τ (sA (sF τ 63 1 (nI ((aG a).length - 1))) 64 g) := by
        have := ((OfM.rf [64] [1] τ).sF (j := 1) (by simp) (nI ((aG a).length - 1)))
        refine ⟨fun k' hk' => ?_, this.2⟩
        rw [gI_sA, if_neg (show ¬ k' = 64 from fun e => hk' (by rw [e]; simp))]
        exact this.1 k' hk'
      have hM1 := hM.1.setG hO1 (hM.1.1.era he hg)
      refine rt_cV (ci := 11) mX11_stays kX11_drop_67 okX11_stays rfl rfl rfl rfl rfl ?_
      refine stays_spec (b := true) (K := fun u => rowI (aG a) (aX a) (aW a) u) hM1 (fun u hu => hM.2 u hu) (fun hW u hu => mrow0 hM hW u hu) (fun τ2 hO2 hM2 => ?_)
      have es : styI true (fun u => rowI (aG a) (aX a) (aW a) u) (sG a ((aG a).eraseIdx e')) = szI a - szI (sG a ((aG a).eraseIdx e')) := (row_gain (stL_era e')).symm
      rw [es]
      refine rt_run 8 rfl ?_
      refine rt_iret rfl rfl (h _ (((hO1.d (by decide)).tr (hO2.d (by decide))).tr (((OfM.rf [] [12] _).sF (by simp) _).d (by decide))) ?_)
      rw [show gF τ2 63 12 = aLo a from hM2.1.2.2.2.1.2.2.2]
      exact hM2.sLo _
    | succ d ih =>
      intro k g hk hek hg
      refine rt_run 5 rfl ?_
      refine rt_ge k (3 * ((aG a).length - 1)) rfl (by omega) (by omega) (fun _ => by omega) (fun _ => ?_) rfl (by rw [← pk_mul]; rfl)
      refine rt_run 8 rfl ?_
      refine rt_ld (k + 3) rfl (n := 90) rfl (by omega) ?_
      refine rt_st k rfl (n := 90) rfl (by omega) ?_
      rw [sI_sA, gI_sA, if_pos rfl]
      refine rt_run 2 rfl ?_
      have := ih (k + 1) (upd g k (g (k + 3))) (by omega) (by omega) (fun j => ?_)
      · rw [nI_succ] at this
        exact this
      · by_cases hjk : j = k
        · subst hjk
          rw [pk_us, if_pos (by omega), hg, if_neg (by omega)]
        · rw [pk_un hjk, hg]
          have : (3 * e' ≤ j ∧ j < k) ↔ (3 * e' ≤ j ∧ j < k + 1) := by omega
          simp only [this]
  have := loop (3 * ((aG a).length - 1) - 3 * e') (3 * e') (gI τ 64) (by omega) (Nat.le_refl _) (fun j => by rw [if_neg (by omega)])
  rw [show gI τ 64 = gI (sF τ 63 1 (nI ((aG a).length - 1))) 64 from rfl, sA_self] at this
  rw [show (3 : Int32) * nI e' = nI (3 * e') by rw [← pk_mul]; rfl]
  exact this
theorem mAnew_spec (hM : MIs τ a) (h : ∀ τ', OffD τ τ' → MIs τ' (anewA a).2 → Q (some (.int (anewA a).1)) τ') : RT mX11_anew none 0 [some (.ref 63), none] [] τ Q := by
  refine rt_run 8 rfl ?_
  have hO1 : OfM [64] [1] τ (sF τ 63 1 0) := (OfM.rf _ _ _).sF (by simp) _
  have hM1 := hM.1.setG (G := []) hO1 ⟨rfl, fun i q hq => by simp at hq, by simp, fun q hq => by simp at hq⟩
  refine rt_cV (ci := 11) mX11_stays kX11_anew_12 okX11_stays rfl rfl rfl rfl rfl ?_
  refine stays_spec (b := true) (K := fun u => rowI (aG a) (aX a) (aW a) u) hM1 (fun u hu => hM.2 u hu) (fun hW u hu => mrow0 hM hW u hu) (fun τ2 hO2 hM2 => ?_)
  refine rt_run 2 rfl ?_
  rw [hM.1.1.1]
  exact rt_iret rfl rfl (h τ2 ((hO1.d (by decide)).tr (hO2.d (by decide))) hM2)
theorem mOf_spec {e w : Int32} (hM : MIs τ a) (h : ∀ τ', OffD τ τ' → MIs τ' (ofA a e w).2 → Q (some (.int (ofA a e w).1)) τ') : RT mX11_of none 0 [some (.ref 63), some (.int e), some (.int w)] [] τ Q := by
  have hl30 := hM.1.1.2.2.1
  have no : ofA a e w = rfA (-2) a → RT mX11_of none 36 [some (.ref 63), some (.int e), some (.int w)] [] τ Q := by
    intro ee
    rw [ee] at h
    refine rt_run 2 rfl ?_
    refine rt_cV (ci := 11) mX11_refuses kX11_of_39 okX11_refuses rfl rfl rfl rfl rfl ?_
    exact refuses_spec hM (Or.inl rfl) (fun τ' hO hC' => rt_iret rfl rfl (h τ' hO hC'))
  refine rt_run 6 rfl ?_
  rw [hM.1.1.1]
  refine rt_cS mX11_in kX11_of_8 okX11_in rfl rfl ?_
  refine in_spec (aG a).length (by omega) rfl (fun hh => ?_) (fun e' he ee => ?_)
  · exact rt_if_eq rfl (fun _ => no (by unfold ofA; rw [hh])) (fun hc => absurd rfl hc)
  subst ee
  refine rt_if_eq rfl (fun hc => absurd hc (by decide)) (fun _ => ?_)
  refine rt_run 3 rfl ?_
  refine rt_cS mX11_in kX11_of_17 okX11_in rfl rfl ?_
  refine in_spec 3 (by decide) rfl (fun hh => ?_) (fun w' hw ew => ?_)
  · exact rt_if_eq rfl (fun _ => no (by unfold ofA; rw [rn_so he (by omega)]; dsimp only; rw [hh])) (fun hc => absurd rfl hc)
  subst ew
  refine rt_if_eq rfl (fun hc => absurd hc (by decide)) (fun _ => ?_)
  have eA : ofA a (nI e') (nI w') = (ofV (aG a) e' w', a) := by
    unfold ofA; rw [rn_so he (by omega)]; dsimp only; rw [rn_so hw (by decide)]
  rw [eA] at h
  have hq : (aG a)[e']? = some (aG a)[e'] := List.getElem?_eq_getElem he
  obtain ⟨g1, g2, g3⟩ := hM.1.1.2.1 e' _ hq
  refine rt_run 7 rfl ?_
  refine rt_ld (3 * e' + w') rfl (n := 90) rfl (by omega) ?_ (by rw [← nI_add, ← pk_mul]; rfl)
  refine rt_run 1 rfl ?_
  have hfin := h τ (OffD.rf _) hM
  unfold ofV at hfin
  rw [hq] at hfin
  dsimp only at hfin
  have ev : gI τ 64 (3 * e' + w') = (if w' = 0 then nI (aG a)[e'].1 else if w' = 1 then nI (aG a)[e'].2.1 else nI (aG a)[e'].2.2) := by
    rcases (show w' = 0 ∨ w' = 1 ∨ w' = 2 by omega) with rfl | rfl | rfl
    · exact g1
    · exact g2
    · exact g3
  rw [ev]
  exact rt_iret rfl rfl hfin
theorem mDegree_spec {v w : Int32} (hM : MIs τ a) (h : ∀ τ', OffD τ τ' → MIs τ' (degA a v w).2 → Q (some (.int (degA a v w).1)) τ') : RT mX11_degree none 0 [some (.ref 63), some (.int v), some (.int w), none, none] [] τ Q := by
  have hl30 := hM.1.1.2.2.1
  have no : degA a v w = rfA (-2) a → RT mX11_degree none 16 [some (.ref 63), some (.int v), some (.int w), none, none] [] τ Q := by
    intro ee
    rw [ee] at h
    refine rt_run 2 rfl ?_
    refine rt_cV (ci := 11) mX11_refuses kX11_degree_19 okX11_refuses rfl rfl rfl rfl rfl ?_
    exact refuses_spec hM (Or.inl rfl) (fun τ' hO hC' => rt_iret rfl rfl (h τ' hO hC'))
  refine rt_run 1 rfl ?_
  refine rt_cS mX11_isVertex kX11_degree_1 okX11_isVertex rfl rfl ?_
  refine mVertex_spec (fun hh => ?_) (fun v' hv ev => ?_)
  · exact rt_if_eq rfl (fun _ => no (by unfold degA; rw [hh])) (fun hc => absurd rfl hc)
  subst ev
  refine rt_if_eq rfl (fun hc => absurd hc (by decide)) (fun _ => ?_)
  refine rt_run 3 rfl ?_
  refine rt_cS mX11_in kX11_degree_10 okX11_in rfl rfl ?_
  refine in_spec 2 (by decide) rfl (fun hh => ?_) (fun w' hw ew => ?_)
  · exact rt_if_ne rfl (fun hc => absurd rfl hc) (fun _ => no (by unfold degA; rw [rn_so hv (by decide)]; dsimp only; rw [hh]))
  subst ew
  refine rt_if_ne rfl (fun _ => ?_) (fun hc => absurd hc (by decide))
  have eA : degA a (nI v') (nI w') = (nI (dgN (aG a) v' w'), a) := by
    unfold degA; rw [rn_so hv (by decide)]; dsimp only; rw [rn_so hw (by decide)]
  rw [eA] at h
  have loop : ∀ d e, e + d = (aG a).length → RT mX11_degree none 28 [some (.ref 63), some (.int (nI v')), some (.int (nI w')), some (.int (nI (dgN ((aG a).take e) v' w'))), some (.int (nI e))] [] τ Q := by
    intro d
    induction d with
    | zero =>
      intro e he
      refine rt_run 3 rfl ?_
      refine rt_ge e (aG a).length rfl (by omega) (by omega) (fun _ => ?_) (fun _ => by omega) rfl hM.1.1.1
      refine rt_run 1 rfl ?_
      rw [List.take_of_length_le (by omega)]
      exact rt_iret rfl rfl (h τ (OffD.rf _) hM)
    | succ d ih =>
      intro e he
      refine rt_run 3 rfl ?_
      refine rt_ge e (aG a).length rfl (by omega) (by omega) (fun _ => by omega) (fun hlt => ?_) rfl hM.1.1.1
      have hq : (aG a)[e]? = some (aG a)[e] := List.getElem?_eq_getElem hlt
      have hb := hM.1.1.2.2.2 _ (List.getElem_mem hlt)
      have hst : dgN ((aG a).take (e + 1)) v' w' = dgN ((aG a).take e) v' w' + (if (if w' = 0 then (aG a)[e].1 else (aG a)[e].2.2) = v' then 1 else 0) := by
        unfold dgN
        rw [List.take_add_one, hq, List.countP_append]
        simp [List.countP_cons]
      have hih := ih (e + 1) (by omega)
      have tail : ∀ y : Nat, y = (if w' = 0 then (aG a)[e].1 else (aG a)[e].2.2) → RT mX11_degree none 57 [some (.ref 63), some (.int (nI v')), some (.int (nI w')), some (.int (nI (dgN ((aG a).take e) v' w'))), some (.int (nI e))] [.int (nI y), .int (nI (dgN ((aG a).take e) v' w'))] τ Q := by
        intro y hy
        have hy10 : y < 10 := by rw [hy]; split <;> omega
        rw [← hy] at hst
        refine rt_run 1 rfl ?_
        refine rt_ne y v' rfl (by omega) (by omega) (fun hne => ?_) (fun heq => ?_)
        · rw [hst, if_neg hne, nI_succ] at hih
          refine rt_run 1 rfl ?_
          refine rt_run 4 rfl ?_
          rw [show nI (dgN ((aG a).take e) v' w') + 0 = nI (dgN ((aG a).take e) v' w') from Int32.add_zero _]
          exact hih
        · rw [hst, if_pos heq, nI_succ, nI_succ] at hih
          refine rt_run 2 rfl ?_
          refine rt_run 4 rfl ?_
          exact hih
      refine rt_run 2 rfl ?_
      refine rt_if_ne rfl (fun hw0 => ?_) (fun hw0 => ?_)
      · have hne : w' ≠ 0 := fun e => hw0 (by rw [e]; rfl)
        refine rt_run 2 rfl ?_
        refine rt_cV (ci := 11) mX11_toOf kX11_degree_54 okX11_toOf rfl rfl rfl rfl rfl ?_
        refine toOf_spec hM.1.1 hlt (fun q e3 => ?_)
        rw [hq] at e3
        cases e3
        exact tail _ (by rw [if_neg hne])
      · have heq : w' = 0 := by
          by_cases hz : w' = 0
          · exact hz
          · exact absurd hw0 (nI_ne0 (by omega) (by omega))
        refine rt_run 2 rfl ?_
        refine rt_cV (ci := 11) mX11_fromOf kX11_degree_45 okX11_fromOf rfl rfl rfl rfl rfl ?_
        refine fromOf_spec hM.1.1 hlt (fun q e3 => ?_)
        rw [hq] at e3
        cases e3
        refine rt_run 1 rfl ?_
        exact tail _ (by rw [if_pos heq])
  refine rt_run 4 rfl ?_
  exact loop (aG a).length 0 (by omega)
theorem mType_spec {c : Int32} (hM : MIs τ a) (h : ∀ τ', OffD τ τ' → MIs τ' (typA a c).2 → Q (some (.int (typA a c).1)) τ') : RT mX11_type none 0 [some (.ref 63), some (.int c)] [] τ Q := by
  have hl80 := hM.1.2.1.2.1
  have ht := hM.1.2.1.1
  refine rt_run 3 rfl ?_
  refine rt_cS mX11_in kX11_type_4 okX11_in rfl rfl ?_
  refine in_spec 128 (by decide) rfl (fun hh => ?_) (fun c' hc ec => ?_)
  · refine rt_if_ne rfl (fun hc => absurd rfl hc) (fun _ => ?_)
    refine rt_run 2 rfl ?_
    refine rt_cV (ci := 11) mX11_refuses kX11_type_13 okX11_refuses rfl rfl rfl rfl rfl ?_
    unfold typA at h
    rw [hh] at h
    exact refuses_spec hM (Or.inl rfl) (fun τ' hO hC' => rt_iret rfl rfl (h τ' hO hC'))
  subst ec
  refine rt_if_ne rfl (fun _ => ?_) (fun hc => absurd hc (by decide))
  unfold typA at h
  rw [rn_so hc (by decide)] at h
  dsimp only at h
  refine rt_run 3 rfl ?_
  refine rt_ne (aT a).length 80 rfl (by omega) (by omega) (fun hne => ?_) (fun heq => ?_) ht
  · rw [if_neg (by omega)] at h
    refine rt_run 5 rfl ?_
    refine rt_st (aT a).length rfl (n := 80) rfl (by omega) ?_ ht
    refine rt_run 8 rfl ?_
    have e4 : gF (sF (sI τ 66 (aT a).length (nI c')) 63 4 (gF (sI τ 66 (aT a).length (nI c')) 63 4 + 1)) 63 4 = nI ((aT a).length + 1) := by
      show gF τ 63 4 + 1 = _
      rw [ht, ← nI_succ]
    have hq := h (sF (sI τ 66 (aT a).length (nI c')) 63 4 (gF (sI τ 66 (aT a).length (nI c')) 63 4 + 1)) ((((OfM.rf [66] [4] τ).sI (by simp) _ _).sF (by simp) _).d (by decide)) ⟨⟨hM.1.1, ⟨?_, ?_, ?_⟩, hM.1.2.2.1, hM.1.2.2.2.1, hM.1.2.2.2.2.1, hM.1.2.2.2.2.2⟩, hM.2⟩
    · rw [← e4] at hq
      exact rt_iret rfl rfl hq
    · show _ = nI (aT a ++ [c']).length
      rw [e4, List.length_append]; rfl
    · show (aT a ++ [c']).length ≤ 80
      rw [List.length_append]; simp; omega
    · intro i b hb
      show b < 128 ∧ upd (gI τ 66) (aT a).length (nI c') i = nI b
      rcases getApp hb with ⟨hi, hb⟩ | ⟨rfl, rfl⟩
      · rw [pk_un (by omega)]
        exact hM.1.2.1.2.2 i b hb
      · exact ⟨hc, pk_us⟩
  · rw [if_pos (by omega)] at h
    refine rt_run 2 rfl ?_
    refine rt_cV (ci := 11) mX11_refuses kX11_type_29 okX11_refuses rfl rfl rfl rfl rfl ?_
    exact refuses_spec hM (Or.inr (Or.inr rfl)) (fun τ' hO hC' => rt_iret rfl rfl (h τ' hO hC'))
theorem mClear_spec (hM : MIs τ a) (h : ∀ τ', OffD τ τ' → MIs τ' (cleA a).2 → Q (some (.int (cleA a).1)) τ') : RT mX11_clear none 0 [some (.ref 63), none] [] τ Q := by
  refine rt_run 7 rfl ?_
  rw [hM.1.2.1.1]
  refine rt_iret rfl rfl (h _ (((OfM.rf [] [4] τ).sF (by simp) _).d (by decide)) ⟨⟨hM.1.1, ⟨rfl, Nat.zero_le 80, fun i b hb => by have hb : ([] : List Nat)[i]? = some b := hb; simp at hb⟩, hM.1.2.2.1, hM.1.2.2.2.1, hM.1.2.2.2.2.1, hM.1.2.2.2.2.2⟩, hM.2⟩)
end MdPub

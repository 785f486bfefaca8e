/-! the reference's route -/
theorem mand {r b : Int32} {f : Nat → Bool} {P : Nat → Prop} (hr : MB r f) (hb : MBp b P) (hf : ∀ q, f q = true → q < 25) : (r &&& b = 0) ↔ ¬ ∃ q, f q = true ∧ P q := by
  rw [b_zero]
  constructor
  · rintro h ⟨q, h1, h2⟩
    obtain ⟨g1, g2⟩ := qm_pm (hf q h1)
    have := h (pmI q) (by omega)
    rw [b_and, hr _ (by omega), g1, h1, (hb (pmI q) (by omega)).mpr (by rw [g1]; exact h2)] at this
    cases this
  · intro h i hi
    cases hc : bt (r &&& b) i with
    | false => rfl
    | true =>
      rw [b_and, Bool.and_eq_true, hr i hi] at hc
      exact absurd ⟨qm i, hc.1, (hb i hi).mp hc.2⟩ h
theorem fwdN_at {G : Gr} {n i : Nat} (hn : n ≤ G.length) : (fwdN G none n).length = n ∧ (i < n → ∀ q, G[i]? = some q → (fwdN G none n)[i]? = some (q.1, q.2.1, q.2.2, i)) := by
  induction n with
  | zero => exact ⟨rfl, fun h => absurd h (by omega)⟩
  | succ n ih =>
    obtain ⟨h1, h2⟩ := ih (by omega)
    have hq : G[n]? = some G[n] := List.getElem?_eq_getElem (by omega)
    rw [fwdN_s hq, if_neg (by simp)]
    refine ⟨by rw [List.length_append, h1]; rfl, fun hi q hG => ?_⟩
    by_cases hin : i < n
    · rw [List.getElem?_append_left (by omega)]
      exact h2 hin q hG
    · have : i = n := by omega
      subst this
      rw [List.getElem?_append_right (by omega), h1, Nat.sub_self]
      rw [hG] at hq
      cases hq
      rfl
theorem bwdN_at {G : Gr} {n i : Nat} (hn : n ≤ G.length) : (bwdN G none n).length = n ∧ (i < n → ∀ q, G[i]? = some q → (bwdN G none n)[i]? = some (q.2.2, q.2.1 + 4, q.1, i)) := by
  induction n with
  | zero => exact ⟨rfl, fun h => absurd h (by omega)⟩
  | succ n ih =>
    obtain ⟨h1, h2⟩ := ih (by omega)
    have hq : G[n]? = some G[n] := List.getElem?_eq_getElem (by omega)
    rw [bwdN_s hq, if_neg (by simp)]
    refine ⟨by rw [List.length_append, h1]; rfl, fun hi q hG => ?_⟩
    by_cases hin : i < n
    · rw [List.getElem?_append_left (by omega)]
      exact h2 hin q hG
    · have : i = n := by omega
      subst this
      rw [List.getElem?_append_right (by omega), h1, Nat.sub_self]
      rw [hG] at hq
      cases hq
      rfl
theorem stL_len (G : Gr) : (stL G none).length = 2 * G.length := by
  unfold stL
  rw [List.length_append, (fwdN_at (i := 0) (Nat.le_refl _)).1, (bwdN_at (i := 0) (Nat.le_refl _)).1]
  omega
theorem stL_f {G : Gr} {i : Nat} {q : Nat × Nat × Nat} (h : G[i]? = some q) : (stL G none)[i]? = some (q.1, q.2.1, q.2.2, i) := by
  have hi := (List.getElem?_eq_some_iff.mp h).1
  unfold stL
  rw [List.getElem?_append_left (by rw [(fwdN_at (i := 0) (Nat.le_refl _)).1]; exact hi)]
  exact (fwdN_at (Nat.le_refl _)).2 hi q h
theorem stL_b {G : Gr} {i : Nat} {q : Nat × Nat × Nat} (h : G[i]? = some q) : (stL G none)[G.length + i]? = some (q.2.2, q.2.1 + 4, q.1, i) := by
  have hi := (List.getElem?_eq_some_iff.mp h).1
  unfold stL
  rw [List.getElem?_append_right (by rw [(fwdN_at (i := 0) (Nat.le_refl _)).1]; omega), (fwdN_at (i := 0) (Nat.le_refl _)).1, show G.length + i - G.length = i by omega]
  exact (bwdN_at (Nat.le_refl _)).2 hi q h
/-- what the first e edges tell of places with one step more left -/
def PBk (G : Gr) (A : AE) (v n e w p : Nat) : Prop := ∃ i q, i < e ∧ G[i]? = some q ∧ ((q.1 = w ∧ ∃ r, A.1 p r = true ∧ A.2.1 q.2.1 r = true ∧ Bk (stL G none) A v n q.2.2 r) ∨ (q.2.2 = w ∧ ∃ r, A.1 p r = true ∧ A.2.1 (q.2.1 + 4) r = true ∧ Bk (stL G none) A v n q.1 r))
theorem PBk_all {G : Gr} {A : AE} {v n w p : Nat} : PBk G A v n G.length w p ↔ Bk (stL G none) A v (n + 1) w p := by
  constructor
  · rintro ⟨i, q, hi, hq, ⟨e, r, h1, h2, h3⟩ | ⟨e, r, h1, h2, h3⟩⟩
    · exact ⟨(q.1, q.2.1, q.2.2, i), mem_stL.mpr ⟨i, q, hq, by simp, Or.inl rfl⟩, e, r, h1, h2, h3⟩
    · exact ⟨(q.2.2, q.2.1 + 4, q.1, i), mem_stL.mpr ⟨i, q, hq, by simp, Or.inr rfl⟩, e, r, h1, h2, h3⟩
  · rintro ⟨st, hst, e, r, h1, h2, h3⟩
    obtain ⟨i, q, hq, -, rfl | rfl⟩ := mem_stL.mp hst
    · exact ⟨i, q, (List.getElem?_eq_some_iff.mp hq).1, hq, Or.inl ⟨e, r, h1, h2, h3⟩⟩
    · exact ⟨i, q, (List.getElem?_eq_some_iff.mp hq).1, hq, Or.inr ⟨e, r, h1, h2, h3⟩⟩
theorem PBk_s {G : Gr} {A : AE} {v n e w p : Nat} {q : Nat × Nat × Nat} (hq : G[e]? = some q) : PBk G A v n (e + 1) w p ↔ PBk G A v n e w p ∨ (q.1 = w ∧ ∃ r, A.1 p r = true ∧ A.2.1 q.2.1 r = true ∧ Bk (stL G none) A v n q.2.2 r) ∨ (q.2.2 = w ∧ ∃ r, A.1 p r = true ∧ A.2.1 (q.2.1 + 4) r = true ∧ Bk (stL G none) A v n q.1 r) := by
  constructor
  · rintro ⟨i, q', hi, hq', h⟩
    by_cases hie : i = e
    · subst hie
      rw [hq] at hq'
      cases hq'
      exact Or.inr h
    · exact Or.inl ⟨i, q', by omega, hq', h⟩
  · rintro (⟨i, q', hi, hq', h⟩ | h)
    · exact ⟨i, q', by omega, hq', h⟩
    · exact ⟨e, q, by omega, hq, h⟩
theorem MBp_or {x y : Int32} {P P' : Nat → Prop} (h : MBp x P) (h' : MBp y P') : MBp (x ||| y) (fun p => P p ∨ P' p) := fun j hj => by
  rw [b_or, Bool.or_eq_true, h j hj, h' j hj]
theorem MBp_iff {x : Int32} {P P' : Nat → Prop} (h : MBp x P) (e : ∀ p, P p ↔ P' p) : MBp x P' := fun j hj => (h j hj).trans (e _)
theorem gp_len {L : SL} {A : AE} {v : Nat} (r a : Nat) (S : Nat → Bool) : (gp L A v r a S).length ≤ r := by
  induction r generalizing a S with
  | zero => exact Nat.le_refl _
  | succ r ih =>
    unfold gp
    split
    · exact Nat.zero_le _
    · split
      · exact Nat.zero_le _
      · rw [List.length_cons]
        exact Nat.succ_le_succ (ih _ _)
section MdRoute
variable {τ : Ty} {Q : Option Value → Ty → Prop} {a : AS}
set_option maxRecDepth 20000 in
theorem mRoute_spec {x u v k w : Int32} (hM : MIs τ a) (h : ∀ τ', OffD τ τ' → MIs τ' (rouA a x u v k w).2 → Q (some (.int (rouA a x u v k w).1)) τ') : RT mX11_route none 0 [some (.ref 63), some (.int x), some (.int u), some (.int v), some (.int k), some (.int w), none, none, none, none, none, none, none, none, none, none, none, none] [] τ Q := by
  have no : ∀ r, (r = -2 ∨ r = -3 ∨ r = -4) → rouA a x u v k w = rfA r a → RT mX11_route none 27 [some (.ref 63), some (.int x), some (.int u), some (.int v), some (.int k), some (.int w), none, none, none, none, none, none, none, none, none, none, none, none] [.int r] τ Q := by
    intro r hr e
    rw [e] at h
    refine rt_run 2 rfl ?_
    refine rt_if_eq rfl (fun hc => by rcases hr with rfl | rfl | rfl <;> exact absurd hc (by decide)) (fun _ => ?_)
    refine rt_run 2 rfl ?_
    refine rt_cV (ci := 11) mX11_refuses kX11_route_37 okX11_refuses rfl rfl rfl rfl rfl ?_
    exact refuses_spec hM hr (fun τ' hO hC' => rt_iret rfl rfl (h τ' hO hC'))
  have bad : rouA a x u v k w = rfA (-2) a → RT mX11_route none 15 [some (.ref 63), some (.int x), some (.int u), some (.int v), some (.int k), some (.int w), none, none, none, none, none, none, none, none, none, none, none, none] [] τ Q := by
    intro e
    refine rt_run 2 rfl ?_
    exact no _ (Or.inl rfl) e
  refine rt_run 1 rfl ?_
  refine rt_if_lt rfl (fun hc => bad (by unfold rouA; rw [if_pos hc])) (fun hk0 => ?_)
  obtain ⟨k', hk', ek⟩ := nI_of hk0
  refine rt_run 3 rfl ?_
  refine rt_cS mX11_in kX11_route_9 okX11_in rfl rfl ?_
  refine in_spec 3 (by decide) rfl (fun hh => ?_) (fun w' hw ew => ?_)
  · exact rt_if_ne rfl (fun hc => absurd rfl hc) (fun _ => bad (by unfold rouA; rw [if_neg hk0, hh]))
  subst ew
  refine rt_if_ne rfl (fun _ => ?_) (fun hc => absurd hc (by decide))
  subst ek
  have e0 : rouA a x u v (nI k') (nI w') = rtA a x u v (fun A u v => (rouV (aS a) A u v k' w', a)) := by
    unfold rouA; rw [if_neg hk0, rn_so hw (by decide), nI_clamp hk']
  rw [e0] at h no
  refine rt_run 4 rfl ?_
  refine rt_cV (ci := 11) mX11_amiss kX11_route_24 okX11_amiss rfl rfl rfl rfl rfl ?_
  refine amiss_spec hM (fun e => no _ (Or.inl rfl) (e _)) (fun e => no _ (Or.inr (Or.inl rfl)) (e _)) (fun i j l A hi hj hl e1 e2 e3 hX hE e => ?_)
  subst e1; subst e2; subst e3
  rw [e] at h
  clear no bad e
  have hG := hM.1.1
  have hL := hG.ok none
  have hA := hE.2.2.2
  have hlen := hG.2.2.1
  have eS : aS a = stL (aG a) none := rfl
  rw [eS] at h
  generalize hGG : aG a = G at *
  refine rt_run 2 rfl ?_
  refine rt_if_eq rfl (fun _ => ?_) (fun hc => absurd rfl hc)
  refine rt_run 4 rfl ?_
  refine rt_cV (ci := 11) mX11_farOf kX11_route_45 okX11_farOf rfl rfl rfl rfl rfl ?_
  refine farOf_spec (v := some l) (w := none) hi hj (fun y hy => by cases hy; exact hl) hG (mw0 hM) (fun e he => by cases he) hE (fun y hy τ1 hO1 => ?_) (fun hc => by cases hc)
  cases hy
  have hans : ∀ τ2 r, OfM [78, 79, 80, 81] [] τ1 τ2 → rouV (stL G none) A j l k' w' = r → Q (some (.int r)) τ2 := by
    intro τ2 r hO2 er
    have hO : OfM [78, 79, 80, 81] [] τ τ2 := (hO1.up (by simp) (by simp)).tr hO2
    have := h τ2 (hO.d (by decide)) (hM.of hO (by decide) (by decide) (by decide))
    dsimp only at this
    rw [er] at this
    exact this
  have none1 : ∀ l6 l7, rouV (stL G none) A j l k' w' = -1 → RT mX11_route none 63 [some (.ref 63), some (.int (nI i)), some (.int (nI j)), some (.int (nI l)), some (.int (nI k')), some (.int (nI w')), l6, l7, none, none, none, none, none, none, none, none, none, none] [] τ1 Q := by
    intro l6 l7 e
    refine rt_run 1 rfl ?_
    exact rt_iret rfl rfl (hans τ1 _ (OfM.rf _ _ _) e)
  refine rt_run 3 rfl ?_
  cases hf : farO (stL G none) A j l with
  | none =>
    refine rt_ic_eq rfl (fun _ => none1 _ _ ?_) (fun hc => absurd rfl hc)
    unfold rouV
    rw [hf]
  | some n =>
  have hlev := farO_lev hf
  have hn250 := farO_lt hL hA hl hf
  refine rt_ic_eq rfl (fun hc => absurd hc (neg1 (by omega))) (fun _ => ?_)
  refine rt_run 2 rfl ?_
  have eV : rouV (stL G none) A j l k' w' = match (gp (stL G none) A l n j δ0)[k']? with
    | none => -1
    | some i => match (stL G none)[i]? with
      | none => -1
      | some st => if w' = 0 then nI st.2.2.2 else if w' = 1 then nI (st.2.1 / 4) else nI st.2.2.1 := by
    unfold rouV
    rw [hf]
    rfl
  refine rt_lt k' n rfl (by omega) (by omega) (fun hkn => ?_) (fun hkn => none1 _ _ (by rw [eV, List.getElem?_eq_none (Nat.le_trans (gp_len n j δ0) hkn)]))
  have hG1 := hG.of hO1 (by decide)
  have hE1 := hE.of hO1 (by decide)
  clear hE hM none1 h
  -- the steps
  have walk : ∀ τ2, OfM [81] [] τ1 τ2 → (∀ m', m' ≤ n → ∀ z, z < 10 → MBp (gI τ2 81 (10 * m' + z)) (Bk (stL G none) A l m' z)) → ∀ d t (set : Int32) (S : Nat → Bool) a (sv : Int32) l12 l13 l14 l15 l16 l17, t + d = k' + 1 → MB set S → (gp (stL G none) A l n j δ0).drop t = gp (stL G none) A l (n - t) a S → (∃ p, S p = true ∧ Bk (stL G none) A l (n - t) a p) →
      (∀ t', t = t' + 1 → ∃ sp st, (gp (stL G none) A l n j δ0)[t']? = some sp ∧ (stL G none)[sp]? = some st ∧ a = st.2.2.1 ∧ sv = nI sp) →
      RT mX11_route none 283 [some (.ref 63), some (.int (nI i)), some (.int (nI j)), some (.int (nI l)), some (.int (nI k')), some (.int (nI w')), some (.int 0), some (.int (nI n)), some (.int set), some (.int (nI a)), some (.int sv), some (.int (nI t)), l12, l13, l14, l15, l16, l17] [] τ2 Q := by
    intro τ2 hO2 hB d
    have hG2 := hG1.of hO2 (by decide)
    have hE2 := hE1.of hO2 (by decide)
    induction d with
    | zero =>
      intro t set S a sv l12 l13 l14 l15 l16 l17 ht hS hgp hex hlast
      obtain ⟨sp, st, g1, g2, g3, g4⟩ := hlast k' (by omega)
      have hsp := (List.getElem?_eq_some_iff.mp g2).1
      rw [stL_len] at hsp
      rw [g1] at eV
      dsimp only at eV
      rw [g2] at eV
      dsimp only at eV
      have hst : st.2.2.2 = sp % G.length ∧ st.2.1 / 4 = sp / G.length := by
        by_cases hlt : sp < G.length
        · have hq : G[sp]? = some G[sp] := List.getElem?_eq_getElem hlt
          have b := hG.2.2.2 _ (List.getElem_mem hlt)
          rw [stL_f hq] at g2
          cases g2
          refine ⟨(Nat.mod_eq_of_lt hlt).symm, ?_⟩
          rw [Nat.div_eq_of_lt hlt]
          exact Nat.div_eq_of_lt b.2.1
        · obtain ⟨e', rfl⟩ : ∃ e', sp = G.length + e' := ⟨sp - G.length, by omega⟩
          have hlt' : e' < G.length := by omega
          have hq : G[e']? = some G[e'] := List.getElem?_eq_getElem hlt'
          have b := hG.2.2.2 _ (List.getElem_mem hlt')
          rw [stL_b hq] at g2
          cases g2
          refine ⟨?_, ?_⟩
          · show e' = _
            rw [Nat.add_mod_left, Nat.mod_eq_of_lt hlt']
          · show (G[e'].2.1 + 4) / 4 = _
            rw [Nat.add_div_left _ (by omega : 0 < G.length), Nat.div_eq_of_lt hlt']
            omega
      have hpos : 0 < G.length := by omega
      refine rt_run 2 rfl ?_
      refine rt_gt t k' rfl (by omega) (by omega) (fun _ => ?_) (fun _ => by omega)
      refine rt_run 1 rfl ?_
      have hfin := fun r er => hans τ2 r (hO2.up (by simp) (by simp)) er
      subst g4
      refine rt_if_ne rfl (fun hw0 => ?_) (fun hw0 => ?_)
      · have w0 : w' ≠ 0 := fun e => hw0 (by rw [e]; rfl)
        rw [if_neg w0] at eV
        refine rt_run 2 rfl ?_
        refine rt_ne w' 1 rfl (by omega) (by omega) (fun hw1 => ?_) (fun hw1 => ?_)
        · rw [if_neg hw1] at eV
          refine rt_run 1 rfl ?_
          exact rt_iret rfl rfl (hfin _ (by rw [eV, g3]))
        · rw [if_pos hw1] at eV
          refine rt_run 3 rfl ?_
          rw [hG2.1]
          refine rt_idiv rfl (nI_ne0 hpos (by omega)) ?_
          rw [pk_div (by omega) hpos (by omega)]
          refine rt_run 1 rfl ?_
          exact rt_iret rfl rfl (hfin _ (by rw [eV, hst.2]))
      · have w0 : w' = 0 := by
          by_cases hz : w' = 0
          · exact hz
          · exact absurd hw0 (nI_ne0 (by omega) (by omega))
        rw [if_pos w0] at eV
        refine rt_run 3 rfl ?_
        rw [hG2.1]
        refine rt_irem rfl (nI_ne0 hpos (by omega)) ?_
        rw [pk_rem (by omega) hpos (by omega)]
        refine rt_run 1 rfl ?_
        exact rt_iret rfl rfl (hfin _ (by rw [eV, hst.1]))
    | succ d ih =>
      intro t set S a sv l12 l13 l14 l15 l16 l17 ht hS hgp hex hlast
      obtain ⟨r, hr⟩ : ∃ r, n - t = r + 1 := ⟨n - t - 1, by omega⟩
      rw [hr] at hgp hex
      obtain ⟨p0, hp0, hb0⟩ := hex
      obtain ⟨ha, hp25⟩ := Bk_lt hL hA hl hb0
      refine rt_run 2 rfl ?_
      refine rt_gt t k' rfl (by omega) (by omega) (fun _ => by omega) (fun _ => ?_)
      -- a step is found
      have fnd : ∀ c st (set' : Int32) l12 l13 l14 l15 l16 l17, (stL G none)[c]? = some st → Cnd (stL G none) A l a S r c → (∀ j, j < c → ¬ Cnd (stL G none) A l a S r j) → MB set' (fun q => nxt A S q && A.2.1 st.2.1 q) → RT mX11_route none 474 [some (.ref 63), some (.int (nI i)), some (.int (nI j)), some (.int (nI l)), some (.int (nI k')), some (.int (nI w')), some (.int 0), some (.int (nI n)), some (.int set'), some (.int (nI st.2.2.1)), some (.int (nI c)), some (.int (nI t)), l12, l13, l14, l15, l16, l17] [] τ2 Q := by
        intro c st set' l12 l13 l14 l15 l16 l17 hst hc hno hS'
        have hg := gp_s (fstI_some (List.getElem?_eq_some_iff.mp hst).1 hc hno) hst
        rw [hg] at hgp
        refine rt_run 2 rfl ?_
        rw [← nI_succ]
        refine ih (t + 1) set' _ st.2.2.1 (nI c) _ _ _ _ _ _ (by omega) hS' ?_ ?_ ?_
        · rw [show n - (t + 1) = r by omega, ← List.tail_drop, hgp]
          rfl
        · obtain ⟨st2, k1, k2, q2, k3, k4, k5⟩ := hc
          rw [hst] at k1
          cases k1
          exact ⟨q2, by rw [k3, k4]; rfl, by rw [show n - (t + 1) = r by omega]; exact k5⟩
        · intro t' et
          have : t' = t := by omega
          subst this
          refine ⟨c, st, ?_, hst, rfl, rfl⟩
          have e1 : ((gp (stL G none) A l n j δ0).drop t')[0]? = some c := by rw [hgp]; rfl
          rw [List.getElem?_drop, Nat.add_zero] at e1
          exact e1
      have hsup : ∀ s q, (nxt A S q && A.2.1 s q) = true → q < 25 := by
        intro s q hq
        rw [Bool.and_eq_true] at hq
        have h1 := hA.2.2.1 s q hq.2
        have h2 := hA.1
        omega
      have inn : ∀ dd c l14 l15 l16 l17, c + dd = 2 * G.length → (∀ j, j < c → ¬ Cnd (stL G none) A l a S r j) → RT mX11_route none 296 [some (.ref 63), some (.int (nI i)), some (.int (nI j)), some (.int (nI l)), some (.int (nI k')), some (.int (nI w')), some (.int 0), some (.int (nI n)), some (.int set), some (.int (nI a)), some (.int sv), some (.int (nI t)), some (.int 0), some (.int (nI c)), l14, l15, l16, l17] [] τ2 Q := by
        intro dd
        induction dd with
        | zero =>
          intro c l14 l15 l16 l17 hc hno
          exfalso
          obtain ⟨st, hst, e1, q, g1, g2, g3⟩ := hb0
          obtain ⟨jj, hjj⟩ := List.getElem?_of_mem hst
          have := (List.getElem?_eq_some_iff.mp hjj).1
          rw [stL_len] at this
          exact hno jj (by omega) ⟨st, hjj, e1, q, nxt_iff.mpr ⟨p0, hp25, hp0, g1⟩, g2, g3⟩
        | succ dd ihh =>
          intro c l14 l15 l16 l17 hc hno
          have e2 : (2 : Int32) * gF τ2 63 1 = nI (2 * G.length) := by rw [hG2.1]; exact pk_mul 2 _
          -- behind the set
          have tail : ∀ st (r' : Int32) l14 l15, (stL G none)[c]? = some st → st.1 < 10 → st.2.2.1 < 10 → MB r' (fun q => nxt A S q && A.2.1 st.2.1 q) → RT mX11_route none 415 [some (.ref 63), some (.int (nI i)), some (.int (nI j)), some (.int (nI l)), some (.int (nI k')), some (.int (nI w')), some (.int 0), some (.int (nI n)), some (.int set), some (.int (nI a)), some (.int sv), some (.int (nI t)), some (.int 0), some (.int (nI c)), l14, l15, some (.int (nI st.2.2.1)), some (.int r')] [.int (nI st.1)] τ2 Q := by
            intro st r' l14 l15 hst hs1 hs3 hr'
            have nope : ¬ Cnd (stL G none) A l a S r c → RT mX11_route none 448 [some (.ref 63), some (.int (nI i)), some (.int (nI j)), some (.int (nI l)), some (.int (nI k')), some (.int (nI w')), some (.int 0), some (.int (nI n)), some (.int set), some (.int (nI a)), some (.int sv), some (.int (nI t)), some (.int 0), some (.int (nI c)), l14, l15, some (.int (nI st.2.2.1)), some (.int r')] [] τ2 Q := by
              intro hcn
              refine rt_run 1 rfl ?_
              refine rt_run 2 rfl ?_
              refine rt_if_eq rfl (fun _ => ?_) (fun hh => absurd rfl hh)
              refine rt_run 2 rfl ?_
              rw [← nI_succ]
              refine ihh (c + 1) _ _ _ _ (by omega) (fun jj hjj => ?_)
              by_cases hjc : jj = c
              · subst hjc; exact hcn
              · exact hno jj (by omega)
            refine rt_run 1 rfl ?_
            refine rt_ne st.1 a rfl (by omega) (by omega) (fun hne => nope ?_) (fun heq => ?_)
            · rintro ⟨st2, k1, k2, -⟩
              rw [hst] at k1
              cases k1
              exact hne k2
            · refine rt_run 12 rfl ?_
              have hb := hB r (by omega) st.2.2.1 hs3
              refine rt_ld (10 * r + st.2.2.1) rfl (n := 2600) rfl (by omega) ?_ ?_
              · refine rt_run 1 rfl ?_
                have hm := mand hr' hb (hsup st.2.1)
                refine rt_if_eq rfl (fun hz => nope ?_) (fun hz => ?_)
                · rintro ⟨st2, k1, k2, q, k3, k4, k5⟩
                  rw [hst] at k1
                  cases k1
                  exact hm.mp hz ⟨q, by rw [k3, k4]; rfl, k5⟩
                · have hcc : Cnd (stL G none) A l a S r c := by
                    have hh := Classical.not_not.mp (fun g => hz (hm.mpr g))
                    obtain ⟨q, k1, k2⟩ := hh
                    rw [Bool.and_eq_true] at k1
                    exact ⟨st, hst, heq, q, k1.1, k1.2, k2⟩
                  refine rt_run 2 rfl ?_
                  refine rt_run 2 rfl ?_
                  refine rt_if_eq rfl (fun hh => absurd hh (by decide)) (fun _ => ?_)
                  refine rt_run 6 rfl ?_
                  refine rt_run 2 rfl ?_
                  rw [← nI_succ]
                  refine rt_run 5 rfl ?_
                  refine rt_ge (c + 1) (2 * G.length) rfl (by omega) (by omega) (fun _ => fnd c st r' _ _ _ _ _ _ hst hcc hno hr') (fun _ => ?_) rfl e2
                  refine rt_run 1 rfl ?_
                  refine rt_if_ne rfl (fun _ => fnd c st r' _ _ _ _ _ _ hst hcc hno hr') (fun hh => absurd hh (by decide))
              · show (10 : Int32) * (nI n - nI t - 1) + nI st.2.2.1 = _
                rw [pk_sub (by omega), hr, nI_pred, show (10 : Int32) = nI 10 from rfl, pk_mul, nI_add]
          refine rt_run 5 rfl ?_
          refine rt_ge c (2 * G.length) rfl (by omega) (by omega) (fun _ => by omega) (fun _ => ?_) rfl e2
          refine rt_run 1 rfl ?_
          refine rt_if_ne rfl (fun hh => absurd rfl hh) (fun _ => ?_)
          refine rt_run 3 rfl ?_
          refine rt_ge c G.length rfl (by omega) (by omega) (fun hge => ?_) (fun hlt => ?_) rfl hG2.1
          · obtain ⟨e', rfl⟩ : ∃ e', c = G.length + e' := ⟨c - G.length, by omega⟩
            have hlt' : e' < G.length := by omega
            have hq : G[e']? = some G[e'] := List.getElem?_eq_getElem hlt'
            obtain ⟨b1, b2, b3⟩ := hG.2.2.2 _ (List.getElem_mem hlt')
            generalize G[e'] = q at hq b1 b2 b3
            refine rt_run 1 rfl ?_
            refine rt_run 2 rfl ?_
            refine rt_if_eq rfl (fun _ => ?_) (fun hh => absurd rfl hh)
            refine rt_run 4 rfl ?_
            rw [hG2.1, pk_sub (show G.length ≤ G.length + e' by omega), show G.length + e' - G.length = e' by omega]
            refine rt_run 2 rfl ?_
            refine rt_if_eq rfl (fun _ => ?_) (fun hh => absurd rfl hh)
            refine rt_run 2 rfl ?_
            refine rt_cV (ci := 11) mX11_fromOf kX11_route_364 okX11_fromOf rfl rfl rfl rfl rfl ?_
            refine fromOf_spec hG2 hlt' (fun q' eq => ?_)
            rw [hq] at eq
            cases eq
            refine rt_run 6 rfl ?_
            refine rt_cV (ci := 11) mX11_letterOf kX11_route_376 okX11_letterOf rfl rfl rfl rfl rfl ?_
            refine letterOf_spec hG2 hlt' (fun q' eq => ?_)
            rw [hq] at eq
            cases eq
            refine rt_run 1 rfl ?_
            refine rt_if_eq rfl (fun _ => ?_) (fun hh => absurd rfl hh)
            refine rt_run 1 rfl ?_
            refine rt_run 1 rfl ?_
            rw [show nI q.2.1 + 4 = nI (q.2.1 + 4) by rw [← nI_add]; rfl]
            refine rt_cV (ci := 11) mX11_goes kX11_route_390 okX11_goes rfl rfl rfl rfl rfl ?_
            refine goes_spec hi (by omega) hE2 hS (fun r' hr' => ?_)
            refine rt_run 2 rfl ?_
            refine rt_if_eq rfl (fun _ => ?_) (fun hh => absurd rfl hh)
            refine rt_run 2 rfl ?_
            refine rt_cV (ci := 11) mX11_toOf kX11_route_412 okX11_toOf rfl rfl rfl rfl rfl ?_
            refine toOf_spec hG2 hlt' (fun q' eq => ?_)
            rw [hq] at eq
            cases eq
            exact tail (q.2.2, q.2.1 + 4, q.1, e') r' _ _ (stL_b hq) b3 b1 hr'
          · have hq : G[c]? = some G[c] := List.getElem?_eq_getElem hlt
            obtain ⟨b1, b2, b3⟩ := hG.2.2.2 _ (List.getElem_mem hlt)
            generalize G[c] = q at hq b1 b2 b3
            refine rt_run 2 rfl ?_
            refine rt_run 2 rfl ?_
            refine rt_if_eq rfl (fun hh => absurd hh (by decide)) (fun _ => ?_)
            refine rt_run 2 rfl ?_
            refine rt_run 2 rfl ?_
            refine rt_if_eq rfl (fun hh => absurd hh (by decide)) (fun _ => ?_)
            refine rt_run 2 rfl ?_
            refine rt_cV (ci := 11) mX11_toOf kX11_route_355 okX11_toOf rfl rfl rfl rfl rfl ?_
            refine toOf_spec hG2 hlt (fun q' eq => ?_)
            rw [hq] at eq
            cases eq
            refine rt_run 1 rfl ?_
            refine rt_run 6 rfl ?_
            refine rt_cV (ci := 11) mX11_letterOf kX11_route_376 okX11_letterOf rfl rfl rfl rfl rfl ?_
            refine letterOf_spec hG2 hlt (fun q' eq => ?_)
            rw [hq] at eq
            cases eq
            refine rt_run 1 rfl ?_
            refine rt_if_eq rfl (fun hh => absurd hh (by decide)) (fun _ => ?_)
            refine rt_run 2 rfl ?_
            refine rt_run 1 rfl ?_
            rw [Int32.add_zero]
            refine rt_cV (ci := 11) mX11_goes kX11_route_390 okX11_goes rfl rfl rfl rfl rfl ?_
            refine goes_spec hi (by omega) hE2 hS (fun r' hr' => ?_)
            refine rt_run 2 rfl ?_
            refine rt_if_eq rfl (fun hh => absurd hh (by decide)) (fun _ => ?_)
            refine rt_run 2 rfl ?_
            refine rt_cV (ci := 11) mX11_fromOf kX11_route_403 okX11_fromOf rfl rfl rfl rfl rfl ?_
            refine fromOf_spec hG2 hlt (fun q' eq => ?_)
            rw [hq] at eq
            cases eq
            refine rt_run 1 rfl ?_
            exact tail (q.1, q.2.1, q.2.2, c) r' _ _ (stL_f hq) b1 b3 hr'
      refine rt_run 4 rfl ?_
      exact inn (2 * G.length) 0 _ _ _ _ (by omega) (fun jj hjj => by omega)
  -- how many steps are left from where
  have lev : ∀ d m τ2 l9, m + d = n → OfM [81] [] τ1 τ2 → (∀ m', m' ≤ m → ∀ z, z < 10 → MBp (gI τ2 81 (10 * m' + z)) (Bk (stL G none) A l m' z)) → RT mX11_route none 107 [some (.ref 63), some (.int (nI i)), some (.int (nI j)), some (.int (nI l)), some (.int (nI k')), some (.int (nI w')), some (.int 0), some (.int (nI n)), some (.int (nI (m + 1))), l9, none, none, none, none, none, none, none, none] [] τ2 Q := by
    intro d
    induction d with
    | zero =>
      intro m τ2 l9 hm hO2 hB
      have : m = n := by omega
      subst this
      refine rt_run 2 rfl ?_
      refine rt_gt (m + 1) m rfl (by omega) (by omega) (fun _ => ?_) (fun _ => by omega)
      refine rt_run 8 rfl ?_
      have hd0 : MB 16777216 δ0 := by
        have := mc_MB (c := 1) (by decide)
        rw [mc_1] at this
        intro jj hjj
        rw [this jj hjj]
        unfold δ0
        by_cases hq : qm jj < 25
        · exact (by decide : ∀ p, p < 25 → Nat.testBit 1 p = decide (p = 0)) _ hq
        · show Nat.testBit 1 (qm jj) = _
          rw [tb_big (c := 1) (by decide) (show 25 ≤ qm jj by omega), decide_eq_false (by omega)]
      refine walk τ2 hO2 hB (k' + 1) 0 _ δ0 j _ _ _ _ _ _ _ (by omega) hd0 ?_ ⟨0, rfl, hlev.1⟩ (fun t' ht => by omega)
      rfl
    | succ d ih =>
      intro m τ2 l9 hm hO2 hB
      refine rt_run 2 rfl ?_
      refine rt_gt (m + 1) n rfl (by omega) (by omega) (fun _ => by omega) (fun _ => ?_)
      have edg : ∀ dd e τ3, e + dd = G.length → OfM [81] [] τ1 τ3 → (∀ m', m' ≤ m → ∀ z, z < 10 → MBp (gI τ3 81 (10 * m' + z)) (Bk (stL G none) A l m' z)) → (∀ z, z < 10 → MBp (gI τ3 81 (10 * (m + 1) + z)) (PBk G A l m e z)) → RT mX11_route none 147 [some (.ref 63), some (.int (nI i)), some (.int (nI j)), some (.int (nI l)), some (.int (nI k')), some (.int (nI w')), some (.int 0), some (.int (nI n)), some (.int (nI (m + 1))), some (.int (nI e)), none, none, none, none, none, none, none, none] [] τ3 Q := by
        intro dd
        induction dd with
        | zero =>
          intro e τ3 he hO3 hB3 hP
          have : e = G.length := by omega
          subst this
          have hG3 := hG1.of hO3 (by decide)
          refine rt_run 3 rfl ?_
          refine rt_ge G.length G.length rfl (by omega) (by omega) (fun _ => ?_) (fun _ => by omega) rfl hG3.1
          refine rt_run 2 rfl ?_
          rw [← nI_succ]
          refine ih (m + 1) τ3 _ (by omega) hO3 (fun m' hm' z hz => ?_)
          by_cases hmm : m' = m + 1
          · subst hmm
            exact MBp_iff (hP z hz) (fun p => PBk_all)
          · exact hB3 m' (by omega) z hz
        | succ dd ihh =>
          intro e τ3 he hO3 hB3 hP
          have hG3 := hG1.of hO3 (by decide)
          have hE3 := hE1.of hO3 (by decide)
          have hlt : e < G.length := by omega
          have hq : G[e]? = some G[e] := List.getElem?_eq_getElem hlt
          obtain ⟨b1, b2, b3⟩ := hG.2.2.2 _ (List.getElem_mem hlt)
          generalize G[e] = q at hq b1 b2 b3
          refine rt_run 3 rfl ?_
          refine rt_ge e G.length rfl (by omega) (by omega) (fun _ => by omega) (fun _ => ?_) rfl hG3.1
          refine rt_run 7 rfl ?_
          refine rt_cV (ci := 11) mX11_fromOf kX11_route_168 okX11_fromOf rfl rfl rfl rfl rfl ?_
          refine fromOf_spec hG3 hlt (fun q' eq => ?_)
          rw [hq] at eq
          cases eq
          have ix : ∀ y, (10 : Int32) * nI (m + 1) + nI y = nI (10 * (m + 1) + y) := fun y => by rw [show (10 : Int32) = nI 10 from rfl, pk_mul, nI_add]
          have ix0 : ∀ y, (10 : Int32) * (nI (m + 1) - 1) + nI y = nI (10 * m + y) := fun y => by rw [nI_pred, show (10 : Int32) = nI 10 from rfl, pk_mul, nI_add]
          refine rt_run 2 rfl ?_
          refine rt_ld (10 * (m + 1) + q.1) rfl (n := 2600) rfl (by omega) ?_ (ix _)
          refine rt_run 11 rfl ?_
          refine rt_cV (ci := 11) mX11_toOf kX11_route_190 okX11_toOf rfl rfl rfl rfl rfl ?_
          refine toOf_spec hG3 hlt (fun q' eq => ?_)
          rw [hq] at eq
          cases eq
          refine rt_run 1 rfl ?_
          refine rt_ld (10 * m + q.2.2) rfl (n := 2600) rfl (by omega) ?_ (ix0 _)
          refine rt_run 2 rfl ?_
          refine rt_cV (ci := 11) mX11_letterOf kX11_route_198 okX11_letterOf rfl rfl rfl rfl rfl ?_
          refine letterOf_spec hG3 hlt (fun q' eq => ?_)
          rw [hq] at eq
          cases eq
          refine rt_cV (ci := 11) mX11_comes kX11_route_201 okX11_comes rfl rfl rfl rfl rfl ?_
          refine comes_spec hi (by omega) hE3 (hB3 m (Nat.le_refl _) q.2.2 b3) (fun r1 hr1 => ?_)
          refine rt_run 1 rfl ?_
          refine rt_st (10 * (m + 1) + q.1) rfl (n := 2600) rfl (by omega) ?_ (ix _)
          have hO4 : OfM [81] [] τ1 (sI τ3 81 (10 * (m + 1) + q.1) (gI τ3 81 (10 * (m + 1) + q.1) ||| r1)) := hO3.sI (by simp) _ _
          have hB4 : ∀ m', m' ≤ m → ∀ z, z < 10 → MBp (gI (sI τ3 81 (10 * (m + 1) + q.1) (gI τ3 81 (10 * (m + 1) + q.1) ||| r1)) 81 (10 * m' + z)) (Bk (stL G none) A l m' z) := by
            intro m' hm' z hz
            rw [gI_sI, if_pos rfl, pk_un (by omega)]
            exact hB3 m' hm' z hz
          have hP4 : ∀ z, z < 10 → MBp (gI (sI τ3 81 (10 * (m + 1) + q.1) (gI τ3 81 (10 * (m + 1) + q.1) ||| r1)) 81 (10 * (m + 1) + z)) (fun p => PBk G A l m e z p ∨ (q.1 = z ∧ ∃ r, A.1 p r = true ∧ A.2.1 q.2.1 r = true ∧ Bk (stL G none) A l m q.2.2 r)) := by
            intro z hz
            rw [gI_sI, if_pos rfl]
            by_cases hzq : z = q.1
            · subst hzq
              rw [pk_us]
              refine MBp_iff (MBp_or (hP _ hz) hr1) (fun p => ?_)
              simp
            · rw [pk_un (by omega)]
              refine MBp_iff (hP z hz) (fun p => ?_)
              have : ¬ q.1 = z := fun g => hzq g.symm
              simp [this]
          have hG4 := hG1.of hO4 (by decide)
          have hE4 := hE1.of hO4 (by decide)
          generalize sI τ3 81 (10 * (m + 1) + q.1) (gI τ3 81 (10 * (m + 1) + q.1) ||| r1) = τ4 at hO4 hB4 hP4 hG4 hE4
          refine rt_run 7 rfl ?_
          refine rt_cV (ci := 11) mX11_toOf kX11_route_218 okX11_toOf rfl rfl rfl rfl rfl ?_
          refine toOf_spec hG4 hlt (fun q' eq => ?_)
          rw [hq] at eq
          cases eq
          refine rt_run 2 rfl ?_
          refine rt_ld (10 * (m + 1) + q.2.2) rfl (n := 2600) rfl (by omega) ?_ (ix _)
          refine rt_run 11 rfl ?_
          refine rt_cV (ci := 11) mX11_fromOf kX11_route_240 okX11_fromOf rfl rfl rfl rfl rfl ?_
          refine fromOf_spec hG4 hlt (fun q' eq => ?_)
          rw [hq] at eq
          cases eq
          refine rt_run 1 rfl ?_
          refine rt_ld (10 * m + q.1) rfl (n := 2600) rfl (by omega) ?_ (ix0 _)
          refine rt_run 2 rfl ?_
          refine rt_cV (ci := 11) mX11_letterOf kX11_route_248 okX11_letterOf rfl rfl rfl rfl rfl ?_
          refine letterOf_spec hG4 hlt (fun q' eq => ?_)
          rw [hq] at eq
          cases eq
          refine rt_run 2 rfl ?_
          rw [show nI q.2.1 + 4 = nI (q.2.1 + 4) by rw [← nI_add]; rfl]
          refine rt_cV (ci := 11) mX11_comes kX11_route_253 okX11_comes rfl rfl rfl rfl rfl ?_
          refine comes_spec hi (by omega) hE4 (hB4 m (Nat.le_refl _) q.1 b1) (fun r2 hr2 => ?_)
          refine rt_run 1 rfl ?_
          refine rt_st (10 * (m + 1) + q.2.2) rfl (n := 2600) rfl (by omega) ?_ (ix _)
          refine rt_run 2 rfl ?_
          rw [← nI_succ]
          refine ihh (e + 1) _ (by omega) (hO4.sI (by simp) _ _) (fun m' hm' z hz => ?_) (fun z hz => ?_)
          · rw [gI_sI, if_pos rfl, pk_un (by omega)]
            exact hB4 m' hm' z hz
          · rw [gI_sI, if_pos rfl]
            by_cases hzq : z = q.2.2
            · subst hzq
              rw [pk_us]
              refine MBp_iff (MBp_or (hP4 _ hz) hr2) (fun p => ?_)
              rw [PBk_s hq, or_assoc]
              simp
            · rw [pk_un (by omega)]
              refine MBp_iff (hP4 z hz) (fun p => ?_)
              rw [PBk_s hq]
              have : ¬ q.2.2 = z := fun g => hzq g.symm
              simp [this]
      have zer : ∀ dd z τ3, z + dd = 10 → OfM [81] [] τ1 τ3 → (∀ m', m' ≤ m → ∀ z, z < 10 → MBp (gI τ3 81 (10 * m' + z)) (Bk (stL G none) A l m' z)) → (∀ y, y < z → gI τ3 81 (10 * (m + 1) + y) = 0) → RT mX11_route none 117 [some (.ref 63), some (.int (nI i)), some (.int (nI j)), some (.int (nI l)), some (.int (nI k')), some (.int (nI w')), some (.int 0), some (.int (nI n)), some (.int (nI (m + 1))), some (.int (nI z)), none, none, none, none, none, none, none, none] [] τ3 Q := by
        intro dd
        induction dd with
        | zero =>
          intro z τ3 hz hO3 hB3 h0
          refine rt_run 2 rfl ?_
          refine rt_ge z 10 rfl (by omega) (by omega) (fun _ => ?_) (fun _ => by omega)
          refine rt_run 2 rfl ?_
          refine edg G.length 0 τ3 (by omega) hO3 hB3 (fun y hy jj hjj => ?_)
          rw [h0 y (by omega), b_0]
          constructor
          · intro hh; cases hh
          · rintro ⟨i', q', hi', -⟩
            omega
        | succ dd ihh =>
          intro z τ3 hz hO3 hB3 h0
          refine rt_run 2 rfl ?_
          refine rt_ge z 10 rfl (by omega) (by omega) (fun _ => by omega) (fun _ => ?_)
          refine rt_run 8 rfl ?_
          refine rt_st (10 * (m + 1) + z) rfl (n := 2600) rfl (by omega) ?_ (by rw [show (10 : Int32) = nI 10 from rfl, pk_mul, nI_add])
          refine rt_run 2 rfl ?_
          rw [← nI_succ]
          refine ihh (z + 1) _ (by omega) (hO3.sI (by simp) _ _) (fun m' hm' y hy => ?_) (fun y hy => ?_)
          · rw [gI_sI, if_pos rfl, pk_un (by omega)]
            exact hB3 m' hm' y hy
          · rw [gI_sI, if_pos rfl]
            by_cases hyz : y = z
            · subst hyz; rw [pk_us]
            · rw [pk_un (by omega)]; exact h0 y (by omega)
      refine rt_run 2 rfl ?_
      exact zer 10 0 τ2 (by omega) hO2 hB (fun y hy => by omega)
  -- those at the end
  have l0 : ∀ d y τ2, y + d = 10 → OfM [81] [] τ1 τ2 → (∀ z, z < y → MBp (gI τ2 81 z) (Bk (stL G none) A l 0 z)) → RT mX11_route none 68 [some (.ref 63), some (.int (nI i)), some (.int (nI j)), some (.int (nI l)), some (.int (nI k')), some (.int (nI w')), some (.int 0), some (.int (nI n)), some (.int (nI y)), none, none, none, none, none, none, none, none, none] [] τ2 Q := by
    intro d
    induction d with
    | zero =>
      intro y τ2 hy hO2 hB
      refine rt_run 2 rfl ?_
      refine rt_ge y 10 rfl (by omega) (by omega) (fun _ => ?_) (fun _ => by omega)
      refine rt_run 2 rfl ?_
      refine lev n 0 τ2 _ (by omega) hO2 (fun m' hm' z hz => ?_)
      have : m' = 0 := by omega
      subst this
      rw [Nat.mul_zero, Nat.zero_add]
      exact hB z (by omega)
    | succ d ih =>
      intro y τ2 hy hO2 hB
      have hE2 := hE1.of hO2 (by decide)
      refine rt_run 2 rfl ?_
      refine rt_ge y 10 rfl (by omega) (by omega) (fun _ => by omega) (fun _ => ?_)
      have put : ∀ z : Int32, MBp z (Bk (stL G none) A l 0 y) → RT mX11_route none 97 [some (.ref 63), some (.int (nI i)), some (.int (nI j)), some (.int (nI l)), some (.int (nI k')), some (.int (nI w')), some (.int 0), some (.int (nI n)), some (.int (nI y)), none, none, none, none, none, none, none, none, none] [.int z, .int (nI y), .ref 81] τ2 Q := by
        intro z hz
        refine rt_st y rfl (n := 2600) rfl (by omega) ?_
        refine rt_run 2 rfl ?_
        rw [← nI_succ]
        refine ih (y + 1) _ (by omega) (hO2.sI (by simp) _ _) (fun x' hx' => ?_)
        rw [gI_sI, if_pos rfl]
        by_cases hxy : x' = y
        · subst hxy; rw [pk_us]; exact hz
        · rw [pk_un hxy]; exact hB x' (by omega)
      refine rt_run 5 rfl ?_
      refine rt_ne y l rfl (by omega) (by omega) (fun hne => ?_) (fun heq => ?_)
      · refine rt_run 1 rfl ?_
        refine put 0 (fun jj hjj => ?_)
        rw [b_0]
        constructor
        · intro hh; cases hh
        · rintro ⟨g1, -⟩
          exact absurd g1 hne
      · refine rt_run 3 rfl ?_
        refine rt_ld i rfl (n := 4) rfl hi ?_
        refine rt_run 1 rfl ?_
        refine put _ (fun jj hjj => ?_)
        rw [hE2.2.2.1 jj hjj]
        constructor
        · intro hh; exact ⟨heq, hh⟩
        · rintro ⟨-, g2⟩; exact g2
  refine rt_run 2 rfl ?_
  exact l0 10 0 τ1 (by omega) (OfM.rf _ _ _) (fun z hz => by omega)
end MdRoute

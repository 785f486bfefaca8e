/-! the reference's sets of places as numbers; beyond -/
def mc (c : Nat) : Int32 := vb (fun j => c.testBit (qm j)) 25
theorem mc_bt {c j : Nat} (hc : c < 33554432) (hj : j < 32) : bt (mc c) j = c.testBit (qm j) := by
  unfold mc
  rw [vb_bt _ 25 (by decide) hj]
  by_cases h : j < 25
  · simp [h]
  · have := qm_ge (show 25 ≤ j by omega)
    rw [tb_big hc (show 25 ≤ qm j by omega)]
    simp [h]
theorem mc_MB {c : Nat} (hc : c < 33554432) : MB (mc c) (fun p => c.testBit p) := fun _ hj => mc_bt hc hj
theorem MB_enc {x : Int32} {S : Nat → Bool} (hS : ∀ i, 25 ≤ i → S i = false) (h : MB x S) : x = mc (enc S) := by
  refine b_ext (fun j hj => ?_)
  rw [h j hj, mc_bt (enc_lt S) hj, enc_tb]
  by_cases hq : qm j < 25
  · simp [hq]
  · rw [hS _ (by omega)]
    simp
theorem mc_inj {c d : Nat} (hc : c < 33554432) (hd : d < 33554432) (h : mc c = mc d) : c = d := by
  apply Nat.eq_of_testBit_eq
  intro p
  by_cases hp : p < 25
  · obtain ⟨g1, g2⟩ := qm_pm hp
    have h1 := mc_bt hc (show pmI p < 32 by omega)
    have h2 := mc_bt hd (show pmI p < 32 by omega)
    rw [g1] at h1 h2
    rw [← h1, ← h2, h]
  · rw [tb_big hc (by omega), tb_big hd (by omega)]
theorem mc_1 : mc 1 = 16777216 := by decide +kernel
section MdSets
variable {τ : Ty} {Q : Option Value → Ty → Prop} {A : AE} {x : Nat}
theorem goes_specN {s c : Nat} (hx : x < 4) (hs : s < 8) (hE : MEx τ x A) (hc : c < 33554432) (h : Q (some (.int (mc (nx A c s)))) τ) : RT mX11_goes none 0 [some (.ref 63), some (.int (nI x)), some (.int (mc c)), some (.int (nI s)), none, none] [] τ Q := by
  refine goes_spec hx hs hE (mc_MB hc) (fun r hr => ?_)
  have e : r = mc (nx A c s) := by
    refine MB_enc (S := fun q => nxt A (fun p => c.testBit p) q && A.2.1 s q) (fun i hi => ?_) hr
    cases hb : A.2.1 s i with
    | false => simp
    | true =>
      have h1 := hE.2.2.2.2.2.1 s i hb
      have h2 := hE.2.2.2.1
      omega
  rw [e]
  exact h
theorem mfin {c : Nat} (hE : MEx τ x A) (hc : c < 33554432) : (mc c &&& gI τ 70 x = 0) ↔ finB A c = false := by
  have hbit : ∀ i, i < 32 → bt (mc c &&& gI τ 70 x) i = (c.testBit (qm i) && A.2.2.1 (qm i)) := by
    intro i hi
    rw [b_and, mc_bt hc hi, hE.2.2.1 i hi]
  rw [b_zero, Bool.eq_false_iff]
  constructor
  · intro h hf
    unfold finB at hf
    rw [List.any_eq_true] at hf
    obtain ⟨p, hp, hh⟩ := hf
    rw [List.mem_range] at hp
    obtain ⟨g1, g2⟩ := qm_pm hp
    have := h (pmI p) (by omega)
    rw [hbit _ (by omega), g1, hh] at this
    cases this
  · intro h i hi
    rw [hbit i hi]
    cases hb : (c.testBit (qm i) && A.2.2.1 (qm i)) with
    | false => rfl
    | true =>
      exfalso
      apply h
      unfold finB
      rw [List.any_eq_true]
      refine ⟨qm i, ?_, hb⟩
      rw [List.mem_range]
      by_cases hi25 : i < 25
      · exact qm_lt hi25
      · have := qm_ge (show 25 ≤ i by omega)
        rw [tb_big hc (show 25 ≤ qm i by omega)] at hb
        cases hb
end MdSets
def PAt (τ : Ty) (K : PL) : Prop := ∀ i x, K[i]? = some x → gI τ 82 i = mc x.1 ∧ gI τ 83 i = mc x.2
theorem PAt.of {ks fs : List Nat} {τ τ' : Ty} {K : PL} (h : PAt τ K) (ho : OfM ks fs τ τ') (h1 : 82 ∉ ks ∧ 83 ∉ ks) : PAt τ' K := fun i x hx => by
  rw [(ho.1 82 h1.1).1, (ho.1 83 h1.2).1]
  exact h i x hx
theorem PAt.push {τ : Ty} {K : PL} (c d : Nat) (h : PAt τ K) : PAt (sI (sI τ 82 K.length (mc c)) 83 K.length (mc d)) (K ++ [(c, d)]) := by
  intro i x hx
  have e82 : gI (sI (sI τ 82 K.length (mc c)) 83 K.length (mc d)) 82 = upd (gI τ 82) K.length (mc c) := rfl
  have e83 : gI (sI (sI τ 82 K.length (mc c)) 83 K.length (mc d)) 83 = upd (gI τ 83) K.length (mc d) := rfl
  rw [e82, e83]
  rcases getApp hx with ⟨hi, hx⟩ | ⟨rfl, rfl⟩
  · rw [pk_un (by omega), pk_un (by omega)]
    exact h i x hx
  · rw [pk_us, pk_us]
    exact ⟨rfl, rfl⟩
theorem exN_ok {A B : AE} {lim : Nat} {x : Nat × Nat} {K K' : PL} {s : Nat} (h : exN A B lim x K s = some K') (hK : PLok K) (hl : K.length ≤ lim) : PLok K' ∧ K'.length ≤ lim := by
  induction s generalizing K' with
  | zero => cases h; exact ⟨hK, hl⟩
  | succ s ih =>
    unfold exN at h
    cases hs : exN A B lim x K s with
    | none => rw [hs] at h; cases h
    | some K1 =>
      rw [hs] at h
      obtain ⟨i1, i2⟩ := ih hs
      have h : addP K1 lim (nx A x.1 s, nx B x.2 s) = some K' := h
      unfold addP at h
      split at h
      · cases h; exact ⟨i1, i2⟩
      · split at h
        · cases h
          refine ⟨fun y hy => ?_, by rw [List.length_append]; simp; omega⟩
          rcases List.mem_append.mp hy with hy | hy
          · exact i1 y hy
          · simp at hy
            subst hy
            exact ⟨nx_lt _ _ _, nx_lt _ _ _⟩
        · cases h
theorem wdN_ok {A B : AE} {lim fr d : Nat} {K K' : PL} (h : wdN A B lim K fr d = some K') (hK : PLok K) (hl : K.length ≤ lim) : PLok K' ∧ K'.length ≤ lim := by
  induction d generalizing K' with
  | zero => cases h; exact ⟨hK, hl⟩
  | succ d ih =>
    unfold wdN at h
    cases hs : wdN A B lim K fr d with
    | none => rw [hs] at h; cases h
    | some K1 =>
      rw [hs] at h
      obtain ⟨i1, i2⟩ := ih hs
      have h : (match K[fr + d]? with
        | some x => exN A B lim x K1 8
        | none => some K1) = some K' := h
      split at h
      · exact exN_ok h i1 i2
      · cases h; exact ⟨i1, i2⟩
theorem exN_s {A B : AE} {lim : Nat} {x : Nat × Nat} {K K' : PL} {s : Nat} (h : exN A B lim x K s = some K') : exN A B lim x K (s + 1) = addP K' lim (nx A x.1 s, nx B x.2 s) := by
  show (exN A B lim x K s).bind _ = _
  rw [h]
  rfl
section MdBeyond
variable {τ : Ty} {Q : Option Value → Ty → Prop} {a : AS}
theorem bSearch {K : PL} {c d : Nat} (l1 l2 l4 l5 l6 l7 l8 : Option Value) (hP : PAt τ K) (hK : PLok K) (hc : c < 33554432) (hd : d < 33554432) (hl : K.length ≤ 400)
    (h : RT mX11_beyond none 239 [some (.ref 63), l1, l2, some (.int (nI K.length)), l4, l5, l6, l7, l8, some (.int (mc c)), some (.int (mc d)), some (.int (b01 (decide ((c, d) ∈ K)))), some (.int (nI K.length))] [] τ Q) :
    ∀ dd j, j + dd = K.length → RT mX11_beyond none 191 [some (.ref 63), l1, l2, some (.int (nI K.length)), l4, l5, l6, l7, l8, some (.int (mc c)), some (.int (mc d)), some (.int (b01 (decide ((c, d) ∈ K.take j)))), some (.int (nI j))] [] τ Q := by
  intro dd
  induction dd with
  | zero =>
    intro j hj
    have : j = K.length := by omega
    subst this
    refine rt_run 2 rfl ?_
    refine rt_ge K.length K.length rfl (by omega) (by omega) (fun _ => ?_) (fun _ => by omega)
    rw [List.take_of_length_le (Nat.le_refl _)]
    exact h
  | succ dd ih =>
    intro j hj
    refine rt_run 2 rfl ?_
    refine rt_ge j K.length rfl (by omega) (by omega) (fun _ => by omega) (fun hlt => ?_)
    have hq : K[j]? = some K[j] := List.getElem?_eq_getElem hlt
    obtain ⟨g1, g2⟩ := hP j _ hq
    obtain ⟨b1, b2⟩ := hK _ (List.getElem_mem hlt)
    have hmem : (c, d) ∈ K.take (j + 1) ↔ ((c, d) ∈ K.take j ∨ (c, d) = K[j]) := by
      rw [List.take_add_one, hq, List.mem_append]
      simp
    have hih := ih (j + 1) (by omega)
    have yes : ((c, d) ∈ K.take j ∨ (c, d) = K[j]) → ∀ z, RT mX11_beyond none 226 [some (.ref 63), l1, l2, some (.int (nI K.length)), l4, l5, l6, l7, l8, some (.int (mc c)), some (.int (mc d)), some (.int z), some (.int (nI j))] [] τ Q := by
      intro hc z
      rw [decide_eq_true (hmem.mpr hc), nI_succ j] at hih
      refine rt_run 2 rfl ?_
      refine rt_run 3 rfl ?_
      exact hih
    have nope : ¬ ((c, d) ∈ K.take j ∨ (c, d) = K[j]) → ∀ z, RT mX11_beyond none 230 [some (.ref 63), l1, l2, some (.int (nI K.length)), l4, l5, l6, l7, l8, some (.int (mc c)), some (.int (mc d)), some (.int z), some (.int (nI j))] [] τ Q := by
      intro hc z
      rw [decide_eq_false (fun g => hc (hmem.mp g)), nI_succ j] at hih
      refine rt_run 1 rfl ?_
      refine rt_run 3 rfl ?_
      exact hih
    refine rt_run 1 rfl ?_
    by_cases hm : (c, d) ∈ K.take j
    · rw [decide_eq_true hm]
      exact rt_if_ne rfl (fun _ => yes (Or.inl hm) _) (fun hc => absurd hc (by decide))
    rw [decide_eq_false hm]
    refine rt_if_ne rfl (fun hc => absurd rfl hc) (fun _ => ?_)
    refine rt_run 3 rfl ?_
    refine rt_ld j rfl (n := 401) rfl (by omega) ?_
    rw [g1]
    refine rt_run 1 rfl ?_
    refine rt_ic_ne rfl (fun hne => nope ?_ _) (fun e1 => ?_)
    · rintro (g | g)
      · exact hm g
      · exact hne (by rw [← g])
    refine rt_run 3 rfl ?_
    refine rt_ld j rfl (n := 401) rfl (by omega) ?_
    rw [g2]
    refine rt_run 1 rfl ?_
    refine rt_ic_ne rfl (fun hne => nope ?_ _) (fun e2 => yes (Or.inr ?_) _)
    · rintro (g | g)
      · exact hm g
      · exact hne (by rw [← g])
    · rw [← mc_inj b1 hc e1, ← mc_inj b2 hd e2]
set_option maxRecDepth 20000 in
theorem mBeyond_spec {x y : Int32} (hM : MIs τ a) (h : ∀ τ', OffD τ τ' → MIs τ' (beyA a x y).2 → Q (some (.int (beyA a x y).1)) τ') : RT mX11_beyond none 0 [some (.ref 63), some (.int x), some (.int y), none, none, none, none, none, none, none, none, none, none] [] τ Q := by
  have no : beyA a x y = rfA (-2) a → RT mX11_beyond none 14 [some (.ref 63), some (.int x), some (.int y), none, none, none, none, none, none, none, none, none, none] [] τ Q := by
    intro e
    rw [e] at h
    refine rt_run 2 rfl ?_
    refine rt_cV (ci := 11) mX11_refuses kX11_beyond_17 okX11_refuses rfl rfl rfl rfl rfl ?_
    exact refuses_spec hM (Or.inl rfl) (fun τ' hO hC' => rt_iret rfl rfl (h τ' hO hC'))
  have no3 : beyA a x y = rfA (-3) a → RT mX11_beyond none 39 [some (.ref 63), some (.int x), some (.int y), none, none, none, none, none, none, none, none, none, none] [] τ Q := by
    intro e
    rw [e] at h
    refine rt_run 2 rfl ?_
    refine rt_cV (ci := 11) mX11_refuses kX11_beyond_42 okX11_refuses rfl rfl rfl rfl rfl ?_
    exact refuses_spec hM (Or.inr (Or.inl rfl)) (fun τ' hO hC' => rt_iret rfl rfl (h τ' hO hC'))
  refine rt_run 1 rfl ?_
  refine rt_cS mX11_isOne kX11_beyond_1 okX11_isOne rfl rfl ?_
  refine mOne_spec (fun hh => ?_) (fun i hi ei => ?_)
  · exact rt_if_eq rfl (fun _ => no (by unfold beyA; rw [hh])) (fun hc => absurd rfl hc)
  subst ei
  refine rt_if_eq rfl (fun hc => absurd hc (by decide)) (fun _ => ?_)
  refine rt_run 1 rfl ?_
  refine rt_cS mX11_isOne kX11_beyond_8 okX11_isOne rfl rfl ?_
  refine mOne_spec (fun hh => ?_) (fun j hj ej => ?_)
  · exact rt_if_ne rfl (fun hc => absurd rfl hc) (fun _ => no (by unfold beyA; rw [rn_so hi (by decide)]; dsimp only; rw [hh]))
  subst ej
  refine rt_if_ne rfl (fun _ => ?_) (fun hc => absurd hc (by decide))
  have eA : beyA a (nI i) (nI j) = match aX a i with
      | none => rfA (-3) a
      | some A => match aX a j with
        | none => rfA (-3) a
        | some B => orA (bey A B 400 401 0 0 [(1, 1)]).1 a := by
    unfold beyA
    rw [rn_so hi (by decide)]
    dsimp only
    rw [rn_so hj (by decide)]
    rfl
  refine rt_run 3 rfl ?_
  refine rt_ld i rfl (n := 4) rfl hi ?_
  rcases hM.1.2.2.1.told hi with ⟨hX, e⟩ | ⟨A, hX, e, hA, hE⟩
  · rw [e]
    refine rt_if_lt rfl (fun _ => no3 ?_) (fun hc => absurd (show (-1 : Int32) < 0 by decide) hc)
    rw [eA, hX]
  rw [e]
  refine rt_if_lt rfl (fun hc => absurd hc (nI_pos (by omega))) (fun _ => ?_)
  refine rt_run 3 rfl ?_
  refine rt_ld j rfl (n := 4) rfl hj ?_
  rcases hM.1.2.2.1.told hj with ⟨hY, e2⟩ | ⟨B, hY, e2, hB, hF⟩
  · rw [e2]
    refine rt_if_ge rfl (fun hc => absurd hc (by decide)) (fun _ => no3 ?_)
    rw [eA, hX, hY]
  rw [e2]
  refine rt_if_ge rfl (fun _ => ?_) (fun hc => absurd (nI_pos' (by omega)) hc)
  rw [eA, hX, hY] at h
  dsimp only at h
  have hans : ∀ τ' r, OfM [82, 83] [] τ τ' → (bey A B 400 401 0 0 [(1, 1)]).1 = r → ¬ r = -4 → Q (some (.int r)) τ' := by
    intro τ' r hO er hr
    rw [er] at h
    have := h τ' (hO.d (by decide))
    unfold orA at this
    rw [if_neg hr] at this
    exact this (hM.of hO (by decide) (by decide) (by decide))
  have full : ∀ τ' l3 l4 l5 l6 l7 l8 l9 l10 l11 l12, OfM [82, 83] [] τ τ' → (bey A B 400 401 0 0 [(1, 1)]).1 = -4 → RT mX11_beyond none 251 [some (.ref 63), some (.int (nI i)), some (.int (nI j)), l3, l4, l5, l6, l7, l8, l9, l10, l11, l12] [] τ' Q := by
    intro τ' l3 l4 l5 l6 l7 l8 l9 l10 l11 l12 hO er
    rw [er] at h
    refine rt_run 2 rfl ?_
    refine rt_cV (ci := 11) mX11_refuses kX11_beyond_254 okX11_refuses rfl rfl rfl rfl rfl ?_
    exact refuses_spec (hM.of hO (by decide) (by decide) (by decide)) (Or.inr (Or.inr rfl)) (fun τ2 hO2 hC' => rt_iret rfl rfl (h τ2 ((hO.d (by decide)).tr hO2) hC'))
  -- one pair's signs
  have exl : ∀ d s K0 K' τ' (xx : Nat × Nat) (k : Nat) l4 l5 l6 l9 l10 l11 l12, s + d = 8 → exN A B 400 xx K0 s = some K' → PAt τ' K' → PLok K' → K'.length ≤ 400 → K'[k]? = some xx → OfM [82, 83] [] τ τ' →
      (∀ τ'' K'' l9 l10 l11 l12, exN A B 400 xx K0 8 = some K'' → PAt τ'' K'' → PLok K'' → K''.length ≤ 400 → OfM [82, 83] [] τ τ'' → RT mX11_beyond none 288 [some (.ref 63), some (.int (nI i)), some (.int (nI j)), some (.int (nI K''.length)), l4, l5, l6, some (.int (nI k)), some (.int (nI 8)), l9, l10, l11, l12] [] τ'' Q) →
      (exN A B 400 xx K0 8 = none → (bey A B 400 401 0 0 [(1, 1)]).1 = -4) →
      RT mX11_beyond none 146 [some (.ref 63), some (.int (nI i)), some (.int (nI j)), some (.int (nI K'.length)), l4, l5, l6, some (.int (nI k)), some (.int (nI s)), l9, l10, l11, l12] [] τ' Q := by
    intro d
    induction d with
    | zero =>
      intro s K0 K' τ' xx k l4 l5 l6 l9 l10 l11 l12 hs hex hP hK hl hk hO hgo hno
      have : s = 8 := by omega
      subst this
      refine rt_run 2 rfl ?_
      refine rt_ge 8 8 rfl (by omega) (by omega) (fun _ => ?_) (fun _ => by omega)
      exact hgo τ' K' _ _ _ _ hex hP hK hl hO
    | succ d ih =>
      intro s K0 K' τ' xx k l4 l5 l6 l9 l10 l11 l12 hs hex hP hK hl hk hO hgo hno
      have hs8 : s < 8 := by omega
      have hE' := hE.of hO (by decide)
      have hF' := hF.of hO (by decide)
      have hkl := (List.getElem?_eq_some_iff.mp hk).1
      obtain ⟨g1, g2⟩ := hP k xx hk
      obtain ⟨b1, b2⟩ := hK xx (List.mem_of_getElem? hk)
      refine rt_run 2 rfl ?_
      refine rt_ge s 8 rfl (by omega) (by omega) (fun _ => by omega) (fun _ => ?_)
      refine rt_run 5 rfl ?_
      refine rt_ld k rfl (n := 401) rfl (by omega) ?_
      rw [g1]
      refine rt_run 1 rfl ?_
      refine rt_cV (ci := 11) mX11_goes kX11_beyond_164 okX11_goes rfl rfl rfl rfl rfl ?_
      refine goes_specN hi hs8 hE' b1 ?_
      refine rt_run 6 rfl ?_
      refine rt_ld k rfl (n := 401) rfl (by omega) ?_
      rw [g2]
      refine rt_run 1 rfl ?_
      refine rt_cV (ci := 11) mX11_goes kX11_beyond_180 okX11_goes rfl rfl rfl rfl rfl ?_
      refine goes_specN hj hs8 hF' b2 ?_
      refine rt_run 5 rfl ?_
      have hn := exN_s hex
      refine bSearch _ _ _ _ _ _ _ hP hK (nx_lt _ _ _) (nx_lt _ _ _) hl ?_ K'.length 0 (by omega)
      refine rt_run 1 rfl ?_
      unfold addP at hn
      by_cases hin : (nx A xx.1 s, nx B xx.2 s) ∈ K'
      · rw [decide_eq_true hin]
        rw [if_pos hin] at hn
        refine rt_if_ne rfl (fun _ => ?_) (fun hc => absurd hc (by decide))
        refine rt_run 1 rfl ?_
        refine rt_if_ne rfl (fun _ => ?_) (fun hc => absurd hc (by decide))
        refine rt_run 2 rfl ?_
        rw [← nI_succ]
        exact ih (s + 1) K0 K' τ' xx k _ _ _ _ _ _ _ (by omega) hn hP hK hl hk hO hgo hno
      · rw [decide_eq_false hin]
        rw [if_neg hin] at hn
        refine rt_if_ne rfl (fun hc => absurd rfl hc) (fun _ => ?_)
        refine rt_run 2 rfl ?_
        refine rt_ne K'.length 400 rfl (by omega) (by omega) (fun hne => ?_) (fun heq => ?_)
        · rw [if_pos (by omega)] at hn
          refine rt_run 1 rfl ?_
          refine rt_if_ne rfl (fun hc => absurd rfl hc) (fun _ => ?_)
          refine rt_run 4 rfl ?_
          refine rt_st K'.length rfl (n := 401) rfl (by omega) ?_
          refine rt_run 4 rfl ?_
          refine rt_st K'.length rfl (n := 401) rfl (by omega) ?_
          refine rt_run 1 rfl ?_
          refine rt_run 2 rfl ?_
          have hlen : (K' ++ [(nx A xx.1 s, nx B xx.2 s)]).length = K'.length + 1 := by rw [List.length_append]; rfl
          have hok2 : PLok (K' ++ [(nx A xx.1 s, nx B xx.2 s)]) := by
            intro y hy
            rcases List.mem_append.mp hy with hy | hy
            · exact hK y hy
            · simp at hy
              subst hy
              exact ⟨nx_lt _ _ _, nx_lt _ _ _⟩
          have := ih (s + 1) K0 (K' ++ [(nx A xx.1 s, nx B xx.2 s)]) _ xx k l4 l5 l6 (some (.int (mc (nx A xx.1 s)))) (some (.int (mc (nx B xx.2 s)))) (some (.int (b01 false))) (some (.int (nI K'.length))) (by omega) hn (hP.push _ _) hok2 (by omega) (by rw [List.getElem?_append_left hkl]; exact hk) ((hO.sI (by simp) _ _).sI (by simp) _ _) hgo hno
          rw [hlen, nI_succ, nI_succ] at this
          exact this
        · rw [if_neg (by omega)] at hn
          exact full τ' _ _ _ _ _ _ _ _ _ _ hO (hno (exN_none hn (by omega)))
  -- one level's pairs
  have wdl : ∀ d k K Ki τ' done f n0 l8 l9 l10 l11 l12, k + d = K.length → done ≤ k → wdN A B 400 K done (k - done) = some Ki → PAt τ' Ki → PLok Ki → Ki.length ≤ 400 → OfM [82, 83] [] τ τ' → PLok K →
      (∀ τ'' K'' l8 l9 l10 l11 l12, wdN A B 400 K done (K.length - done) = some K'' → PAt τ'' K'' → PLok K'' → K''.length ≤ 400 → OfM [82, 83] [] τ τ'' → RT mX11_beyond none 294 [some (.ref 63), some (.int (nI i)), some (.int (nI j)), some (.int (nI K''.length)), some (.int (nI done)), some (.int (nI n0)), some (.int (nI K.length)), some (.int (nI K.length)), l8, l9, l10, l11, l12] [] τ'' Q) →
      (wdN A B 400 K done (K.length - done) = none → (bey A B 400 401 0 0 [(1, 1)]).1 = -4) → K.length ≤ 400 → f = 0 →
      RT mX11_beyond none 136 [some (.ref 63), some (.int (nI i)), some (.int (nI j)), some (.int (nI Ki.length)), some (.int (nI done)), some (.int (nI n0)), some (.int (nI K.length)), some (.int (nI k)), l8, l9, l10, l11, l12] [] τ' Q := by
    intro d
    induction d with
    | zero =>
      intro k K Ki τ' done f n0 l8 l9 l10 l11 l12 hk hdk hwd hP hK hl hO hK0 hgo hno hl0 hf
      have : k = K.length := by omega
      subst this
      refine rt_run 2 rfl ?_
      refine rt_ge K.length K.length rfl (by omega) (by omega) (fun _ => ?_) (fun _ => by omega)
      exact hgo τ' Ki _ _ _ _ _ hwd hP hK hl hO
    | succ d ih =>
      intro k K Ki τ' done f n0 l8 l9 l10 l11 l12 hk hdk hwd hP hK hl hO hK0 hgo hno hl0 hf
      have hlt : k < K.length := by omega
      have hq : K[k]? = some K[k] := List.getElem?_eq_getElem hlt
      obtain ⟨T, hT⟩ := wdN_pre hwd
      have hqi : Ki[k]? = some K[k] := by rw [hT, List.getElem?_append_left hlt]; exact hq
      have hws : wdN A B 400 K done (k + 1 - done) = exN A B 400 K[k] Ki 8 := by
        rw [show k + 1 - done = (k - done) + 1 by omega]
        exact wdN_s hwd (by rw [show done + (k - done) = k by omega]; exact hq)
      refine rt_run 2 rfl ?_
      refine rt_ge k K.length rfl (by omega) (by omega) (fun _ => by omega) (fun _ => ?_)
      refine rt_run 2 rfl ?_
      refine exl 8 0 Ki Ki τ' K[k] k _ _ _ _ _ _ _ rfl rfl hP hK hl hqi hO (fun τ2 K2 m9 m10 m11 m12 hex hP2 hK2 hl2 hO2 => ?_) (fun hn => hno ?_)
      · refine rt_run 2 rfl ?_
        rw [← nI_succ]
        exact ih (k + 1) K K2 τ2 done f n0 _ _ _ _ _ (by omega) (by omega) (by rw [hws]; exact hex) hP2 hK2 hl2 hO2 hK0 hgo hno hl0 hf
      · exact wdN_none (by rw [hws]; exact hn) (by omega)
  have main : ∀ f n done K τ' l6 l7 l8 l9 l10 l11 l12, bey A B 400 401 0 0 [(1, 1)] = bey A B 400 (f + 1) n done K → 401 ≤ K.length + f → done < K.length → n + f = 400 → PAt τ' K → PLok K → K.length ≤ 400 → OfM [82, 83] [] τ τ' →
      RT mX11_beyond none 70 [some (.ref 63), some (.int (nI i)), some (.int (nI j)), some (.int (nI K.length)), some (.int (nI done)), some (.int (nI n)), l6, l7, l8, l9, l10, l11, l12] [] τ' Q := by
    intro f
    induction f with
    | zero =>
      intro n done K τ' l6 l7 l8 l9 l10 l11 l12 hb hf
      intros
      omega
    | succ f ih =>
      intro n done K τ' l6 l7 l8 l9 l10 l11 l12 hb hf hdK hnf hP hK hl hO
      have hE' := hE.of hO (by decide)
      have hF' := hF.of hO (by decide)
      have eb : bey A B 400 (f + 1 + 1) n done K = if (K.drop done).any (apart A B) = true then (nI n, K) else match wdN A B 400 K done (K.length - done) with
        | none => (-4, K)
        | some K' => if K'.length = K.length then (-1, K') else bey A B 400 (f + 1) (n + 1) K.length K' := rfl
      rw [eb] at hb
      refine rt_run 2 rfl ?_
      refine rt_ge done K.length rfl (by omega) (by omega) (fun _ => by omega) (fun _ => ?_)
      have tell : ∀ d k l6', k + d = K.length → done ≤ k → (∀ q, done ≤ q → q < k → ∀ x, K[q]? = some x → apart A B x = false) → l6' = some (Value.int (nI k)) → RT mX11_beyond none 80 [some (.ref 63), some (.int (nI i)), some (.int (nI j)), some (.int (nI K.length)), some (.int (nI done)), some (.int (nI n)), l6', l7, l8, l9, l10, l11, l12] [] τ' Q := by
        intro d
        induction d with
        | zero =>
          intro k l6' hk hdk hnone e6
          subst e6
          have : k = K.length := by omega
          subst this
          have hany : ¬ (K.drop done).any (apart A B) = true := by
            intro ha
            rw [List.any_eq_true] at ha
            obtain ⟨x, hx, hax⟩ := ha
            obtain ⟨q, hq⟩ := List.getElem?_of_mem hx
            rw [List.getElem?_drop] at hq
            have hql := (List.getElem?_eq_some_iff.mp hq).1
            rw [hnone (done + q) (by omega) hql x hq] at hax
            cases hax
          rw [if_neg hany] at hb
          refine rt_run 2 rfl ?_
          refine rt_ge K.length K.length rfl (by omega) (by omega) (fun _ => ?_) (fun _ => by omega)
          refine rt_run 4 rfl ?_
          refine wdl (K.length - done) done K K τ' done 0 n _ _ _ _ _ (by omega) (Nat.le_refl _) (by rw [Nat.sub_self]; rfl) hP hK hl hO hK (fun τ2 K2 m8 m9 m10 m11 m12 hwd hP2 hK2 hl2 hO2 => ?_) (fun hn => ?_) hl rfl
          · rw [hwd] at hb
            dsimp only at hb
            refine rt_run 4 rfl ?_
            rw [← nI_succ]
            by_cases hsame : K2.length = K.length
            · rw [if_pos hsame] at hb
              rw [← hsame]
              refine rt_run 2 rfl ?_
              refine rt_ge K2.length K2.length rfl (by omega) (by omega) (fun _ => ?_) (fun _ => by omega)
              refine rt_run 1 rfl ?_
              have e1 : (bey A B 400 401 0 0 [(1, 1)]).1 = -1 := congrArg Prod.fst hb
              have hq := hans τ2 (-1) hO2 e1 (by decide)
              exact rt_iret rfl rfl hq
            · rw [if_neg hsame] at hb
              obtain ⟨T, hT⟩ := wdN_pre hwd
              have hge : K.length < K2.length := by
                have : K2.length = K.length + T.length := by rw [hT, List.length_append]
                omega
              exact ih (n + 1) K.length K2 τ2 _ _ _ _ _ _ _ hb (by omega) hge (by omega) hP2 hK2 hl2 hO2
          · rw [hn] at hb
            rw [hb]
        | succ d ihd =>
          intro k l6' hk hdk hnone e6
          subst e6
          have hlt : k < K.length := by omega
          have hq : K[k]? = some K[k] := List.getElem?_eq_getElem hlt
          obtain ⟨g1, g2⟩ := hP k _ hq
          obtain ⟨b1, b2⟩ := hK _ (List.getElem_mem hlt)
          have go : apart A B K[k] = false → RT mX11_beyond none 123 [some (.ref 63), some (.int (nI i)), some (.int (nI j)), some (.int (nI K.length)), some (.int (nI done)), some (.int (nI n)), some (.int (nI k)), l7, l8, l9, l10, l11, l12] [] τ' Q := by
            intro hap
            refine rt_run 2 rfl ?_
            refine ihd (k + 1) _ (by omega) (by omega) (fun q h1 h2 x hx => ?_) (by rw [nI_succ])
            by_cases hqk : q = k
            · subst hqk
              rw [hq] at hx
              cases hx
              exact hap
            · exact hnone q h1 (by omega) x hx
          refine rt_run 2 rfl ?_
          refine rt_ge k K.length rfl (by omega) (by omega) (fun _ => by omega) (fun _ => ?_)
          refine rt_run 3 rfl ?_
          refine rt_ld k rfl (n := 401) rfl (by omega) ?_
          rw [g1]
          refine rt_run 3 rfl ?_
          refine rt_ld i rfl (n := 4) rfl hi ?_
          refine rt_run 1 rfl ?_
          refine rt_if_eq rfl (fun hz => go ?_) (fun hz => ?_)
          · unfold apart
            rw [(mfin hE' b1).mp hz]
            rfl
          have fx : finB A K[k].1 = true := by
            cases hf : finB A K[k].1 with
            | true => rfl
            | false => exact absurd ((mfin hE' b1).mpr hf) hz
          refine rt_run 3 rfl ?_
          refine rt_ld k rfl (n := 401) rfl (by omega) ?_
          rw [g2]
          refine rt_run 3 rfl ?_
          refine rt_ld j rfl (n := 4) rfl hj ?_
          refine rt_run 1 rfl ?_
          refine rt_if_ne rfl (fun hz2 => go ?_) (fun hz2 => ?_)
          · have fy : finB B K[k].2 = true := by
              cases hf : finB B K[k].2 with
              | true => rfl
              | false => exact absurd ((mfin hF' b2).mpr hf) hz2
            unfold apart
            rw [fx, fy]
            rfl
          · have fy : finB B K[k].2 = false := (mfin hF' b2).mp hz2
            have hany : (K.drop done).any (apart A B) = true := by
              rw [List.any_eq_true]
              refine ⟨K[k], ?_, by unfold apart; rw [fx, fy]; rfl⟩
              refine List.mem_of_getElem? (i := k - done) ?_
              rw [List.getElem?_drop, show done + (k - done) = k by omega]
              exact hq
            rw [if_pos hany] at hb
            refine rt_run 1 rfl ?_
            refine rt_iret rfl rfl (hans τ' (nI n) hO (by rw [hb]) (fun e => ?_))
            have e1 : (nI n).toInt = (n : Int) := nI_toInt (by omega)
            have e2 : (-4 : Int32).toInt = -4 := by decide
            rw [e, e2] at e1
            omega
      refine rt_run 2 rfl ?_
      exact tell (K.length - done) done _ (by omega) (Nat.le_refl _) (fun q h1 h2 => by omega) rfl
  refine rt_run 4 rfl ?_
  refine rt_st 0 rfl (n := 401) rfl (by decide) ?_
  refine rt_run 4 rfl ?_
  refine rt_st 0 rfl (n := 401) rfl (by decide) ?_
  refine rt_run 6 rfl ?_
  refine main 400 0 0 [(1, 1)] _ none none none none none none none rfl (by decide) (by decide) rfl (fun q x hx => ?_) (fun x hx => by simp at hx; subst hx; decide) (by decide) (((OfM.rf _ _ τ).sI (by simp) _ _).sI (by simp) _ _)
  have hq := (List.getElem?_eq_some_iff.mp hx).1
  have : q = 0 := by simpa using hq
  subst this
  cases hx
  rw [mc_1]
  exact ⟨rfl, rfl⟩
end MdBeyond

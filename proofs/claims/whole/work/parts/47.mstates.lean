/-! the reference's statesOf -/
def SAt (τ : Ty) (S : PL) : Prop := ∀ i x, S[i]? = some x → gI τ 82 i = mc x.1 ∧ x.2 = x.1
theorem SAt.push {τ : Ty} {S : PL} (c : Nat) (h : SAt τ S) : SAt (sI τ 82 S.length (mc c)) (S ++ [(c, c)]) := by
  intro i x hx
  rw [gI_sI, if_pos rfl]
  rcases getApp hx with ⟨hi, hx⟩ | ⟨rfl, rfl⟩
  · rw [pk_un (by omega)]
    exact h i x hx
  · rw [pk_us]
    exact ⟨rfl, rfl⟩
section MdStates
variable {τ : Ty} {Q : Option Value → Ty → Prop} {a : AS}
theorem sSearch {K : PL} {c : Nat} (l1 l3 l4 : Option Value) (hP : SAt τ K) (hK : PLok K) (hc : c < 33554432) (hl : K.length ≤ 200)
    (h : RT mX11_statesOf none 84 [some (.ref 63), l1, some (.int (nI K.length)), l3, l4, some (.int (mc c)), some (.int (b01 (decide ((c, c) ∈ K)))), some (.int (nI K.length))] [] τ Q) :
    ∀ dd j, j + dd = K.length → RT mX11_statesOf none 48 [some (.ref 63), l1, some (.int (nI K.length)), l3, l4, some (.int (mc c)), some (.int (b01 (decide ((c, c) ∈ K.take j)))), some (.int (nI j))] [] τ Q := by
  intro dd
  induction dd with
  | zero =>
    intro j hj
    have : j = K.length := by omega
    subst this
    refine rt_run 2 rfl ?_
    refine rt_ge K.length K.length rfl (by omega) (by omega) (fun _ => ?_) (fun _ => by omega)
    rw [List.take_of_length_le (Nat.le_refl _)]
    exact h
  | succ dd ih =>
    intro j hj
    refine rt_run 2 rfl ?_
    refine rt_ge j K.length rfl (by omega) (by omega) (fun _ => by omega) (fun hlt => ?_)
    have hq : K[j]? = some K[j] := List.getElem?_eq_getElem hlt
    obtain ⟨g1, g2⟩ := hP j _ hq
    obtain ⟨b1, b2⟩ := hK _ (List.getElem_mem hlt)
    have hmem : (c, c) ∈ K.take (j + 1) ↔ ((c, c) ∈ K.take j ∨ (c, c) = K[j]) := by
      rw [List.take_add_one, hq, List.mem_append]
      simp
    have hih := ih (j + 1) (by omega)
    have yes : ((c, c) ∈ K.take j ∨ (c, c) = K[j]) → ∀ z, RT mX11_statesOf none 71 [some (.ref 63), l1, some (.int (nI K.length)), l3, l4, some (.int (mc c)), some (.int z), some (.int (nI j))] [] τ Q := by
      intro hc z
      rw [decide_eq_true (hmem.mpr hc), nI_succ j] at hih
      refine rt_run 2 rfl ?_
      refine rt_run 3 rfl ?_
      exact hih
    refine rt_run 1 rfl ?_
    by_cases hm : (c, c) ∈ K.take j
    · rw [decide_eq_true hm]
      exact rt_if_ne rfl (fun _ => yes (Or.inl hm) _) (fun hc => absurd hc (by decide))
    rw [decide_eq_false hm]
    refine rt_if_ne rfl (fun hc => absurd rfl hc) (fun _ => ?_)
    refine rt_run 3 rfl ?_
    refine rt_ld j rfl (n := 401) rfl (by omega) ?_
    rw [g1]
    refine rt_run 1 rfl ?_
    refine rt_ic_ne rfl (fun hne => ?_) (fun e1 => yes (Or.inr ?_) _)
    · have hno : ¬ ((c, c) ∈ K.take j ∨ (c, c) = K[j]) := by
        rintro (g | g)
        · exact hm g
        · exact hne (by rw [← g])
      rw [decide_eq_false (fun g => hno (hmem.mp g)), nI_succ j] at hih
      refine rt_run 1 rfl ?_
      refine rt_run 3 rfl ?_
      exact hih
    · have e := mc_inj b1 hc e1
      exact Prod.ext e.symm (by show c = K[j].2; rw [g2, e])
set_option maxRecDepth 20000 in
theorem mStatesOf_spec {i : Nat} {A : AE} (hM : MIs τ a) (hi : i < 4) (hE : MEx τ i A) (h : ∀ τ', OffD τ τ' → MIs τ' (orA (staI A) a).2 → Q (some (.int (staI A))) τ') : RT mX11_statesOf none 0 [some (.ref 63), some (.int (nI i)), none, none, none, none, none, none] [] τ Q := by
  have full : ∀ τ' l2 l3 l4 l5 l6 l7, OfM [82] [] τ τ' → (bey A A 200 401 0 0 [(1, 1)]).1 = -4 → RT mX11_statesOf none 96 [some (.ref 63), some (.int (nI i)), l2, l3, l4, l5, l6, l7] [] τ' Q := by
    intro τ' l2 l3 l4 l5 l6 l7 hO er
    have es : staI A = -4 := by unfold staI; rw [if_pos er]
    rw [es] at h
    refine rt_run 2 rfl ?_
    refine rt_cV (ci := 11) mX11_refuses kX11_statesOf_99 okX11_refuses rfl rfl rfl rfl rfl ?_
    exact refuses_spec (hM.of hO (by decide) (by decide) (by decide)) (Or.inr (Or.inr rfl)) (fun τ2 hO2 hC' => rt_iret rfl rfl (h τ2 ((hO.d (by decide)).tr hO2) hC'))
  have exl : ∀ d s K0 K' τ' (xx : Nat × Nat) (k : Nat) l5 l6 l7, s + d = 8 → exN A A 200 xx K0 s = some K' → SAt τ' K' → PLok K' → K'.length ≤ 200 → K'[k]? = some xx → OfM [82] [] τ τ' →
      (∀ τ'' K'' l5 l6 l7, exN A A 200 xx K0 8 = some K'' → SAt τ'' K'' → PLok K'' → K''.length ≤ 200 → OfM [82] [] τ τ'' → RT mX11_statesOf none 125 [some (.ref 63), some (.int (nI i)), some (.int (nI K''.length)), some (.int (nI k)), some (.int (nI 8)), l5, l6, l7] [] τ'' Q) →
      (exN A A 200 xx K0 8 = none → (bey A A 200 401 0 0 [(1, 1)]).1 = -4) →
      RT mX11_statesOf none 20 [some (.ref 63), some (.int (nI i)), some (.int (nI K'.length)), some (.int (nI k)), some (.int (nI s)), l5, l6, l7] [] τ' Q := by
    intro d
    induction d with
    | zero =>
      intro s K0 K' τ' xx k l5 l6 l7 hs hex hP hK hl hk hO hgo hno
      have : s = 8 := by omega
      subst this
      refine rt_run 2 rfl ?_
      refine rt_ge 8 8 rfl (by omega) (by omega) (fun _ => ?_) (fun _ => by omega)
      exact hgo τ' K' _ _ _ hex hP hK hl hO
    | succ d ih =>
      intro s K0 K' τ' xx k l5 l6 l7 hs hex hP hK hl hk hO hgo hno
      have hs8 : s < 8 := by omega
      have hE' := hE.of hO (by decide)
      have hkl := (List.getElem?_eq_some_iff.mp hk).1
      obtain ⟨g1, g2⟩ := hP k xx hk
      obtain ⟨b1, b2⟩ := hK xx (List.mem_of_getElem? hk)
      refine rt_run 2 rfl ?_
      refine rt_ge s 8 rfl (by omega) (by omega) (fun _ => by omega) (fun _ => ?_)
      refine rt_run 5 rfl ?_
      refine rt_ld k rfl (n := 401) rfl (by omega) ?_
      rw [g1]
      refine rt_run 1 rfl ?_
      refine rt_cV (ci := 11) mX11_goes kX11_statesOf_37 okX11_goes rfl rfl rfl rfl rfl ?_
      refine goes_specN hi hs8 hE' b1 ?_
      refine rt_run 5 rfl ?_
      have hn := exN_s hex
      rw [g2] at hn
      refine sSearch _ _ _ hP hK (nx_lt _ _ _) hl ?_ K'.length 0 (by omega)
      refine rt_run 1 rfl ?_
      unfold addP at hn
      by_cases hin : (nx A xx.1 s, nx A xx.1 s) ∈ K'
      · rw [decide_eq_true hin]
        rw [if_pos hin] at hn
        refine rt_if_ne rfl (fun _ => ?_) (fun hc => absurd hc (by decide))
        refine rt_run 1 rfl ?_
        refine rt_if_ne rfl (fun _ => ?_) (fun hc => absurd hc (by decide))
        refine rt_run 2 rfl ?_
        rw [← nI_succ]
        exact ih (s + 1) K0 K' τ' xx k _ _ _ (by omega) hn hP hK hl hk hO hgo hno
      · rw [decide_eq_false hin]
        rw [if_neg hin] at hn
        refine rt_if_ne rfl (fun hc => absurd rfl hc) (fun _ => ?_)
        refine rt_run 2 rfl ?_
        refine rt_ne K'.length 200 rfl (by omega) (by omega) (fun hne => ?_) (fun heq => ?_)
        · rw [if_pos (by omega)] at hn
          refine rt_run 1 rfl ?_
          refine rt_if_ne rfl (fun hc => absurd rfl hc) (fun _ => ?_)
          refine rt_run 4 rfl ?_
          refine rt_st K'.length rfl (n := 401) rfl (by omega) ?_
          refine rt_run 1 rfl ?_
          refine rt_run 2 rfl ?_
          have hlen : (K' ++ [(nx A xx.1 s, nx A xx.1 s)]).length = K'.length + 1 := by rw [List.length_append]; rfl
          have hok2 : PLok (K' ++ [(nx A xx.1 s, nx A xx.1 s)]) := by
            intro y hy
            rcases List.mem_append.mp hy with hy | hy
            · exact hK y hy
            · simp at hy
              subst hy
              exact ⟨nx_lt _ _ _, nx_lt _ _ _⟩
          have := ih (s + 1) K0 (K' ++ [(nx A xx.1 s, nx A xx.1 s)]) _ xx k (some (.int (mc (nx A xx.1 s)))) (some (.int (b01 false))) (some (.int (nI K'.length))) (by omega) hn (hP.push _) hok2 (by omega) (by rw [List.getElem?_append_left hkl]; exact hk) (hO.sI (by simp) _ _) hgo hno
          rw [hlen, nI_succ, nI_succ] at this
          exact this
        · rw [if_neg (by omega)] at hn
          exact full τ' _ _ _ _ _ _ hO (hno (exN_none hn (by omega)))
  have noap : ∀ (τ' : Ty) (S K T : PL) (done : Nat), SAt τ' S → S = K ++ T → ¬ (K.drop done).any (apart A A) = true := by
    intro τ' S K T done hS hT ha
    rw [List.any_eq_true] at ha
    obtain ⟨x, hx, hax⟩ := ha
    have hxS : x ∈ S := by rw [hT]; exact List.mem_append_left _ (List.mem_of_mem_drop hx)
    obtain ⟨q, hq⟩ := List.getElem?_of_mem hxS
    have := (hS q x hq).2
    unfold apart at hax
    rw [this] at hax
    cases hf : finB A x.1 <;> rw [hf] at hax <;> cases hax
  have main : ∀ d k S τ' l4 l5 l6 l7, k + d = 200 → (∃ f n done K, bey A A 200 401 0 0 [(1, 1)] = bey A A 200 (f + 1) n done K ∧ 401 ≤ K.length + f ∧ done ≤ k ∧ k ≤ K.length ∧ wdN A A 200 K done (k - done) = some S ∧ done < K.length) → SAt τ' S → PLok S → S.length ≤ 200 → OfM [82] [] τ τ' →
      RT mX11_statesOf none 12 [some (.ref 63), some (.int (nI i)), some (.int (nI S.length)), some (.int (nI k)), l4, l5, l6, l7] [] τ' Q := by
    have fin : ∀ k S τ' l4 l5 l6 l7, (∃ f n done K, bey A A 200 401 0 0 [(1, 1)] = bey A A 200 (f + 1) n done K ∧ 401 ≤ K.length + f ∧ done ≤ k ∧ k ≤ K.length ∧ wdN A A 200 K done (k - done) = some S ∧ done < K.length) → SAt τ' S → OfM [82] [] τ τ' → S.length ≤ k → S.length ≤ 200 → k ≤ 200 →
        RT mX11_statesOf none 131 [some (.ref 63), some (.int (nI i)), some (.int (nI S.length)), some (.int (nI k)), l4, l5, l6, l7] [] τ' Q := by
      rintro k S τ' l4 l5 l6 l7 ⟨f, n, done, K, hb, hf, hdk, hkK, hwd, hdK⟩ hS hO hk hl hk2
      obtain ⟨T, hT⟩ := wdN_pre hwd
      have hlen : S.length = K.length + T.length := by rw [hT, List.length_append]
      have hkk : k = K.length := by omega
      subst hkk
      have eb : bey A A 200 (f + 1) n done K = if (K.drop done).any (apart A A) = true then (nI n, K) else match wdN A A 200 K done (K.length - done) with
        | none => (-4, K)
        | some K' => if K'.length = K.length then (-1, K') else bey A A 200 f (n + 1) K.length K' := rfl
      rw [eb, if_neg (noap τ' S K T done hS hT), hwd] at hb
      dsimp only at hb
      rw [if_pos (by omega)] at hb
      have es : staI A = nI S.length := by
        unfold staI
        rw [hb]
        rfl
      rw [es] at h
      refine rt_run 1 rfl ?_
      refine rt_iret rfl rfl (h τ' (hO.d (by decide)) ?_)
      unfold orA
      rw [if_neg]
      · exact hM.of hO (by decide) (by decide) (by decide)
      · intro e
        have e1 : (nI S.length).toInt = (S.length : Int) := nI_toInt (by omega)
        have e2 : (-4 : Int32).toInt = -4 := by decide
        rw [e, e2] at e1
        omega
    intro d
    induction d with
    | zero =>
      intro k S τ' l4 l5 l6 l7 hk hx hS hK hl hO
      refine rt_run 2 rfl ?_
      refine rt_ge k S.length rfl (by omega) (by omega) (fun hc => ?_) (fun hc => by omega)
      exact fin k S τ' _ _ _ _ hx hS hO hc hl (by omega)
    | succ d ih =>
      intro k S τ' l4 l5 l6 l7 hk hx hS hK hl hO
      refine rt_run 2 rfl ?_
      refine rt_ge k S.length rfl (by omega) (by omega) (fun hc => ?_) (fun hc => ?_)
      · exact fin k S τ' _ _ _ _ hx hS hO hc hl (by omega)
      have hx2 : ∃ f n done K, bey A A 200 401 0 0 [(1, 1)] = bey A A 200 (f + 1) n done K ∧ 401 ≤ K.length + f ∧ done ≤ k ∧ k < K.length ∧ wdN A A 200 K done (k - done) = some S ∧ done < K.length := by
        obtain ⟨f, n, done, K, hb, hf, hdk, hkK, hwd, hdK⟩ := hx
        obtain ⟨T, hT⟩ := wdN_pre hwd
        have hlen : S.length = K.length + T.length := by rw [hT, List.length_append]
        by_cases hkk : k = K.length
        · subst hkk
          have eb : bey A A 200 (f + 1) n done K = if (K.drop done).any (apart A A) = true then (nI n, K) else match wdN A A 200 K done (K.length - done) with
            | none => (-4, K)
            | some K' => if K'.length = K.length then (-1, K') else bey A A 200 f (n + 1) K.length K' := rfl
          rw [eb, if_neg (noap τ' S K T done hS hT), hwd] at hb
          dsimp only at hb
          rw [if_neg (by omega), show f = (f - 1) + 1 by omega] at hb
          exact ⟨f - 1, n + 1, K.length, S, hb, by omega, Nat.le_refl _, hc, by rw [Nat.sub_self]; rfl, hc⟩
        · exact ⟨f, n, done, K, hb, hf, hdk, by omega, hwd, hdK⟩
      obtain ⟨f, n, done, K, hb, hf, hdk, hkK, hwd, hdK⟩ := hx2
      obtain ⟨T, hT⟩ := wdN_pre hwd
      have hq : K[k]? = some K[k] := List.getElem?_eq_getElem hkK
      have hqi : S[k]? = some K[k] := by rw [hT, List.getElem?_append_left hkK]; exact hq
      have hws : wdN A A 200 K done (k + 1 - done) = exN A A 200 K[k] S 8 := by
        rw [show k + 1 - done = (k - done) + 1 by omega]
        exact wdN_s hwd (by rw [show done + (k - done) = k by omega]; exact hq)
      refine rt_run 2 rfl ?_
      refine exl 8 0 S S τ' K[k] k _ _ _ rfl rfl hS hK hl hqi hO (fun τ2 K2 m5 m6 m7 hex hP2 hK2 hl2 hO2 => ?_) (fun hn => ?_)
      · refine rt_run 2 rfl ?_
        rw [← nI_succ]
        exact ih (k + 1) K2 τ2 _ _ _ _ (by omega) ⟨f, n, done, K, hb, hf, by omega, by omega, by rw [hws]; exact hex, hdK⟩ hP2 hK2 hl2 hO2
      · have eb : bey A A 200 (f + 1) n done K = if (K.drop done).any (apart A A) = true then (nI n, K) else match wdN A A 200 K done (K.length - done) with
          | none => (-4, K)
          | some K' => if K'.length = K.length then (-1, K') else bey A A 200 f (n + 1) K.length K' := rfl
        rw [eb, if_neg (noap τ' S K T done hS hT), wdN_none (by rw [hws]; exact hn) (by omega)] at hb
        exact congrArg Prod.fst hb
  refine rt_run 4 rfl ?_
  refine rt_st 0 rfl (n := 401) rfl (by decide) ?_
  refine rt_run 4 rfl ?_
  refine main 200 0 [(1, 1)] _ none none none none rfl ⟨400, 0, 0, [(1, 1)], rfl, by decide, Nat.le_refl _, by decide, rfl, by decide⟩ (fun q x hx => ?_) (fun x hx => by simp at hx; subst hx; decide) (by decide) ((OfM.rf _ _ τ).sI (by simp) _ _)
  have hq := (List.getElem?_eq_some_iff.mp hx).1
  have : q = 0 := by simpa using hq
  subst this
  cases hx
  rw [mc_1]
  exact ⟨rfl, rfl⟩
end MdStates

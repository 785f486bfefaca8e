/-! the reference's numberOf, turns, steps -/
def MTl (τ : Ty) (K : List Nat) : Prop := gF τ 63 29 = nI K.length ∧ K.length ≤ 400 ∧ (∀ c ∈ K, c < 33554432) ∧ K.Nodup ∧ ∀ i c, K[i]? = some c → gI τ 82 i = mc c
def TmAt (τ : Ty) (k : Nat) (K : List Nat) (W : WF) : Prop := (∀ s c, K[s]? = some c → ∀ w, w < 10 → gL τ k (400 * w + s) = lN (W c w)) ∧ ∀ s, K.length ≤ s → s < 400 → ∀ w, w < 10 → gL τ k (400 * w + s) = 0
theorem fm_pre {α β : Type} {l : List α} (F : α → List β) {i : Nat} {x : α} (h : l[i]? = some x) : ∃ r, l.flatMap F = (l.take i).flatMap F ++ (F x ++ r) := by
  obtain ⟨hi, e⟩ := List.getElem?_eq_some_iff.mp h
  refine ⟨(l.drop (i + 1)).flatMap F, ?_⟩
  conv => lhs; rw [← List.take_append_drop i l, List.drop_eq_getElem_cons hi]
  rw [List.flatMap_append, List.flatMap_cons, e]
theorem pushL_cut {cur rest : List Pu} {KT : List Nat × WF} (h : pushL cur KT = none) : pushL (cur ++ rest) KT = none := by rw [pushL_app, h]; rfl
theorem pushL_one {cur : List Pu} {p : Pu} {KT KT' : List Nat × WF} (h : pushL cur KT = some KT') : pushL (cur ++ [p]) KT = push1 p KT' := by
  rw [pushL_app, h]
  show (push1 p KT').bind (pushL []) = _
  cases push1 p KT' <;> rfl
theorem lN_le63 {x y : Nat} (hx : x < 2 ^ 63) (hy : y < 2 ^ 63) : lN x ≤ lN y ↔ x ≤ y := by
  have e1 : (lN x).toInt = (x : Int) := lg_ofNat_toInt hx
  have e2 : (lN y).toInt = (y : Int) := lg_ofNat_toInt hy
  rw [Int64.le_iff_toInt_le, e1, e2]
  omega
section MdWays
variable {τ : Ty} {Q : Option Value → Ty → Prop} {A : AE} {x : Nat}
theorem mNumberOf_spec {K : List Nat} {c : Nat} (hT : MTl τ K) (hc : c < 33554432) (h1 : ∀ t, K[t]? = some c → Q (some (.int (nI t))) τ)
    (h2 : c ∉ K → K.length < 400 → ∀ τ', OfM [82] [29] τ τ' → gL τ' = gL τ → MTl τ' (K ++ [c]) → Q (some (.int (nI K.length))) τ') (h3 : c ∉ K → K.length = 400 → Q (some (.int (-1))) τ) :
    RT mX11_numberOf none 0 [some (.ref 63), some (.int (mc c)), none] [] τ Q := by
  obtain ⟨t1, t2, t3, t4, t5⟩ := hT
  have loop : ∀ d k, k + d = K.length → (∀ j, j < k → K[j]? ≠ some c) → RT mX11_numberOf none 2 [some (.ref 63), some (.int (mc c)), some (.int (nI k))] [] τ Q := by
    intro d
    induction d with
    | zero =>
      intro k hk hno
      have : k = K.length := by omega
      subst this
      have hn : c ∉ K := by
        intro hin
        obtain ⟨j, hj⟩ := List.getElem?_of_mem hin
        exact hno j (List.getElem?_eq_some_iff.mp hj).1 hj
      refine rt_run 3 rfl ?_
      refine rt_ge K.length K.length rfl (by omega) (by omega) (fun _ => ?_) (fun _ => by omega) rfl t1
      refine rt_run 3 rfl ?_
      refine rt_ge K.length K.length rfl (by omega) (by omega) (fun _ => ?_) (fun _ => by omega) rfl t1
      refine rt_run 3 rfl ?_
      refine rt_ne K.length 400 rfl (by omega) (by omega) (fun hne => ?_) (fun heq => ?_) t1
      · refine rt_run 5 rfl ?_
        refine rt_st K.length rfl (n := 401) rfl (by omega) ?_ t1
        refine rt_run 7 rfl ?_
        refine rt_iret rfl rfl (h2 hn (by omega) _ (((OfM.rf _ _ τ).sI (by simp) _ _).sF (by simp) _) rfl ⟨?_, ?_, ?_, ?_, ?_⟩)
        · rw [gF_sF, if_pos rfl, pk_us]
          show gF τ 63 29 + 1 = _
          rw [t1, ← nI_succ, List.length_append]
          rfl
        · rw [List.length_append, List.length_singleton]; omega
        · intro y hy
          rcases List.mem_append.mp hy with hy | hy
          · exact t3 y hy
          · simp at hy; subst hy; exact hc
        · have := addK_nd (x := c) t4
          unfold addK at this
          rw [if_neg hn] at this
          exact this
        · intro i y hy
          rw [gI_sF, gI_sI, if_pos rfl]
          rcases getApp hy with ⟨hi, hy⟩ | ⟨rfl, rfl⟩
          · rw [pk_un (by omega)]; exact t5 i y hy
          · rw [pk_us]
      · refine rt_run 1 rfl ?_
        exact rt_iret rfl rfl (h3 hn heq)
    | succ d ih =>
      intro k hk hno
      have hlt : k < K.length := by omega
      have hq : K[k]? = some K[k] := List.getElem?_eq_getElem hlt
      refine rt_run 3 rfl ?_
      refine rt_ge k K.length rfl (by omega) (by omega) (fun _ => by omega) (fun _ => ?_) rfl t1
      refine rt_run 3 rfl ?_
      refine rt_ld k rfl (n := 401) rfl (by omega) ?_
      rw [t5 k _ hq]
      refine rt_run 1 rfl ?_
      refine rt_ic_eq rfl (fun e => ?_) (fun e => ?_)
      · have e := mc_inj (t3 _ (List.getElem_mem hlt)) hc e
        rw [e] at hq
        refine rt_run 3 rfl ?_
        refine rt_ge k K.length rfl (by omega) (by omega) (fun _ => by omega) (fun _ => ?_) rfl t1
        refine rt_run 1 rfl ?_
        exact rt_iret rfl rfl (h1 k hq)
      · refine rt_run 2 rfl ?_
        rw [← nI_succ]
        refine ih (k + 1) (by omega) (fun j hj => ?_)
        by_cases hjk : j = k
        · subst hjk
          rw [hq]
          intro g
          cases g
          exact e rfl
        · exact hno j (by omega)
  refine rt_run 2 rfl ?_
  exact loop K.length 0 (by omega) (fun j hj => by omega)
theorem mTurns_spec {v s sg m c : Nat} {K : List Nat} {T : WF} (hx : x < 4) (hv : v < 10) (hsg : sg < 8) (hE : MEx τ x A) (hT : MTl τ K) (hN : TmAt τ 85 K T) (hW : WFok K T) (hs : K[s]? = some c) (hm : m ≤ CM)
    (h1 : ∀ KT' τ', push1 (nx A c sg, v, m) (K, T) = some KT' → OfM [82, 85] [29] τ τ' → MTl τ' KT'.1 → TmAt τ' 85 KT'.1 KT'.2 → WFok KT'.1 KT'.2 → Q (some (.int 1)) τ') (h0 : push1 (nx A c sg, v, m) (K, T) = none → Q (some (.int 0)) τ) :
    RT mX11_turns none 0 [some (.ref 63), some (.int (nI x)), some (.int (nI v)), some (.int (nI s)), some (.int (nI sg)), some (.long (lN m)), none, none, none, none] [] τ Q := by
  have hsl := (List.getElem?_eq_some_iff.mp hs).1
  have hCM : CM = 1000000001 := rfl
  have hlen := hT.2.1
  have hc := hT.2.2.1 c (List.mem_of_getElem? hs)
  -- the sum goes to its place
  have put : ∀ t K' τ', (∀ y, K'[t]? = some y → y = nx A c sg) → K'[t]? = some (nx A c sg) → (nx A c sg ∈ K ∨ K.length < 400) → addK K (nx A c sg) = K' → MTl τ' K' → TmAt τ' 85 K' T → OfM [82, 85] [29] τ τ' →
      RT mX11_turns none 17 [some (.ref 63), some (.int (nI x)), some (.int (nI v)), some (.int (nI s)), some (.int (nI sg)), some (.long (lN m)), none, none, none, none] [.int (nI t)] τ' Q := by
    intro t K' τ' _ ht hok hK' hT' hN' hO
    have htl := (List.getElem?_eq_some_iff.mp ht).1
    have hl' := hT'.2.1
    have hold := hN'.1 t _ ht v hv
    have hb := hW.1 (nx A c sg) v
    have hpush : push1 (nx A c sg, v, m) (K, T) = some (K', updT T (nx A c sg) v (min CM (T (nx A c sg) v + m))) := by
      unfold push1
      dsimp only
      rw [if_pos hok, hK']
    have fin : ∀ y : Int64, y = lN (min CM (T (nx A c sg) v + m)) → RT mX11_turns none 73 [some (.ref 63), some (.int (nI x)), some (.int (nI v)), some (.int (nI s)), some (.int (nI sg)), some (.long (lN m)), none, some (.int (nI t)), some (.long (lN (T (nx A c sg) v + m))), none] [.long y, .int ((400 : Int32) * nI v + nI t), .ref 85] τ' Q := by
      intro y hy
      refine rt_stL (400 * v + t) rfl (n := 4000) rfl (by omega) ?_ (by rw [show (400 : Int32) = nI 400 from rfl, pk_mul, nI_add])
      refine rt_run 1 rfl ?_
      refine rt_zret rfl rfl (Or.inr rfl) (h1 _ _ hpush (hO.sL (by simp) _ _) hT' ⟨fun s' c' hs' w hw => ?_, fun s' h1' h2' w hw => ?_⟩ ⟨fun c' w => ?_, fun c' w hc' => ?_⟩)
      · rw [gL_sL, if_pos rfl]
        have hs'l : s' < K'.length := (List.getElem?_eq_some_iff.mp hs').1
        show vp_updL (gL τ' 85) (400 * v + t) y (400 * w + s') = lN (if c' = nx A c sg ∧ w = v then min CM (T (nx A c sg) v + m) else T c' w)
        by_cases he : c' = nx A c sg ∧ w = v
        · have : s' = t := nodup_ix hT'.2.2.2.1 hs' (by rw [he.1]; exact ht)
          rw [if_pos he, this, he.2, pk_uLs, hy]
        · rw [if_neg he, pk_uLn, hN'.1 s' c' hs' w hw]
          intro e
          have h2 : w = v := by omega
          have h3 : s' = t := by omega
          subst h3
          rw [ht] at hs'
          cases hs'
          exact he ⟨rfl, h2⟩
      · have h1' : K'.length ≤ s' := h1'
        rw [gL_sL, if_pos rfl, pk_uLn, hN'.2 s' h1' h2' w hw]
        omega
      · show (if c' = nx A c sg ∧ w = v then min CM (T (nx A c sg) v + m) else T c' w) ≤ CM
        split
        · exact Nat.min_le_left _ _
        · exact hW.1 c' w
      · show (if c' = nx A c sg ∧ w = v then min CM (T (nx A c sg) v + m) else T c' w) = 0
        have hc' : c' ∉ K' := hc'
        rw [if_neg (fun e => hc' (by rw [e.1]; exact List.mem_of_getElem? ht))]
        refine hW.2 c' w (fun e => hc' ?_)
        rw [← hK', addK_mem]
        exact Or.inl e
    refine rt_run 2 rfl ?_
    refine rt_if_ge rfl (fun _ => ?_) (fun hc => absurd (nI_pos' (by omega)) hc)
    refine rt_run 7 rfl ?_
    refine rt_ldL (400 * v + t) rfl (n := 4000) rfl (by omega) ?_ (by rw [show (400 : Int32) = nI 400 from rfl, pk_mul, nI_add])
    rw [hold]
    refine rt_run 13 rfl ?_
    rw [lN_add]
    refine rt_if_le rfl (fun hle => ?_) (fun hle => ?_)
    · have hle : T (nx A c sg) v + m ≤ 1000000000 := (lN_le (by omega) (by decide)).mp ((lg_cmp_le _ _).mp hle)
      refine rt_run 1 rfl ?_
      exact fin _ (by congr 1; omega)
    · have hgt : ¬ T (nx A c sg) v + m ≤ 1000000000 := fun g => hle ((lg_cmp_le _ _).mpr ((lN_le (by omega) (by decide)).mpr g))
      refine rt_run 2 rfl ?_
      refine fin _ ?_
      rw [show min CM (T (nx A c sg) v + m) = 1000000001 by omega]
      rfl
  refine rt_run 6 rfl ?_
  refine rt_ld s rfl (n := 401) rfl (by omega) ?_
  rw [hT.2.2.2.2 s c hs]
  refine rt_run 1 rfl ?_
  refine rt_cV (ci := 11) mX11_goes kX11_turns_11 okX11_goes rfl rfl rfl rfl rfl ?_
  refine goes_specN hx hsg hE hc ?_
  refine rt_cV (ci := 11) mX11_numberOf kX11_turns_14 okX11_numberOf rfl rfl rfl rfl rfl ?_
  refine mNumberOf_spec hT (nx_lt _ _ _) (fun t ht => ?_) (fun hn hl τ' hO hgL hT' => ?_) (fun hn hl => ?_)
  · refine put t K τ (fun y hy => by rw [ht] at hy; cases hy; rfl) ht (Or.inl (List.mem_of_getElem? ht)) ?_ hT hN (OfM.rf _ _ _)
    unfold addK
    rw [if_pos (List.mem_of_getElem? ht)]
  · have hget : (K ++ [nx A c sg])[K.length]? = some (nx A c sg) := by rw [List.getElem?_append_right (Nat.le_refl _), Nat.sub_self]; rfl
    refine put K.length (K ++ [nx A c sg]) τ' (fun y hy => by rw [hget] at hy; cases hy; rfl) hget (Or.inr hl) ?_ hT' ⟨fun s' c' hs' w hw => ?_, fun s' h1' h2' w hw => ?_⟩ (hO.up (by simp) (by simp))
    · unfold addK
      rw [if_neg hn]
    · rw [hgL]
      rcases getApp hs' with ⟨hi, hy⟩ | ⟨rfl, rfl⟩
      · exact hN.1 s' c' hy w hw
      · rw [hN.2 _ (Nat.le_refl _) hl w hw, hW.2 _ _ hn]
        rfl
    · rw [hgL]
      rw [List.length_append, List.length_singleton] at h1'
      exact hN.2 s' (by omega) h2' w hw
  · refine rt_run 2 rfl ?_
    refine rt_if_ge rfl (fun hc => absurd hc (by decide)) (fun _ => ?_)
    refine rt_run 1 rfl ?_
    refine rt_zret rfl rfl (Or.inl rfl) (h0 ?_)
    unfold push1
    rw [if_neg]
    rintro (g | g)
    · exact hn g
    · exact absurd g (by show ¬ K.length < 400; omega)
end MdWays

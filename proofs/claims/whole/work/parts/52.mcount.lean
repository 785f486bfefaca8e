/-! the reference's steps, ways, words, count -/
/-- behind some pushes -/
def SIv (τ τ' : Ty) (K : List Nat) (cur : List Pu) (Kc : List Nat) (Tc : WF) : Prop := OfM [82, 85] [29] τ τ' ∧ pushL cur (K, fun _ _ => 0) = some (Kc, Tc) ∧ MTl τ' Kc ∧ TmAt τ' 85 Kc Tc ∧ WFok Kc Tc ∧ ∀ s c : Nat, K[s]? = some c → Kc[s]? = some c
section MdSteps
variable {τ : Ty} {Q : Option Value → Ty → Prop} {A : AE} {x : Nat} {G : Gr} {K : List Nat} {W : WF}
theorem one_push {τ' : Ty} {cur : List Pu} {Kc : List Nat} {Tc : WF} {v s sg m c : Nat} (hx : x < 4) (hv : v < 10) (hsg : sg < 8) (hE : MEx τ x A) (hI : SIv τ τ' K cur Kc Tc) (hs : K[s]? = some c) (hm : m ≤ CM)
    (h1 : ∀ τ2 K2 T2, SIv τ τ2 K (cur ++ [(nx A c sg, v, m)]) K2 T2 → Q (some (.int 1)) τ2) (h0 : pushL (cur ++ [(nx A c sg, v, m)]) (K, fun _ _ => 0) = none → Q (some (.int 0)) τ') :
    RT mX11_turns none 0 [some (.ref 63), some (.int (nI x)), some (.int (nI v)), some (.int (nI s)), some (.int (nI sg)), some (.long (lN m)), none, none, none, none] [] τ' Q := by
  obtain ⟨i1, i2, i3, i4, i5, i6⟩ := hI
  refine mTurns_spec hx hv hsg (hE.of i1 (by decide)) i3 i4 i5 (i6 s c hs) hm (fun KT' τ2 hp hO hT hN hW => ?_) (fun hp => ?_)
  · refine h1 τ2 KT'.1 KT'.2 ⟨i1.tr hO, by rw [pushL_one i2]; exact hp, hT, hN, hW, fun s' c' hs' => ?_⟩
    unfold push1 at hp
    split at hp
    · cases hp
      exact addK_at (i6 s' c' hs')
    · cases hp
  · exact h0 (by rw [pushL_one i2]; exact hp)
theorem lpos {m : Nat} (hm : m ≤ CM) : (lg_cmp (lN m) 0 ≤ 0) ↔ m = 0 := by
  have hCM : CM = 1000000001 := rfl
  rw [lg_cmp_le, show (0 : Int64) = lN 0 from rfl, lN_le (by omega) (by decide)]
  omega
set_option maxRecDepth 20000 in
theorem mSteps_spec {P : Nat → List (Nat × Nat)} (wd : Bool) (hP : P = if wd = true then Pw else Pg G) (hx : x < 4) (hG : MEd τ G) (hE : MEx τ x A) (hT : MTl τ K) (hN : TmAt τ 84 K W) (hW : WFok K W)
    (h1 : ∀ KT' τ', pushL (pml A P K W) (K, fun _ _ => 0) = some KT' → OfM [82, 84, 85] [29] τ τ' → MTl τ' KT'.1 → TmAt τ' 84 KT'.1 KT'.2 → WFok KT'.1 KT'.2 → Q (some (.int 1)) τ')
    (h0 : pushL (pml A P K W) (K, fun _ _ => 0) = none → ∀ τ', OfM [82, 84, 85] [29] τ τ' → Q (some (.int 0)) τ') :
    RT mX11_steps none 0 [some (.ref 63), some (.int (nI x)), some (.int (b01 wd)), none, none, none, none, none, none] [] τ Q := by
  have hlen := hT.2.1
  have hG30 := hG.2.2.1
  -- the new ways become the ways
  have copy : ∀ τ1 Kc Tc (l5 l6 l7 l8 : Option Value), SIv τ τ1 K (pml A P K W) Kc Tc → ∀ d k τ', k + d = 4000 → OfM [82, 84, 85] [29] τ τ' → gL τ' 85 = gL τ1 85 → gI τ' = gI τ1 → gF τ' = gF τ1 → (∀ j, j < k → gL τ' 84 j = gL τ1 85 j) →
      RT mX11_steps none 230 [some (.ref 63), some (.int (nI x)), some (.int (b01 wd)), some (.int (nI K.length)), some (.int (nI k)), l5, l6, l7, l8] [] τ' Q := by
    intro τ1 Kc Tc l5 l6 l7 l8 hI d
    obtain ⟨i1, i2, i3, i4, i5, i6⟩ := hI
    induction d with
    | zero =>
      intro k τ' hk hO e1 e2 e3 hc
      refine rt_run 3 rfl ?_
      refine rt_alenL rfl (n := 4000) rfl ?_
      refine rt_ge k 4000 rfl (by omega) (by omega) (fun _ => ?_) (fun _ => by omega)
      refine rt_run 1 rfl ?_
      refine rt_zret rfl rfl (Or.inr rfl) (h1 (Kc, Tc) τ' i2 hO ?_ ⟨fun s c hs w hw => ?_, fun s hs1 hs2 w hw => ?_⟩ i5)
      · unfold MTl at *
        rw [e2, e3]
        exact i3
      · have hs := hs
        have hsl : s < Kc.length := (List.getElem?_eq_some_iff.mp hs).1
        have := i3.2.1
        rw [hc _ (by omega)]
        exact i4.1 s c hs w hw
      · rw [hc _ (by omega)]
        exact i4.2 s hs1 hs2 w hw
    | succ d ih =>
      intro k τ' hk hO e1 e2 e3 hc
      refine rt_run 3 rfl ?_
      refine rt_alenL rfl (n := 4000) rfl ?_
      refine rt_ge k 4000 rfl (by omega) (by omega) (fun _ => by omega) (fun _ => ?_)
      refine rt_run 6 rfl ?_
      refine rt_ldL k rfl (n := 4000) rfl (by omega) ?_
      refine rt_stL k rfl (n := 4000) rfl (by omega) ?_
      refine rt_run 2 rfl ?_
      rw [← nI_succ]
      refine ih (k + 1) _ (by omega) (hO.sL (by simp) _ _) ?_ e2 e3 (fun j hj => ?_)
      · rw [gL_sL, if_neg (by decide)]; exact e1
      · rw [gL_sL, if_pos rfl]
        by_cases hjk : j = k
        · subst hjk; rw [pk_uLs, e1]
        · rw [pk_uLn hjk]; exact hc j (by omega)
  have up3 : ∀ τ', OfM [82, 85] [29] τ τ' → OfM [82, 84, 85] [29] τ τ' := fun τ' h => h.up (by simp) (by simp)
  -- one state at one vertex
  have stt : ∀ v s c cur, v < 10 → K[s]? = some c → (∃ r, pml A P K W = cur ++ (pmv A P W v c ++ r)) → (∀ τ2 K2 T2 (z8 : Int32), SIv τ τ2 K (cur ++ pmv A P W v c) K2 T2 → RT mX11_steps none 215 [some (.ref 63), some (.int (nI x)), some (.int (b01 wd)), some (.int (nI K.length)), some (.int (nI v)), some (.int (nI s)), some (.long (lN (W c v))), none, some (.int z8)] [] τ2 Q) →
      ∀ τ' Kc Tc, SIv τ τ' K cur Kc Tc → RT mX11_steps none 70 [some (.ref 63), some (.int (nI x)), some (.int (b01 wd)), some (.int (nI K.length)), some (.int (nI v)), some (.int (nI s)), some (.long (lN (W c v))), none, some (.int 0)] [] τ' Q := by
    intro v s c cur hv hs hpre hgo τ' Kc Tc hI
    obtain ⟨r, hr⟩ := hpre
    have hm := hW.1 c v
    have fail : ∀ n, pushL (cur ++ ((pmv A P W v c).take n)) (K, fun _ _ => 0) = none → pushL (pml A P K W) (K, fun _ _ => 0) = none := by
      intro n hn
      rw [hr, ← List.take_append_drop n (pmv A P W v c), List.append_assoc, ← List.append_assoc]
      exact pushL_cut hn
    -- without ways
    by_cases hz : W c v = 0
    · have epm : pmv A P W v c = [] := by unfold pmv; rw [if_pos hz]
      rw [epm, List.append_nil] at hgo
      have edges0 : RT mX11_steps none 112 [some (.ref 63), some (.int (nI x)), some (.int (b01 wd)), some (.int (nI K.length)), some (.int (nI v)), some (.int (nI s)), some (.long (lN (W c v))), none, some (.int 0)] [] τ' Q := by
        have hG' := hG.of hI.1 (by decide)
        refine rt_run 2 rfl ?_
        refine rt_run 3 rfl ?_
        refine rt_ge 0 G.length rfl (by omega) (by omega) (fun _ => hgo τ' Kc Tc _ hI) (fun _ => ?_) rfl hG'.1
        refine rt_run 1 rfl ?_
        refine rt_if_ne rfl (fun _ => hgo τ' Kc Tc _ hI) (fun _ => ?_)
        refine rt_run 3 rfl ?_
        refine rt_if_le rfl (fun _ => hgo τ' Kc Tc _ hI) (fun hc => absurd ((lpos hm).mpr hz) hc)
      refine rt_run 2 rfl ?_
      refine rt_ge 0 8 rfl (by omega) (by omega) (fun _ => by omega) (fun _ => ?_)
      refine rt_run 1 rfl ?_
      refine rt_if_eq rfl (fun _ => edges0) (fun _ => ?_)
      refine rt_run 3 rfl ?_
      refine rt_if_le rfl (fun _ => edges0) (fun hc => absurd ((lpos hm).mpr hz) hc)
    have epm : pmv A P W v c = (P v).map (fun st => (nx A c st.1, st.2, W c v)) := by unfold pmv; rw [if_neg hz]
    have hnz : ¬ lg_cmp (lN (W c v)) 0 ≤ 0 := fun hc => hz ((lpos hm).mp hc)
    cases wd with
    | true =>
      rw [if_pos rfl] at hP
      subst hP
      have hlast : ∀ τ2 K2 T2 (z8 : Int32), SIv τ τ2 K (cur ++ pmv A Pw W v c) K2 T2 → RT mX11_steps none 112 [some (.ref 63), some (.int (nI x)), some (.int (b01 true)), some (.int (nI K.length)), some (.int (nI v)), some (.int (nI s)), some (.long (lN (W c v))), none, some (.int z8)] [] τ2 Q := by
        intro τ2 K2 T2 z8 hI2
        have hG' := hG.of hI2.1 (by decide)
        refine rt_run 2 rfl ?_
        refine rt_run 3 rfl ?_
        refine rt_ge 0 G.length rfl (by omega) (by omega) (fun _ => hgo τ2 K2 T2 _ hI2) (fun _ => ?_) rfl hG'.1
        refine rt_run 1 rfl ?_
        exact rt_if_ne rfl (fun _ => hgo τ2 K2 T2 _ hI2) (fun hc => absurd hc (by decide))
      have etk : ∀ sg, sg < 8 → (pmv A Pw W v c).take (sg + 1) = (pmv A Pw W v c).take sg ++ [(nx A c sg, v, W c v)] := by
        intro sg hsg
        rw [List.take_add_one, epm]
        congr 1
        unfold Pw
        rw [List.getElem?_map, List.getElem?_map, List.getElem?_range hsg]
        rfl
      have loop : ∀ d sg τ' Kc Tc, sg + d = 8 → SIv τ τ' K (cur ++ (pmv A Pw W v c).take sg) Kc Tc → RT mX11_steps none 70 [some (.ref 63), some (.int (nI x)), some (.int (b01 true)), some (.int (nI K.length)), some (.int (nI v)), some (.int (nI s)), some (.long (lN (W c v))), none, some (.int (nI sg))] [] τ' Q := by
        intro d
        induction d with
        | zero =>
          intro sg τ' Kc Tc hsg hI
          have : sg = 8 := by omega
          subst this
          refine rt_run 2 rfl ?_
          refine rt_ge 8 8 rfl (by omega) (by omega) (fun _ => ?_) (fun _ => by omega)
          refine hlast τ' Kc Tc _ ?_
          rw [List.take_of_length_le (by rw [epm]; unfold Pw; simp)] at hI
          exact hI
        | succ d ih =>
          intro sg τ' Kc Tc hsg hI
          refine rt_run 2 rfl ?_
          refine rt_ge sg 8 rfl (by omega) (by omega) (fun _ => by omega) (fun _ => ?_)
          refine rt_run 1 rfl ?_
          refine rt_if_eq rfl (fun hc => absurd hc (by decide)) (fun _ => ?_)
          refine rt_run 3 rfl ?_
          refine rt_if_le rfl (fun hc => absurd hc hnz) (fun _ => ?_)
          refine rt_run 6 rfl ?_
          refine rt_cV (ci := 11) mX11_turns kX11_steps_98 okX11_turns rfl rfl rfl rfl rfl ?_
          refine one_push hx hv (by omega) hE hI hs hm (fun τ2 K2 T2 hI2 => ?_) (fun hn => ?_)
          · refine rt_if_ne rfl (fun _ => ?_) (fun hc => absurd hc (by decide))
            refine rt_run 2 rfl ?_
            rw [← nI_succ]
            refine ih (sg + 1) τ2 K2 T2 (by omega) ?_
            rw [etk sg (by omega), ← List.append_assoc]
            exact hI2
          · refine rt_if_ne rfl (fun hc => absurd rfl hc) (fun _ => ?_)
            refine rt_run 1 rfl ?_
            refine rt_zret rfl rfl (Or.inl rfl) (h0 (fail (sg + 1) ?_) τ' (up3 _ hI.1))
            rw [etk sg (by omega), ← List.append_assoc]
            exact hn
      exact loop 8 0 τ' Kc Tc rfl (by rw [List.take_zero, List.append_nil]; exact hI)
    | false =>
      rw [if_neg (by decide)] at hP
      subst hP
      have g0 : ∀ e q, G[e]? = some q → ((G.take (e + 1)).flatMap (pge v)) = ((G.take e).flatMap (pge v)) ++ pge v q := by
        intro e q hq
        rw [List.take_add_one, hq, List.flatMap_append]
        simp
      have gall : Pg G v = (G.take G.length).flatMap (pge v) := by rw [List.take_length]; rfl
      have gpre : ∀ e, ∃ r, pmv A (Pg G) W v c = ((G.take e).flatMap (pge v)).map (fun st => (nx A c st.1, st.2, W c v)) ++ r := by
        intro e
        refine ⟨((G.drop e).flatMap (pge v)).map (fun st => (nx A c st.1, st.2, W c v)), ?_⟩
        rw [epm, ← List.map_append, ← List.flatMap_append, List.take_append_drop]
        rfl
      have fail2 : ∀ e q l, G[e]? = some q → (∃ l', pge v q = l ++ l') → pushL (cur ++ (((G.take e).flatMap (pge v)).map (fun st => (nx A c st.1, st.2, W c v)) ++ l.map (fun st => (nx A c st.1, st.2, W c v)))) (K, fun _ _ => 0) = none → pushL (pml A (Pg G) K W) (K, fun _ _ => 0) = none := by
        rintro e q l hq ⟨l', hl'⟩ hn
        obtain ⟨r', hr'⟩ := gpre (e + 1)
        rw [hr, hr', g0 e q hq, hl', List.map_append, List.map_append]
        have := pushL_cut (rest := l'.map (fun st => (nx A c st.1, st.2, W c v)) ++ r' ++ r) hn
        simp only [List.append_assoc] at this ⊢
        exact this
      have loop : ∀ d e τ' Kc Tc, e + d = G.length → SIv τ τ' K (cur ++ ((G.take e).flatMap (pge v)).map (fun st => (nx A c st.1, st.2, W c v))) Kc Tc → RT mX11_steps none 115 [some (.ref 63), some (.int (nI x)), some (.int (b01 false)), some (.int (nI K.length)), some (.int (nI v)), some (.int (nI s)), some (.long (lN (W c v))), none, some (.int (nI e))] [] τ' Q := by
        intro d
        induction d with
        | zero =>
          intro e τ' Kc Tc he hI
          have : e = G.length := by omega
          subst this
          have hG' := hG.of hI.1 (by decide)
          refine rt_run 3 rfl ?_
          refine rt_ge G.length G.length rfl (by omega) (by omega) (fun _ => ?_) (fun _ => by omega) rfl hG'.1
          refine hgo τ' Kc Tc _ ?_
          rw [epm, gall]
          exact hI
        | succ d ih =>
          intro e τ' Kc Tc he hI
          have hG' := hG.of hI.1 (by decide)
          have hlt : e < G.length := by omega
          have hq : G[e]? = some G[e] := List.getElem?_eq_getElem hlt
          obtain ⟨b1, b2, b3⟩ := hG.2.2.2 _ (List.getElem_mem hlt)
          generalize G[e] = q at hq b1 b2 b3
          refine rt_run 3 rfl ?_
          refine rt_ge e G.length rfl (by omega) (by omega) (fun _ => by omega) (fun _ => ?_) rfl hG'.1
          refine rt_run 1 rfl ?_
          refine rt_if_ne rfl (fun hc => absurd rfl hc) (fun _ => ?_)
          refine rt_run 3 rfl ?_
          refine rt_if_le rfl (fun hc => absurd hc hnz) (fun _ => ?_)
          -- too many
          have bad : ∀ τ2, OfM [82, 85] [29] τ τ2 → pushL (pml A (Pg G) K W) (K, fun _ _ => 0) = none → RT mX11_steps none 207 [some (.ref 63), some (.int (nI x)), some (.int (b01 false)), some (.int (nI K.length)), some (.int (nI v)), some (.int (nI s)), some (.long (lN (W c v))), none, some (.int (nI e))] [] τ2 Q := by
            intro τ2 hO2 hn
            refine rt_run 1 rfl ?_
            exact rt_zret rfl rfl (Or.inl rfl) (h0 hn τ2 (up3 _ hO2))
          -- the way back
          have back : ∀ τ2 K2 T2, SIv τ τ2 K (cur ++ (((G.take e).flatMap (pge v)).map (fun st => (nx A c st.1, st.2, W c v)) ++ (if q.1 = v then [(q.2.1, q.2.2)] else []).map (fun st => (nx A c st.1, st.2, W c v)))) K2 T2 → RT mX11_steps none 170 [some (.ref 63), some (.int (nI x)), some (.int (b01 false)), some (.int (nI K.length)), some (.int (nI v)), some (.int (nI s)), some (.long (lN (W c v))), none, some (.int (nI e))] [] τ2 Q := by
            intro τ2 K2 T2 hI2
            have hG2 := hG.of hI2.1 (by decide)
            have nxt9 : ∀ τ3 K3 T3, SIv τ τ3 K (cur ++ ((G.take (e + 1)).flatMap (pge v)).map (fun st => (nx A c st.1, st.2, W c v))) K3 T3 → RT mX11_steps none 209 [some (.ref 63), some (.int (nI x)), some (.int (b01 false)), some (.int (nI K.length)), some (.int (nI v)), some (.int (nI s)), some (.long (lN (W c v))), none, some (.int (nI e))] [] τ3 Q := by
              intro τ3 K3 T3 hI3
              refine rt_run 2 rfl ?_
              rw [← nI_succ]
              exact ih (e + 1) τ3 K3 T3 (by omega) hI3
            rw [g0 e q hq] at nxt9
            refine rt_run 2 rfl ?_
            refine rt_cV (ci := 11) mX11_toOf kX11_steps_173 okX11_toOf rfl rfl rfl rfl rfl ?_
            refine toOf_spec hG2 hlt (fun q' eq => ?_)
            rw [hq] at eq
            cases eq
            refine rt_run 1 rfl ?_
            refine rt_ne q.2.2 v rfl (by omega) (by omega) (fun hne => ?_) (fun heq => ?_)
            · refine nxt9 τ2 K2 T2 ?_
              unfold pge
              rw [if_neg hne, List.append_nil, List.map_append]
              exact hI2
            · refine rt_run 4 rfl ?_
              refine rt_cV (ci := 11) mX11_fromOf kX11_steps_186 okX11_fromOf rfl rfl rfl rfl rfl ?_
              refine fromOf_spec hG2 hlt (fun q' eq => ?_)
              rw [hq] at eq
              cases eq
              refine rt_run 3 rfl ?_
              refine rt_cV (ci := 11) mX11_letterOf kX11_steps_194 okX11_letterOf rfl rfl rfl rfl rfl ?_
              refine letterOf_spec hG2 hlt (fun q' eq => ?_)
              rw [hq] at eq
              cases eq
              refine rt_run 3 rfl ?_
              rw [show nI q.2.1 + 4 = nI (q.2.1 + 4) by rw [← nI_add]; rfl]
              refine rt_cV (ci := 11) mX11_turns kX11_steps_201 okX11_turns rfl rfl rfl rfl rfl ?_
              refine one_push hx b1 (by omega) hE hI2 hs hm (fun τ3 K3 T3 hI3 => ?_) (fun hn => ?_)
              · refine rt_if_ne rfl (fun _ => ?_) (fun hc => absurd hc (by decide))
                refine nxt9 τ3 K3 T3 ?_
                unfold pge
                rw [if_pos heq, List.map_append, List.map_append]
                simp only [List.append_assoc] at hI3 ⊢
                exact hI3
              · refine rt_if_ne rfl (fun hc => absurd rfl hc) (fun _ => bad τ2 hI2.1 ?_)
                refine fail2 e q (pge v q) hq ⟨[], by simp⟩ ?_
                unfold pge
                rw [if_pos heq, List.map_append]
                simp only [List.append_assoc] at hn ⊢
                exact hn
          refine rt_run 2 rfl ?_
          refine rt_cV (ci := 11) mX11_fromOf kX11_steps_138 okX11_fromOf rfl rfl rfl rfl rfl ?_
          refine fromOf_spec hG' hlt (fun q' eq => ?_)
          rw [hq] at eq
          cases eq
          refine rt_run 1 rfl ?_
          refine rt_ne q.1 v rfl (by omega) (by omega) (fun hne => ?_) (fun heq => ?_)
          · refine back τ' Kc Tc ?_
            rw [if_neg hne, List.map_nil, List.append_nil]
            exact hI
          · refine rt_run 4 rfl ?_
            refine rt_cV (ci := 11) mX11_toOf kX11_steps_151 okX11_toOf rfl rfl rfl rfl rfl ?_
            refine toOf_spec hG' hlt (fun q' eq => ?_)
            rw [hq] at eq
            cases eq
            refine rt_run 3 rfl ?_
            refine rt_cV (ci := 11) mX11_letterOf kX11_steps_159 okX11_letterOf rfl rfl rfl rfl rfl ?_
            refine letterOf_spec hG' hlt (fun q' eq => ?_)
            rw [hq] at eq
            cases eq
            refine rt_run 1 rfl ?_
            refine rt_cV (ci := 11) mX11_turns kX11_steps_164 okX11_turns rfl rfl rfl rfl rfl ?_
            refine one_push hx b3 (by omega) hE hI hs hm (fun τ3 K3 T3 hI3 => ?_) (fun hn => ?_)
            · refine rt_if_eq rfl (fun hc => absurd hc (by decide)) (fun _ => ?_)
              refine back τ3 K3 T3 ?_
              rw [if_pos heq, ← List.append_assoc]
              exact hI3
            · refine rt_if_eq rfl (fun _ => bad τ' hI.1 ?_) (fun hc => absurd rfl hc)
              refine fail2 e q [(q.2.1, q.2.2)] hq ⟨(if q.2.2 = v then [(q.2.1 + 4, q.1)] else []), by unfold pge; rw [if_pos heq]⟩ ?_
              rw [← List.append_assoc]
              exact hn
      refine rt_run 2 rfl ?_
      refine rt_ge 0 8 rfl (by omega) (by omega) (fun _ => by omega) (fun _ => ?_)
      refine rt_run 1 rfl ?_
      refine rt_if_eq rfl (fun _ => ?_) (fun hc => absurd rfl hc)
      refine rt_run 2 rfl ?_
      refine loop G.length 0 τ' Kc Tc (by omega) ?_
      rw [List.take_zero, List.flatMap_nil, List.map_nil, List.append_nil]
      exact hI
  -- all states at one vertex
  have vert : ∀ v, v < 10 → (∀ τ2 K2 T2 (z5 : Int32) l6 l7 l8, SIv τ τ2 K ((List.range (v + 1)).flatMap (fun v => K.flatMap (pmv A P W v))) K2 T2 → RT mX11_steps none 221 [some (.ref 63), some (.int (nI x)), some (.int (b01 wd)), some (.int (nI K.length)), some (.int (nI v)), some (.int z5), l6, l7, l8] [] τ2 Q) →
      ∀ d s τ' Kc Tc l6 l7 l8, s + d = K.length → SIv τ τ' K ((List.range v).flatMap (fun v => K.flatMap (pmv A P W v)) ++ (K.take s).flatMap (pmv A P W v)) Kc Tc → RT mX11_steps none 45 [some (.ref 63), some (.int (nI x)), some (.int (b01 wd)), some (.int (nI K.length)), some (.int (nI v)), some (.int (nI s)), l6, l7, l8] [] τ' Q := by
    intro v hv hgo d
    induction d with
    | zero =>
      intro s τ' Kc Tc l6 l7 l8 hs hI
      have : s = K.length := by omega
      subst this
      refine rt_run 2 rfl ?_
      refine rt_ge K.length K.length rfl (by omega) (by omega) (fun _ => ?_) (fun _ => by omega)
      refine hgo τ' Kc Tc _ _ _ _ ?_
      rw [List.take_length] at hI
      rw [List.range_succ, List.flatMap_append]
      simpa using hI
    | succ d ih =>
      intro s τ' Kc Tc l6 l7 l8 hs hI
      have hlt : s < K.length := by omega
      have hq : K[s]? = some K[s] := List.getElem?_eq_getElem hlt
      generalize K[s] = c at hq
      refine rt_run 2 rfl ?_
      refine rt_ge s K.length rfl (by omega) (by omega) (fun _ => by omega) (fun _ => ?_)
      refine rt_run 7 rfl ?_
      refine rt_ldL (400 * v + s) rfl (n := 4000) rfl (by omega) ?_ (by rw [show (400 : Int32) = nI 400 from rfl, pk_mul, nI_add])
      rw [(hI.1.1 84 (by decide)).2, hN.1 s c hq v hv]
      refine rt_run 3 rfl ?_
      refine stt v s c _ hv hq ?_ (fun τ2 K2 T2 z8 hI2 => ?_) τ' Kc Tc hI
      · obtain ⟨r1, e1⟩ := fm_pre (fun v => K.flatMap (pmv A P W v)) (l := List.range 10) (i := v) (x := v) (by rw [List.getElem?_range hv])
        obtain ⟨r2, e2⟩ := fm_pre (pmv A P W v) hq
        refine ⟨r2 ++ r1, ?_⟩
        unfold pml
        rw [e1, e2, List.take_range, show min v 10 = v by omega]
        simp only [List.append_assoc]
      · refine rt_run 2 rfl ?_
        rw [← nI_succ]
        refine ih (s + 1) τ2 K2 T2 _ _ _ (by omega) ?_
        rw [List.take_add_one, hq, List.flatMap_append, ← List.append_assoc]
        simpa using hI2
  have verts : ∀ d v τ' Kc Tc (l5 l6 l7 l8 : Option Value), v + d = 10 → SIv τ τ' K ((List.range v).flatMap (fun v => K.flatMap (pmv A P W v))) Kc Tc → RT mX11_steps none 35 [some (.ref 63), some (.int (nI x)), some (.int (b01 wd)), some (.int (nI K.length)), some (.int (nI v)), l5, l6, l7, l8] [] τ' Q := by
    intro d
    induction d with
    | zero =>
      intro v τ' Kc Tc l5 l6 l7 l8 hv hI
      have : v = 10 := by omega
      subst this
      refine rt_run 2 rfl ?_
      refine rt_ge 10 10 rfl (by omega) (by omega) (fun _ => ?_) (fun _ => by omega)
      refine rt_run 2 rfl ?_
      exact copy τ' Kc Tc _ _ _ _ hI 4000 0 τ' (by omega) (up3 _ hI.1) rfl rfl rfl (fun j hj => by omega)
    | succ d ih =>
      intro v τ' Kc Tc l5 l6 l7 l8 hv hI
      refine rt_run 2 rfl ?_
      refine rt_ge v 10 rfl (by omega) (by omega) (fun _ => by omega) (fun _ => ?_)
      refine rt_run 2 rfl ?_
      refine vert v (by omega) (fun τ2 K2 T2 z5 m6 m7 m8 hI2 => ?_) K.length 0 τ' Kc Tc _ _ _ (by omega) ?_
      · refine rt_run 2 rfl ?_
        rw [← nI_succ]
        exact ih (v + 1) τ2 K2 T2 _ _ _ _ (by omega) hI2
      · rw [List.take_zero, List.flatMap_nil, List.append_nil]
        exact hI
  have zero : ∀ d k τ', k + d = 4000 → OfM [85] [] τ τ' → (∀ j, j < k → gL τ' 85 j = 0) → RT mX11_steps none 8 [some (.ref 63), some (.int (nI x)), some (.int (b01 wd)), some (.int (nI K.length)), some (.int (nI k)), none, none, none, none] [] τ' Q := by
    intro d
    induction d with
    | zero =>
      intro k τ' hk hO hz
      refine rt_run 3 rfl ?_
      refine rt_alenL rfl (n := 4000) rfl ?_
      refine rt_ge k 4000 rfl (by omega) (by omega) (fun _ => ?_) (fun _ => by omega)
      refine rt_run 2 rfl ?_
      refine verts 10 0 τ' K (fun _ _ => 0) _ _ _ _ rfl ⟨hO.up (by simp) (by simp), rfl, ?_, ⟨fun s c hs w hw => ?_, fun s hs1 hs2 w hw => ?_⟩, ⟨fun _ _ => Nat.zero_le _, fun _ _ _ => rfl⟩, fun _ _ h => h⟩
      · unfold MTl at *
        rw [hO.2.2.1 29 (by decide), (hO.1 82 (by decide)).1]
        exact hT
      · have := (List.getElem?_eq_some_iff.mp hs).1
        rw [hz _ (by omega)]
        rfl
      · exact hz _ (by omega)
    | succ d ih =>
      intro k τ' hk hO hz
      refine rt_run 3 rfl ?_
      refine rt_alenL rfl (n := 4000) rfl ?_
      refine rt_ge k 4000 rfl (by omega) (by omega) (fun _ => by omega) (fun _ => ?_)
      refine rt_run 4 rfl ?_
      refine rt_stL k rfl (n := 4000) rfl (by omega) ?_
      refine rt_run 2 rfl ?_
      rw [← nI_succ]
      refine ih (k + 1) _ (by omega) (hO.sL (by simp) _ _) (fun j hj => ?_)
      rw [gL_sL, if_pos rfl]
      by_cases hjk : j = k
      · subst hjk; rw [pk_uLs]
      · rw [pk_uLn hjk]; exact hz j (by omega)
  refine rt_run 5 rfl ?_
  rw [hT.1]
  exact zero 4000 0 τ (by omega) (OfM.rf _ _ _) (fun j hj => by omega)
end MdSteps
theorem mouN_none {A : AE} {P : Nat → List (Nat × Nat)} {u s t : Nat} (h : mouN A P u s = none) (hst : s ≤ t) : mouN A P u t = none := by
  induction t with
  | zero => have : s = 0 := by omega
            subst this; exact h
  | succ t ih =>
    by_cases hs : s = t + 1
    · subst hs; exact h
    · unfold mouN
      rw [ih (by omega)]; rfl
theorem sm_bd {α : Type} {l : List α} {f : α → Nat} {b : Nat} (h : ∀ x, f x ≤ b) : sm l f ≤ l.length * b := by
  induction l with
  | nil => exact Nat.zero_le _
  | cons x l ih =>
    simp only [sm, List.length_cons]
    have := h x
    rw [Nat.add_mul, Nat.one_mul]
    omega
section MdCount
variable {τ : Ty} {Q : Option Value → Ty → Prop} {a : AS}
set_option maxRecDepth 20000 in
theorem mWays_spec {x u v n : Nat} {A : AE} {P : Nat → List (Nat × Nat)} (wd : Bool) (hP : P = if wd = true then Pw else Pg (aG a)) (hM : MIs τ a) (hx : x < 4) (hE : MEx τ x A) (hu : u < 10) (hv : v < 10) (hn : n < 100)
    (h : ∀ τ', OffD τ τ' → MIs τ' (orA (mouI A P u v n) a).2 → Q (some (.int (mouI A P u v n))) τ') :
    RT mX11_ways none 0 [some (.ref 63), some (.int (nI x)), some (.int (nI u)), some (.int (nI v)), some (.int (nI n)), some (.int (b01 wd)), none, none, none] [] τ Q := by
  have hCM : CM = 1000000001 := rfl
  have keep : ∀ τ', OfM [82, 84, 85] [29] τ τ' → MIs τ' a := fun τ' hO => hM.of hO (by decide) (by decide) (by decide)
  -- the sum
  have sum : ∀ K (W : WF) τ', mouN A P u n = some (K, W) → OfM [82, 84, 85] [29] τ τ' → MTl τ' K → TmAt τ' 84 K W → WFok K W → ∀ d s, s + d = K.length →
      RT mX11_ways none 90 [some (.ref 63), some (.int (nI x)), some (.int (nI u)), some (.int (nI v)), some (.int (nI n)), some (.int (b01 wd)), some (.long (lN (fsm A (K.take s) W v))), none, some (.int (nI s))] [] τ' Q := by
    intro K W τ' hm hO hT hN hW d
    have hE' := hE.of hO (by decide)
    have hl := hT.2.1
    have hbd : ∀ s, s ≤ K.length → fsm A (K.take s) W v ≤ 400 * CM := by
      intro s hs
      have := sm_bd (l := K.take s) (f := fun c => if finB A c = true then W c v else 0) (b := CM) (fun c => by
        split
        · exact hW.1 c v
        · exact Nat.zero_le _)
      rw [List.length_take] at this
      unfold fsm
      refine Nat.le_trans this (Nat.mul_le_mul_right _ (by omega))
    induction d with
    | zero =>
      intro s hs
      have : s = K.length := by omega
      subst this
      have hb := hbd K.length (Nat.le_refl _)
      rw [List.take_length] at hb ⊢
      refine rt_run 3 rfl ?_
      refine rt_ge K.length K.length rfl (by omega) (by omega) (fun _ => ?_) (fun _ => by omega) rfl hT.1
      refine rt_run 3 rfl ?_
      have eI : mouI A P u v n = if CM ≤ fsm A K W v then -4 else nI (fsm A K W v) := by
        unfold mouI
        rw [hm]
      have hcmp : lg_cmp (lN (fsm A K W v)) 1000000000 ≤ 0 ↔ ¬ CM ≤ fsm A K W v := by
        rw [lg_cmp_le, show (1000000000 : Int64) = lN 1000000000 from rfl, lN_le63 (by omega) (by decide)]
        omega
      refine rt_if_le rfl (fun hle => ?_) (fun hle => ?_)
      · have hle := hcmp.mp hle
        rw [if_neg hle] at eI
        rw [eI] at h
        refine rt_run 2 rfl ?_
        rw [lN_i]
        refine rt_iret rfl rfl (h τ' (hO.d (by decide)) ?_)
        unfold orA
        rw [if_neg]
        · exact keep τ' hO
        · intro e
          have e1 : (nI (fsm A K W v)).toInt = (fsm A K W v : Int) := nI_toInt (by omega)
          have e2 : (-4 : Int32).toInt = -4 := by decide
          rw [e, e2] at e1
          omega
      · have hge : CM ≤ fsm A K W v := by
          by_cases g : CM ≤ fsm A K W v
          · exact g
          · exact absurd (hcmp.mpr g) hle
        rw [if_pos hge] at eI
        rw [eI] at h
        refine rt_run 2 rfl ?_
        refine rt_cV (ci := 11) mX11_refuses kX11_ways_156 okX11_refuses rfl rfl rfl rfl rfl ?_
        refine refuses_spec (keep τ' hO) (Or.inr (Or.inr rfl)) (fun τ2 hO2 hM2 => ?_)
        refine rt_run 1 rfl ?_
        exact rt_iret rfl rfl (h τ2 ((hO.d (by decide)).tr hO2) hM2)
    | succ d ih =>
      intro s hs
      have hlt : s < K.length := by omega
      have hq : K[s]? = some K[s] := List.getElem?_eq_getElem hlt
      have hc := hT.2.2.1 _ (List.getElem_mem hlt)
      generalize K[s] = c at hq hc
      have hz := mfin hE' hc
      have hih := ih (s + 1) (by omega)
      have es : fsm A (K.take (s + 1)) W v = fsm A (K.take s) W v + (if finB A c = true then W c v else 0) := by
        unfold fsm
        rw [List.take_add_one, hq, sm_app]
        rfl
      rw [es, nI_succ, ← lN_add] at hih
      refine rt_run 3 rfl ?_
      refine rt_ge s K.length rfl (by omega) (by omega) (fun _ => by omega) (fun _ => ?_) rfl hT.1
      refine rt_run 4 rfl ?_
      refine rt_ld s rfl (n := 401) rfl (by omega) ?_
      rw [hT.2.2.2.2 s c hq]
      refine rt_run 3 rfl ?_
      refine rt_ld x rfl (n := 4) rfl hx ?_
      refine rt_run 1 rfl ?_
      cases hf : finB A c with
      | true =>
        rw [hf, if_pos rfl] at hih
        refine rt_if_eq rfl (fun hc => ?_) (fun _ => ?_)
        · have := hz.mp hc
          rw [hf] at this
          cases this
        · refine rt_run 7 rfl ?_
          refine rt_ldL (400 * v + s) rfl (n := 4000) rfl (by omega) ?_ (by rw [show (400 : Int32) = nI 400 from rfl, pk_mul, nI_add])
          rw [hN.1 s c hq v hv]
          refine rt_run 1 rfl ?_
          refine rt_run 4 rfl ?_
          exact hih
      | false =>
        rw [hf, if_neg (by decide)] at hih
        refine rt_if_eq rfl (fun _ => ?_) (fun hc => absurd (hz.mpr hf) hc)
        refine rt_run 1 rfl ?_
        refine rt_run 4 rfl ?_
        exact hih
  have loop : ∀ d k τ' KW, k + d = n → mouN A P u k = some KW → OfM [82, 84, 85] [29] τ τ' → MTl τ' KW.1 → TmAt τ' 84 KW.1 KW.2 → WFok KW.1 KW.2 → RT mX11_ways none 54 [some (.ref 63), some (.int (nI x)), some (.int (nI u)), some (.int (nI v)), some (.int (nI n)), some (.int (b01 wd)), some (.int (nI k)), none, none] [] τ' Q := by
    intro d
    induction d with
    | zero =>
      intro k τ' KW hk hm hO hT hN hW
      have : k = n := by omega
      subst this
      refine rt_run 2 rfl ?_
      refine rt_ge k k rfl (by omega) (by omega) (fun _ => ?_) (fun _ => by omega)
      refine rt_run 4 rfl ?_
      exact sum KW.1 KW.2 τ' hm hO hT hN hW KW.1.length 0 (by omega)
    | succ d ih =>
      intro k τ' KW hk hm hO hT hN hW
      have em : mouN A P u (k + 1) = pushL (pml A P KW.1 KW.2) (KW.1, fun _ _ => 0) := by
        show (mouN A P u k).bind _ = _
        rw [hm]; rfl
      refine rt_run 2 rfl ?_
      refine rt_ge k n rfl (by omega) (by omega) (fun _ => by omega) (fun _ => ?_)
      refine rt_run 3 rfl ?_
      refine rt_cV (ci := 11) mX11_steps kX11_ways_65 okX11_steps rfl rfl rfl rfl rfl ?_
      refine mSteps_spec (G := aG a) wd hP hx (keep τ' hO).1.1 (hE.of hO (by decide)) hT hN hW (fun KT' τ2 hp hO2 hT2 hN2 hW2 => ?_) (fun hp τ2 hO2 => ?_)
      · refine rt_if_ne rfl (fun _ => ?_) (fun hc => absurd hc (by decide))
        refine rt_run 2 rfl ?_
        rw [← nI_succ]
        exact ih (k + 1) τ2 KT' (by omega) (by rw [em]; exact hp) (hO.tr hO2) hT2 hN2 hW2
      · have eI : mouI A P u v n = -4 := by
          unfold mouI
          rw [mouN_none (s := k + 1) (by rw [em]; exact hp) (by omega)]
        rw [eI] at h
        refine rt_if_ne rfl (fun hc => absurd rfl hc) (fun _ => ?_)
        refine rt_run 2 rfl ?_
        refine rt_cV (ci := 11) mX11_refuses kX11_ways_74 okX11_refuses rfl rfl rfl rfl rfl ?_
        exact refuses_spec (keep τ2 (hO.tr hO2)) (Or.inr (Or.inr rfl)) (fun τ3 hO3 hM3 => rt_iret rfl rfl (h τ3 (((hO.tr hO2).d (by decide)).tr hO3) hM3))
  have zero : ∀ d k τ', k + d = 4000 → OfM [84] [] τ τ' → (∀ j, j < k → gL τ' 84 j = 0) → RT mX11_ways none 3 [some (.ref 63), some (.int (nI x)), some (.int (nI u)), some (.int (nI v)), some (.int (nI n)), some (.int (b01 wd)), some (.int (nI k)), none, none] [] τ' Q := by
    intro d
    induction d with
    | zero =>
      intro k τ' hk hO hz
      refine rt_run 3 rfl ?_
      refine rt_alenL rfl (n := 4000) rfl ?_
      refine rt_ge k 4000 rfl (by omega) (by omega) (fun _ => ?_) (fun _ => by omega)
      refine rt_run 4 rfl ?_
      refine rt_st 0 rfl (n := 401) rfl (by omega) ?_
      refine rt_run 9 rfl ?_
      refine rt_stL (400 * u) rfl (n := 4000) rfl (by omega) ?_ (by rw [show (400 : Int32) = nI 400 from rfl, pk_mul])
      refine rt_run 2 rfl ?_
      refine loop n 0 _ ([1], fun c w => if c = 1 ∧ w = u then 1 else 0) (by omega) rfl ?_ ⟨rfl, (by decide : [1].length ≤ 400), (by decide : ∀ c ∈ [1], c < 33554432), (by decide : [1].Nodup), fun i c hi => ?_⟩ ⟨fun s c hs w hw => ?_, fun s hs1 hs2 w hw => ?_⟩ ⟨fun c w => ?_, fun c w hc => ?_⟩
      · exact (((hO.up (ks' := [82, 84, 85]) (fs' := [29]) (by simp) (by simp)).sI (by simp) _ _).sF (by simp) _).sL (by simp) _ _
      · have hil := (List.getElem?_eq_some_iff.mp hi).1
        have : i = 0 := by simpa using hil
        subst this
        cases hi
        rw [mc_1]
        rfl
      · have hil := (List.getElem?_eq_some_iff.mp hs).1
        have : s = 0 := by simpa using hil
        subst this
        cases hs
        rw [gL_sL, if_pos rfl, Nat.add_zero]
        show vp_updL (gL τ' 84) (400 * u) 1 (400 * w) = lN (if 1 = 1 ∧ w = u then 1 else 0)
        by_cases hwu : w = u
        · subst hwu
          rw [pk_uLs, if_pos ⟨rfl, rfl⟩]
          rfl
        · rw [pk_uLn (by omega), if_neg (fun g => hwu g.2), hz _ (by omega)]
          rfl
      · have hs1 : 1 ≤ s := hs1
        rw [gL_sL, if_pos rfl]
        show vp_updL (gL τ' 84) (400 * u) 1 (400 * w + s) = 0
        rw [pk_uLn (by omega)]
        exact hz _ (by omega)
      · dsimp only
        split <;> omega
      · dsimp only
        rw [if_neg]
        rintro ⟨rfl, -⟩
        exact hc (by simp)
    | succ d ih =>
      intro k τ' hk hO hz
      refine rt_run 3 rfl ?_
      refine rt_alenL rfl (n := 4000) rfl ?_
      refine rt_ge k 4000 rfl (by omega) (by omega) (fun _ => by omega) (fun _ => ?_)
      refine rt_run 4 rfl ?_
      refine rt_stL k rfl (n := 4000) rfl (by omega) ?_
      refine rt_run 2 rfl ?_
      rw [← nI_succ]
      refine ih (k + 1) _ (by omega) (hO.sL (by simp) _ _) (fun j hj => ?_)
      rw [gL_sL, if_pos rfl]
      by_cases hjk : j = k
      · subst hjk; rw [pk_uLs]
      · rw [pk_uLn hjk]; exact hz j (by omega)
  refine rt_run 2 rfl ?_
  exact zero 4000 0 τ (by omega) (OfM.rf _ _ _) (fun j hj => by omega)
theorem mWords_spec {x n : Int32} (hM : MIs τ a) (h : ∀ τ', OffD τ τ' → MIs τ' (wrdA a x n).2 → Q (some (.int (wrdA a x n).1)) τ') : RT mX11_words none 0 [some (.ref 63), some (.int x), some (.int n)] [] τ Q := by
  have no : wrdA a x n = rfA (-2) a → RT mX11_words none 17 [some (.ref 63), some (.int x), some (.int n)] [] τ Q := by
    intro e
    rw [e] at h
    refine rt_run 2 rfl ?_
    refine rt_cV (ci := 11) mX11_refuses kX11_words_20 okX11_refuses rfl rfl rfl rfl rfl ?_
    exact refuses_spec hM (Or.inl rfl) (fun τ' hO hC' => rt_iret rfl rfl (h τ' hO hC'))
  refine rt_run 1 rfl ?_
  refine rt_cS mX11_isOne kX11_words_1 okX11_isOne rfl rfl ?_
  refine mOne_spec (fun hh => ?_) (fun i hi ei => ?_)
  · exact rt_if_eq rfl (fun _ => no (by unfold wrdA; rw [hh])) (fun hc => absurd rfl hc)
  subst ei
  refine rt_if_eq rfl (fun hc => absurd hc (by decide)) (fun _ => ?_)
  refine rt_run 3 rfl ?_
  refine rt_cS mX11_in kX11_words_11 okX11_in rfl rfl ?_
  refine in_spec 10 (by decide) rfl (fun hh => ?_) (fun n' hn en => ?_)
  · exact rt_if_ne rfl (fun hc => absurd rfl hc) (fun _ => no (by unfold wrdA; rw [rn_so hi (by decide)]; dsimp only; rw [hh]))
  subst en
  refine rt_if_ne rfl (fun _ => ?_) (fun hc => absurd hc (by decide))
  have eA : wrdA a (nI i) (nI n') = (match aX a i with
      | none => rfA (-3) a
      | some A => orA (rouI A anyL 0 0 n') a) := by
    unfold wrdA; rw [rn_so hi (by decide)]; dsimp only; rw [rn_so hn (by decide)]; rfl
  rw [eA] at h
  refine rt_run 3 rfl ?_
  refine rt_ld i rfl (n := 4) rfl hi ?_
  rcases hM.1.2.2.1.told hi with ⟨hX, e⟩ | ⟨A, hX, e, hA, hE⟩
  · rw [hX] at h
    rw [e]
    refine rt_if_ge rfl (fun hc => absurd hc (by decide)) (fun _ => ?_)
    refine rt_run 2 rfl ?_
    refine rt_cV (ci := 11) mX11_refuses kX11_words_36 okX11_refuses rfl rfl rfl rfl rfl ?_
    refine refuses_spec hM (Or.inr (Or.inl rfl)) (fun τ' hO hC' => ?_)
    refine rt_run 1 rfl ?_
    exact rt_iret rfl rfl (h τ' hO hC')
  rw [hX] at h
  dsimp only at h
  rw [e]
  refine rt_if_ge rfl (fun _ => ?_) (fun hc => absurd (nI_pos' (by omega)) hc)
  refine rt_run 6 rfl ?_
  refine rt_cV (ci := 11) mX11_ways kX11_words_48 okX11_ways rfl rfl rfl rfl rfl ?_
  refine mWays_spec (u := 0) (v := 0) (P := Pw) true rfl hM hi hE (by decide) (by decide) (by omega) (fun τ' hO hM' => ?_)
  rw [mouI_eq cmp_w rfl] at hM' ⊢
  exact rt_iret rfl rfl (h τ' hO hM')
theorem mCount_spec {x u v n : Int32} (hM : MIs τ a) (h : ∀ τ', OffD τ τ' → MIs τ' (couA a x u v n).2 → Q (some (.int (couA a x u v n).1)) τ') : RT mX11_count none 0 [some (.ref 63), some (.int x), some (.int u), some (.int v), some (.int n), none] [] τ Q := by
  have rf : ∀ r : Int32, (r = -2 ∨ r = -3 ∨ r = -4) → couA a x u v n = rfA r a → RT mX11_count none 23 [some (.ref 63), some (.int x), some (.int u), some (.int v), some (.int n), none] [.int r] τ Q := by
    intro r hr e
    rw [e] at h
    refine rt_run 2 rfl ?_
    refine rt_if_eq rfl (fun hc => by rcases hr with rfl | rfl | rfl <;> exact absurd hc (by decide)) (fun _ => ?_)
    refine rt_run 2 rfl ?_
    refine rt_cV (ci := 11) mX11_refuses kX11_count_33 okX11_refuses rfl rfl rfl rfl rfl ?_
    exact refuses_spec hM hr (fun τ' hO hC' => rt_iret rfl rfl (h τ' hO hC'))
  refine rt_run 3 rfl ?_
  refine rt_cS mX11_in kX11_count_5 okX11_in rfl rfl ?_
  refine in_spec 13 (by decide) rfl (fun hh => ?_) (fun n' hn en => ?_)
  · refine rt_if_eq rfl (fun _ => ?_) (fun hc => absurd rfl hc)
    refine rt_run 1 rfl ?_
    exact rf _ (Or.inl rfl) (by unfold couA; rw [hh])
  subst en
  refine rt_if_eq rfl (fun hc => absurd hc (by decide)) (fun _ => ?_)
  have e0 : couA a x u v (nI n') = rtA a x u v (fun A u v => orA (rouI A (aS a) u v n') a) := by
    unfold couA; rw [rn_so hn (by decide)]
  rw [e0] at h rf
  refine rt_run 4 rfl ?_
  refine rt_cV (ci := 11) mX11_amiss kX11_count_15 okX11_amiss rfl rfl rfl rfl rfl ?_
  refine amiss_spec hM (fun e => ?_) (fun e => ?_) (fun i j l A hi hj hl e1 e2 e3 hX hE e => ?_)
  · refine rt_run 1 rfl ?_
    exact rf _ (Or.inl rfl) (e _)
  · refine rt_run 1 rfl ?_
    exact rf _ (Or.inr (Or.inl rfl)) (e _)
  subst e1; subst e2; subst e3
  rw [e] at h
  refine rt_run 1 rfl ?_
  refine rt_run 2 rfl ?_
  refine rt_if_eq rfl (fun _ => ?_) (fun hc => absurd rfl hc)
  refine rt_run 6 rfl ?_
  refine rt_cV (ci := 11) mX11_ways kX11_count_44 okX11_ways rfl rfl rfl rfl rfl ?_
  refine mWays_spec (P := Pg (aG a)) false rfl hM hi hE hj hl (by omega) (fun τ' hO hM' => ?_)
  rw [mouI_eq (L := aS a) (cmp_g hM.1.1.2.2.2) hj] at hM' ⊢
  exact rt_iret rfl rfl (h τ' hO hM')
end MdCount

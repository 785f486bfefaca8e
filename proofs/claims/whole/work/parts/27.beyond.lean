/-! Comparison.widens, shortestBeyond, statesOf -/
theorem exN_none {A B : AE} {lim : Nat} {x : Nat × Nat} {K : PL} {s t : Nat} (h : exN A B lim x K s = none) (hst : s ≤ t) : exN A B lim x K t = none := by
  induction t with
  | zero => have : s = 0 := by omega
            subst this; exact h
  | succ t ih =>
    by_cases hs : s = t + 1
    · subst hs; exact h
    · unfold exN
      rw [ih (by omega)]; rfl
theorem wdN_none {A B : AE} {lim : Nat} {K : PL} {fr d t : Nat} (h : wdN A B lim K fr d = none) (hst : d ≤ t) : wdN A B lim K fr t = none := by
  induction t with
  | zero => have : d = 0 := by omega
            subst this; exact h
  | succ t ih =>
    by_cases hs : d = t + 1
    · subst hs; exact h
    · unfold wdN
      rw [ih (by omega)]; rfl
theorem wdN_s {A B : AE} {lim : Nat} {K Ki : PL} {fr d : Nat} {x : Nat × Nat} (h : wdN A B lim K fr d = some Ki) (hx : K[fr + d]? = some x) : wdN A B lim K fr (d + 1) = exN A B lim x Ki 8 := by
  show (wdN A B lim K fr d).bind _ = _
  rw [h]
  show (match K[fr + d]? with
    | some x => exN A B lim x Ki 8
    | none => some Ki) = _
  rw [hx]
set_option maxHeartbeats 2000000 in
theorem widens0_spec {ka kb lim fr : Nat} {A B : AE} {K : PL} {τ : Ty} {Q : Option Value → Ty → Prop} (hka : isE ka) (hkb : isE kb) (hA : ExIs τ ka A) (hB : ExIs τ kb B) (hT : PTab τ K lim) (hfr : fr ≤ K.length)
    (h1 : ∀ τ' K', wdN A B lim K fr (K.length - fr) = some K' → Off (kT 46) τ τ' → PTab τ' K' lim → Q (some (.int 1)) τ') (h2 : wdN A B lim K fr (K.length - fr) = none → ∀ τ', Off (kT 46) τ τ' → Q (some (.int 0)) τ') :
    RT mX0_widens none 0 [some (.ref 45), some (.ref ka), some (.ref kb), some (.int (nI fr)), some (.int (nI K.length)), none, none, none, none, none, none, none, none] [] τ Q := by
  obtain ⟨f0, f1, f2, f3, f4, a0, a1, h38⟩ := isE_f hka
  obtain ⟨p0, p1, p2, p3, p4, b0, b1, q38⟩ := isE_f hkb
  have hlen := hT.1.2.2.1
  have hlim := hT.1.2.2.2.1
  rw [List.length_map] at hlen
  have loop : ∀ d i τ' Ki (x6 x7 x8 x9 x10 x11 x12 : Option Value), i + d = K.length → fr ≤ i → Off (kT 46) τ τ' → wdN A B lim K fr (i - fr) = some Ki → PTab τ' Ki lim → RT mX0_widens none 3 [some (.ref 45), some (.ref ka), some (.ref kb), some (.int (nI fr)), some (.int (nI K.length)), some (.int (nI i)), x6, x7, x8, x9, x10, x11, x12] [] τ' Q := by
    intro d
    induction d with
    | zero =>
      intro i τ' Ki x6 x7 x8 x9 x10 x11 x12 hi hfi hO hw hT'
      refine rt_run 2 rfl ?_
      refine rt_ge i K.length rfl (by omega) (by omega) (fun _ => ?_) (fun _ => by omega)
      refine rt_run 1 rfl ?_
      rw [show i = K.length by omega] at hw
      exact rt_zret rfl rfl (Or.inr rfl) (h1 τ' Ki hw hO hT')
    | succ d ih =>
      intro i τ' Ki x6 x7 x8 x9 x10 x11 x12 hi hfi hO hw hT'
      have hA' := hA.off hO (kT46 hka)
      have hB' := hB.off hO (kT46 hkb)
      refine rt_run 2 rfl ?_
      refine rt_ge i K.length rfl (by omega) (by omega) (fun _ => by omega) (fun hlt => ?_)
      have hq : K[i]? = some K[i] := List.getElem?_eq_getElem hlt
      have hx := hT.2 _ (List.getElem_mem hlt)
      obtain ⟨T, hpre⟩ := wdN_pre hw
      have hkey := hT'.1.2.2.2.2.2.1 i (pkey K[i]) (by rw [List.getElem?_map, hpre, List.getElem?_append_left hlt, hq]; rfl)
      refine rt_run 4 rfl ?_
      refine rt_ldL i rfl (n := 400) rfl (by omega) ?_
      rw [hkey]
      refine rt_run 6 rfl ?_
      rw [pkey_hi hx]
      refine rt_cV (ci := 2) mX2_behind kX0_widens_29 okX2_behind (isE_s hka) rfl rfl rfl rfl ?_
      refine behind_specN hka hA' (fun g hg => ?_)
      refine rt_run 4 rfl ?_
      rw [pkey_lo hx]
      refine rt_cV (ci := 2) mX2_behind kX0_widens_38 okX2_behind (isE_s hkb) rfl rfl rfl rfl ?_
      refine behind_specN hkb hB' (fun g2 hg2 => ?_)
      have hwd := wdN_s hw (x := K[i]) (by rw [show fr + (i - fr) = i by omega]; exact hq)
      rw [show i - fr + 1 = i + 1 - fr by omega] at hwd
      have inner : ∀ d2 s τ'' K2 (y11 y12 : Option Value), s + d2 = 8 → Off (kT 46) τ τ'' → exN A B lim K[i] Ki s = some K2 → PTab τ'' K2 lim → RT mX0_widens none 46 [some (.ref 45), some (.ref ka), some (.ref kb), some (.int (nI fr)), some (.int (nI K.length)), some (.int (nI i)), some (.long (pkey K[i])), none, some (.int g), some (.int g2), some (.int (nI s)), y11, y12] [] τ'' Q := by
        intro d2
        induction d2 with
        | zero =>
          intro s τ'' K2 y11 y12 hs hO2 hex hT2
          refine rt_run 2 rfl ?_
          refine rt_ge s 8 rfl (by omega) (by omega) (fun _ => ?_) (fun _ => by omega)
          refine rt_run 2 rfl ?_
          rw [← nI_succ]
          refine ih (i + 1) τ'' K2 _ _ _ _ _ _ _ (by omega) (by omega) hO2 ?_ hT2
          rw [hwd, ← hex, show s = 8 by omega]
        | succ d2 ih2 =>
          intro s τ'' K2 y11 y12 hs hO2 hex hT2
          have hA2 := hA.off hO2 (kT46 hka)
          have hB2 := hB.off hO2 (kT46 hkb)
          refine rt_run 2 rfl ?_
          refine rt_ge s 8 rfl (by omega) (by omega) (fun _ => by omega) (fun _ => ?_)
          refine rt_run 2 rfl ?_
          refine rt_getQ rfl f1 h38 ?_
          refine rt_run 1 rfl ?_
          refine rt_ld s rfl a1 (by omega) ?_
          refine rt_run 3 rfl ?_
          refine rt_getQ rfl p1 q38 ?_
          refine rt_run 1 rfl ?_
          refine rt_ld s rfl b1 (by omega) ?_
          refine rt_run 1 rfl ?_
          rw [after_code (A := A) (c := K[i].1) hA2 (by omega) hg, after_code (A := B) (c := K[i].2) hB2 (by omega) hg2]
          refine rt_cS mX0_pairOf kX0_widens_73 okX0_pairOf rfl rfl ?_
          refine pairOf_spec (nx_lt _ _ _) (nx_lt _ _ _) ?_
          refine rt_run 4 rfl ?_
          refine rt_cV (ci := 8) mX8_numberOf kX0_widens_84 okX8_numberOf rfl rfl rfl rfl rfl ?_
          have hex1 : exN A B lim K[i] Ki (s + 1) = addP K2 lim (nx A K[i].1 s, nx B K[i].2 s) := by
            show (exN A B lim K[i] Ki s).bind _ = _
            rw [hex]; rfl
          refine number_pair hT2 ⟨nx_lt _ _ _, nx_lt _ _ _⟩ (fun τ3 K3 r ha hO3 hT3 hr => ?_) (fun hn => ?_)
          · refine rt_run 1 rfl ?_
            refine rt_ic_ne rfl (fun _ => ?_) (fun hc => absurd hc hr)
            refine rt_run 2 rfl ?_
            rw [← nI_succ]
            exact ih2 (s + 1) τ3 K3 _ _ (by omega) (hO2.tr hO3) (by rw [hex1]; exact ha) hT3
          · refine rt_run 1 rfl ?_
            refine rt_ic_ne rfl (fun hc => absurd rfl hc) (fun _ => ?_)
            refine rt_run 1 rfl ?_
            refine rt_zret rfl rfl (Or.inl rfl) (h2 ?_ τ'' hO2)
            refine wdN_none (d := i + 1 - fr) ?_ (by omega)
            rw [hwd]
            exact exN_none (s := s + 1) (by rw [hex1]; exact hn) (by omega)
      refine rt_run 3 rfl ?_
      exact inner 8 0 τ' Ki _ _ (by omega) hO rfl hT'
  refine rt_run 2 rfl ?_
  exact loop (K.length - fr) fr τ K none none none none none none none (by omega) (Nat.le_refl _) (Off.rf _ _) (by rw [Nat.sub_self]; rfl) hT
theorem shortestBeyond_spec {ka kb lim : Nat} {A B : AE} {τ : Ty} {Q : Option Value → Ty → Prop} (hka : isE ka) (hkb : isE kb) (hA : ExIs τ ka A) (hB : ExIs τ kb B) (hlim : lim ≤ 400) (h1 : 1 ≤ lim)
    (h : ∀ τ', Off (kT 46) τ τ' → ((bey A B lim 401 0 0 [(1, 1)]).1 ≠ -4 → PTab τ' (bey A B lim 401 0 0 [(1, 1)]).2 lim) → Q (some (.int (bey A B lim 401 0 0 [(1, 1)]).1)) τ') :
    RT mX0_shortestBeyond none 0 [some (.ref 45), some (.ref ka), some (.ref kb), some (.int (nI lim)), none, none, none] [] τ Q := by
  have loop : ∀ d n τ' dn K (x6 : Option Value), n + d = 401 → dn ≤ K.length → Off (kT 46) τ τ' → PTab τ' K lim → bey A B lim 401 0 0 [(1, 1)] = bey A B lim d n dn K → RT mX0_shortestBeyond none 27 [some (.ref 45), some (.ref ka), some (.ref kb), some (.int (nI lim)), some (.int (nI dn)), some (.int (nI n)), x6] [] τ' Q := by
    intro d
    induction d with
    | zero =>
      intro n τ' dn K x6 hn hdn hO hT hb
      refine rt_run 2 rfl ?_
      refine rt_gt n 400 rfl (by omega) (by omega) (fun _ => ?_) (fun _ => by omega)
      refine rt_run 1 rfl ?_
      have hh := h τ' hO
      rw [hb] at hh
      exact rt_iret rfl rfl (hh (fun _ => hT))
    | succ d ih =>
      intro n τ' dn K x6 hn hdn hO hT hb
      have hA' := hA.off hO (kT46 hka)
      have hB' := hB.off hO (kT46 hkb)
      have hlen := hT.1.2.2.1
      rw [List.length_map] at hlen
      have hsz : gF τ' 46 2 = nI K.length := by rw [hT.1.1, List.length_map]
      refine rt_run 2 rfl ?_
      refine rt_gt n 400 rfl (by omega) (by omega) (fun _ => by omega) (fun _ => ?_)
      refine rt_run 4 rfl ?_
      rw [hsz]
      refine rt_run 5 rfl ?_
      refine rt_cV (ci := 0) mX0_tellsApart kX0_shortestBeyond_51 okX0_tellsApart rfl rfl rfl rfl rfl ?_
      refine tellsApart_spec hka hkb hA' hB' hT hdn ?_
      by_cases hap : (K.drop dn).any (apart A B) = true
      · rw [if_pos hap]
        refine rt_if_eq rfl (fun hc => absurd hc (by decide)) (fun _ => ?_)
        refine rt_run 1 rfl ?_
        have hh := h τ' hO
        rw [hb] at hh
        unfold bey at hh
        rw [if_pos hap] at hh
        exact rt_iret rfl rfl (hh (fun _ => hT))
      · rw [if_neg hap]
        refine rt_if_eq rfl (fun _ => ?_) (fun hc => absurd rfl hc)
        refine rt_run 5 rfl ?_
        refine rt_cV (ci := 0) mX0_widens kX0_shortestBeyond_67 okX0_widens rfl rfl rfl rfl rfl ?_
        refine widens0_spec hka hkb hA' hB' hT hdn (fun τ2 K2 hw hO2 hT2 => ?_) (fun hw τ2 hO2 => ?_)
        · refine rt_if_ne rfl (fun _ => ?_) (fun hc => absurd hc (by decide))
          have hlen2 := hT2.1.2.2.1
          rw [List.length_map] at hlen2
          have hsz2 : gF τ2 46 2 = nI K2.length := by rw [hT2.1.1, List.length_map]
          refine rt_run 4 rfl ?_
          refine rt_ne K2.length K.length rfl (by omega) (by omega) (fun hne => ?_) (fun heq => ?_) hsz2
          · refine rt_run 4 rfl ?_
            rw [← nI_succ]
            obtain ⟨T, hpre⟩ := wdN_pre hw
            refine ih (n + 1) τ2 K.length K2 _ (by omega) (by rw [hpre, List.length_append]; omega) (hO.tr hO2) hT2 ?_
            rw [hb]
            conv => lhs; unfold bey
            rw [if_neg hap, hw]
            simp only [if_neg hne]
          · refine rt_run 1 rfl ?_
            have hh := h τ2 (hO.tr hO2)
            rw [hb] at hh
            unfold bey at hh
            rw [if_neg hap, hw] at hh
            simp only [if_pos heq] at hh
            exact rt_iret rfl rfl (hh (fun _ => hT2))
        · refine rt_if_ne rfl (fun hc => absurd rfl hc) (fun _ => ?_)
          refine rt_run 1 rfl ?_
          have hh := h τ2 (hO.tr hO2)
          rw [hb] at hh
          unfold bey at hh
          rw [if_neg hap, hw] at hh
          exact rt_iret rfl rfl (hh (fun hc => absurd rfl hc))
  refine rt_run 3 rfl ?_
  refine rt_cV (ci := 8) mX8_reset kX0_shortestBeyond_5 okX8_reset rfl rfl rfl rfl rfl ?_
  refine reset_spec (Or.inr rfl) hlim (fun τ1 hO1 hT1 => ?_)
  refine rt_run 4 rfl ?_
  refine rt_cS mX0_pairOf kX0_shortestBeyond_14 okX0_pairOf rfl rfl ?_
  refine pairOf_spec (c := 1) (d := 1) (by decide) (by decide) ?_
  refine rt_cV (ci := 8) mX8_numberOf kX0_shortestBeyond_17 okX8_numberOf rfl rfl rfl rfl rfl ?_
  refine number_pair (K := []) (lim := lim) ⟨hT1, fun x hx => by simp at hx⟩ ⟨by decide, by decide⟩ (fun τ2 K2 r ha hO2 hT2 _ => ?_) (fun hn => ?_)
  · unfold addP at ha
    rw [if_neg (by simp), if_pos (show ([] : PL).length < lim from h1)] at ha
    cases ha
    refine rt_run 5 rfl ?_
    exact loop 401 0 τ2 0 [(1, 1)] none (by omega) (Nat.zero_le _) (hO1.tr hO2) hT2 rfl
  · exfalso
    unfold addP at hn
    rw [if_neg (by simp), if_pos (show ([] : PL).length < lim from h1)] at hn
    cases hn
theorem statesOf0_spec {ka : Nat} {A : AE} {τ : Ty} {Q : Option Value → Ty → Prop} (hka : isE ka) (hA : ExIs τ ka A)
    (h : ∀ τ', Off (kT 46) τ τ' → Q (some (.int (if (bey A A 200 401 0 0 [(1, 1)]).1 = -4 then -4 else nI (bey A A 200 401 0 0 [(1, 1)]).2.length))) τ') :
    RT mX0_statesOf none 0 [some (.ref 45), some (.ref ka), none] [] τ Q := by
  refine rt_run 4 rfl ?_
  refine rt_cV (ci := 0) mX0_shortestBeyond kX0_statesOf_6 okX0_shortestBeyond rfl rfl rfl rfl rfl ?_
  refine shortestBeyond_spec (lim := 200) hka hka hA hA (by decide) (by decide) (fun τ' hO hT => ?_)
  have hh := h τ' hO
  refine rt_run 3 rfl ?_
  refine rt_ic_ne rfl (fun hc => ?_) (fun hc => ?_)
  · rw [if_neg hc] at hh
    refine rt_run 3 rfl ?_
    have hsz : gF τ' 46 2 = nI (bey A A 200 401 0 0 [(1, 1)]).2.length := by rw [(hT hc).1.1, List.length_map]
    rw [hsz]
    exact rt_iret rfl rfl hh
  · rw [if_pos hc] at hh
    refine rt_run 2 rfl ?_
    exact rt_iret rfl rfl hh

/-! Tally.advances, total, routesOf -/
/-- only the cells of a list have changed, or which rows 'ways' and 'waysThen' are -/
def OffW (ks : List Nat) (τ τ' : Ty) : Prop := ∀ k, k ∉ ks → gI τ' k = gI τ k ∧ gL τ' k = gL τ k ∧ gF τ' k = gF τ k
theorem Off.w {ks : List Nat} {τ τ' : Ty} (h : Off ks τ τ') : OffW ks τ τ' := h.1
theorem OffW.rf (ks : List Nat) (τ : Ty) : OffW ks τ τ := fun _ _ => ⟨rfl, rfl, rfl⟩
theorem OffW.tr {ks : List Nat} {τ τ' τ'' : Ty} (h : OffW ks τ τ') (h' : OffW ks τ' τ'') : OffW ks τ τ'' :=
  fun k hk => ⟨(h' k hk).1.trans (h k hk).1, (h' k hk).2.1.trans (h k hk).2.1, (h' k hk).2.2.trans (h k hk).2.2⟩
theorem OffW.to {ks : List Nat} {τ τ' : Ty} (h : OffW ks τ τ') : Off ks τ (sW τ' (gW τ)) := ⟨h, rfl⟩
theorem ExIs.offW {ks : List Nat} {τ τ' : Ty} {k : Nat} {A : AE} (h : ExIs τ k A) (ho : OffW ks τ τ') (h1 : k ∉ ks ∧ k + 1 ∉ ks ∧ k + 2 ∉ ks) : ExIs τ' k A := by
  have := h.off (τ' := sW τ' (gW τ)) ho.to h1
  exact this
theorem StIs.offW {ks : List Nat} {τ τ' : Ty} {k : Nat} {L : SL} (h : StIs τ k L) (ho : OffW ks τ τ') (h1 : k ∉ ks ∧ k + 1 ∉ ks ∧ k + 2 ∉ ks ∧ k + 3 ∉ ks ∧ k + 4 ∉ ks) : StIs τ' k L := by
  have := h.off (τ' := sW τ' (gW τ)) ho.to h1
  exact this
theorem EdIs.offW {ks : List Nat} {τ τ' : Ty} {G : Gr} (h : EdIs τ G) (ho : OffW ks τ τ') (h1 : 1 ∉ ks ∧ 2 ∉ ks ∧ 3 ∉ ks ∧ 4 ∉ ks) : EdIs τ' G := by
  have := h.off (τ' := sW τ' (gW τ)) ho.to h1
  exact this
theorem advN_congr {A : AE} {W W' : WF} {c : Nat} {L : SL} {KT : List Nat × WF} (h : ∀ w, W c w = W' c w) (n : Nat) : advN A W c L KT n = advN A W' c L KT n := by
  induction n with
  | zero => rfl
  | succ n ih =>
    unfold advN
    rw [ih]
    congr 1
    funext KT'
    cases L[n]? with
    | none => rfl
    | some st => simp only [adv1, h]
theorem adv1_pre {A : AE} {W : WF} {c : Nat} {st : Nat × Nat × Nat × Nat} {KT KT' : List Nat × WF} (h : adv1 A W c st KT = some KT') : ∃ T, KT'.1 = KT.1 ++ T := by
  unfold adv1 at h
  split at h
  · cases h; exact ⟨[], by simp⟩
  · split at h
    · cases h
      unfold addK
      split
      · exact ⟨[], by simp⟩
      · exact ⟨_, rfl⟩
    · cases h
theorem advN_pre {A : AE} {W : WF} {c : Nat} {L : SL} {KT KT' : List Nat × WF} {n : Nat} (h : advN A W c L KT n = some KT') : ∃ T, KT'.1 = KT.1 ++ T := by
  induction n generalizing KT' with
  | zero => cases h; exact ⟨[], by simp⟩
  | succ n ih =>
    unfold advN at h
    obtain ⟨K1, h1, h2⟩ := Option.bind_eq_some_iff.mp h
    obtain ⟨T1, e1⟩ := ih h1
    cases hq : L[n]? with
    | none => rw [hq] at h2; cases h2; exact ⟨T1, e1⟩
    | some st =>
      rw [hq] at h2
      obtain ⟨T2, e2⟩ := adv1_pre h2
      exact ⟨T1 ++ T2, by rw [e2, e1]; simp⟩
def alN (A : AE) (L : SL) (K : List Nat) (W : WF) : Nat → Option (List Nat × WF)
  | 0 => some (K, fun _ _ => 0)
  | s + 1 => (alN A L K W s).bind (fun KT => match K[s]? with
    | some c => if c = 0 then some KT else advN A W c L KT L.length
    | none => some KT)
theorem alN_s {A : AE} {W : WF} {c s : Nat} {L : SL} {K : List Nat} {KT : List Nat × WF} (h : alN A L K W s = some KT) (hq : K[s]? = some c) : alN A L K W (s + 1) = if c = 0 then some KT else advN A W c L KT L.length := by
  show (alN A L K W s).bind _ = _
  rw [h]
  show (match K[s]? with
    | some c => if c = 0 then some KT else advN A W c L KT L.length
    | none => some KT) = _
  rw [hq]
theorem alN_none {A : AE} {W : WF} {s t : Nat} {L : SL} {K : List Nat} (h : alN A L K W s = none) (hst : s ≤ t) : alN A L K W t = none := by
  induction t with
  | zero => have : s = 0 := by omega
            subst this; exact h
  | succ t ih =>
    by_cases hs : s = t + 1
    · subst hs; exact h
    · unfold alN
      rw [ih (by omega)]; rfl
theorem alN_pre {A : AE} {L : SL} {K : List Nat} {W : WF} {KT' : List Nat × WF} {n : Nat} (h : alN A L K W n = some KT') : ∃ T, KT'.1 = K ++ T := by
  induction n generalizing KT' with
  | zero => cases h; exact ⟨[], by simp⟩
  | succ n ih =>
    unfold alN at h
    obtain ⟨K1, h1, h2⟩ := Option.bind_eq_some_iff.mp h
    obtain ⟨T1, e1⟩ := ih h1
    cases hq : K[n]? with
    | none => rw [hq] at h2; cases h2; exact ⟨T1, e1⟩
    | some c =>
      rw [hq] at h2
      by_cases hc : c = 0
      · simp only [if_pos hc] at h2; cases h2; exact ⟨T1, e1⟩
      · simp only [if_neg hc] at h2
        obtain ⟨T2, e2⟩ := advN_pre h2
        exact ⟨T1 ++ T2, by rw [e2, e1]; simp⟩
def zW (K : List Nat) (s : Nat) (W : WF) : WF := fun c w => if c ∈ K.take s then 0 else W c w
def zP (c n : Nat) (W : WF) : WF := fun c' w' => if c' = c ∧ w' < n then 0 else W c' w'
theorem TaIs.zero {τ : Ty} {wa wb s c w : Nat} {A : AE} {K : List Nat} {W T : WF} (hw : isW wa wb) (h : TaIs τ wa wb A K (zP c w W) T) (hs : K[s]? = some c) (hww : w < 10) : TaIs (sI τ wa (s * 10 + w) 0) wa wb A K (zP c (w + 1) W) T := by
  obtain ⟨w1, w2, w3, w4, w5⟩ := isW_f hw
  have hnd := ta_nodup h
  obtain ⟨t1, t2, t3, t4, t5, t6, t7, t8⟩ := id h
  have hoff : Off [wa] τ (sI τ wa (s * 10 + w) 0) := (Off.rf _ _).sI (by simp) _ _
  refine ⟨t1, t2.off hoff (by rcases hw with ⟨rfl, rfl⟩ | ⟨rfl, rfl⟩ <;> decide), t3, fun s' c' hs' sg' hsg' => ?_, fun s' c' hs' w' hw' => ?_, fun s' c' hs' w' hw' => ?_, ⟨fun c' w' => ?_, fun c' w' hc' => ?_⟩, t8⟩
  · rw [gI_sI, if_neg (by rcases hw with ⟨rfl, rfl⟩ | ⟨rfl, rfl⟩ <;> decide)]
    exact t4 s' c' hs' sg' hsg'
  · rw [gI_sI, if_pos rfl]
    by_cases he : s' * 10 + w' = s * 10 + w
    · have e1 : s' = s := by omega
      have e2 : w' = w := by omega
      subst e1; subst e2
      rw [hs] at hs'
      cases hs'
      rw [pk_us]
      unfold zP
      rw [if_pos ⟨rfl, by omega⟩]; rfl
    · rw [pk_un he, t5 s' c' hs' w' hw']
      unfold zP
      by_cases hcc : c' = c
      · subst hcc
        have := nodup_ix hnd hs' hs
        subst this
        have : (w' < w + 1) ↔ w' < w := by omega
        simp only [this]
      · simp [hcc]
  · rw [gI_sI, if_neg (fun e => w3 e.symm)]; exact t6 s' c' hs' w' hw'
  · have := t7.1 c' w'
    unfold zP at *
    by_cases h1 : c' = c ∧ w' < w + 1
    · rw [if_pos h1]; exact Nat.zero_le _
    · rw [if_neg h1]
      rw [if_neg (fun hh => h1 ⟨hh.1, by omega⟩)] at this
      exact this
  · have := t7.2 c' w' hc'
    unfold zP at *
    by_cases h1 : c' = c ∧ w' < w + 1
    · rw [if_pos h1]
    · rw [if_neg h1]
      rw [if_neg (fun hh => h1 ⟨hh.1, by omega⟩)] at this
      exact this
set_option maxHeartbeats 2000000 in
theorem advances_spec {ke ks wa wb : Nat} {A : AE} {L : SL} {K : List Nat} {W : WF} {τ : Ty} {Q : Option Value → Ty → Prop} (hw : isW wa wb) (hke : isE ke) (hks : isS ks) (hE : ExIs τ ke A) (hS : StIs τ ks L) (hL : StOk L) (hT : TaIs τ wa wb A K W (fun _ _ => 0))
    (h1 : ∀ τ' K' T', alN A L K W K.length = some (K', T') → OffW kTa τ τ' → TaIs τ' wb wa A K' T' (fun _ _ => 0) → Q (some (.int 1)) τ') (h2 : alN A L K W K.length = none → ∀ τ', Off kTa τ τ' → Q (some (.int 0)) τ') :
    RT mX9_advances none 0 [some (.ref 38), some (.ref ke), some (.ref ks), none, none, none] [] τ Q := by
  obtain ⟨w1, w2, w3, w4, w5⟩ := isW_f hw
  have hlen := hT.len
  have hnd := ta_nodup hT
  have hsz : gF τ 39 2 = nI K.length := by rw [hT.2.1.1, List.length_map]
  have loop : ∀ d s τ' K' T' (x5 : Option Value), s + d = K.length → Off kTa τ τ' → alN A L K W s = some (K', T') → TaIs τ' wa wb A K' (zW K s W) T' → RT mX9_advances none 11 [some (.ref 38), some (.ref ke), some (.ref ks), some (.int (nI K.length)), some (.int (nI s)), x5] [] τ' Q := by
    intro d
    induction d with
    | zero =>
      intro s τ' K' T' x5 hs hO ha hT'
      have hsl : s = K.length := by omega
      subst hsl
      refine rt_run 2 rfl ?_
      refine rt_ge K.length K.length rfl (by omega) (by omega) (fun _ => ?_) (fun _ => by omega)
      refine rt_run 1 rfl ?_
      refine rt_getW1 rfl hT'.1 ?_
      refine rt_run 3 rfl ?_
      refine rt_getW2 rfl hT'.1 ?_
      refine rt_putW1 rfl ?_
      refine rt_run 2 rfl ?_
      refine rt_putW2 rfl ?_
      refine rt_run 1 rfl ?_
      refine rt_zret rfl rfl (Or.inr rfl) (h1 _ K' T' ha (fun k hk => hO.1 k hk) ?_)
      have hz : zW K K.length W = fun _ _ => 0 := by
        funext c w
        unfold zW
        rw [List.take_length]
        by_cases hc : c ∈ K
        · rw [if_pos hc]
        · rw [if_neg hc]; exact hT.2.2.2.2.2.2.1.2 c w hc
      rw [hz] at hT'
      obtain ⟨t1, t2, t3, t4, t5, t6, t7, t8⟩ := hT'
      exact ⟨rfl, t2, t3, t4, t6, t5, t8, t7⟩
    | succ d ih =>
      intro s τ' K' T' x5 hs hO ha hT'
      have hslt : s < K.length := by omega
      have hq : K[s]? = some K[s] := List.getElem?_eq_getElem hslt
      obtain ⟨T0, hpre⟩ := alN_pre ha
      have hpre : K' = K ++ T0 := hpre
      have hs' : K'[s]? = some K[s] := by rw [hpre, List.getElem?_append_left hslt]; exact hq
      have hkey := hT'.2.1.2.2.2.2.2.1 s (lN K[s]) (by rw [List.getElem?_map, hs']; rfl)
      have hlen' := hT'.len
      have hnext := alN_s ha hq
      have hcl := hT'.2.2.1 _ (List.mem_of_getElem? hs')
      have hnt : K[s] ∉ K.take s := by
        intro hin
        obtain ⟨j, hj⟩ := List.getElem?_of_mem hin
        have hj1 := (List.getElem?_eq_some_iff.mp hj).1
        rw [List.length_take] at hj1
        rw [List.getElem?_take] at hj
        split at hj
        · have := nodup_ix hnd hj hq
          omega
        · cases hj
      refine rt_run 2 rfl ?_
      refine rt_ge s K.length rfl (by omega) (by omega) (fun _ => by omega) (fun _ => ?_)
      refine rt_run 1 rfl ?_
      refine rt_g0 rfl ?_
      refine rt_run 2 rfl ?_
      refine rt_ldL s rfl (n := 400) rfl (by omega) ?_
      rw [hkey]
      refine rt_run 2 rfl ?_
      have zero : ∀ τ2 K2 T2 (y5 : Option Value), Off kTa τ τ2 → alN A L K W (s + 1) = some (K2, T2) → TaIs τ2 wa wb A K2 (zW K s W) T2 → K2[s]? = some K[s] → RT mX9_advances none 45 [some (.ref 38), some (.ref ke), some (.ref ks), some (.int (nI K.length)), some (.int (nI s)), y5] [] τ2 Q := by
        intro τ2 K2 T2 y5 hO2 ha2 hT2 hs2
        have hlen2 := hT2.len
        have hs2l := (List.getElem?_eq_some_iff.mp hs2).1
        have zl : ∀ d2 w τ3, w + d2 = 10 → Off kTa τ τ3 → TaIs τ3 wa wb A K2 (zP K[s] w (zW K s W)) T2 → RT mX9_advances none 48 [some (.ref 38), some (.ref ke), some (.ref ks), some (.int (nI K.length)), some (.int (nI s)), some (.int (nI w))] [] τ3 Q := by
          intro d2
          induction d2 with
          | zero =>
            intro w τ3 hwd hO3 hT3
            refine rt_run 2 rfl ?_
            refine rt_ge w 10 rfl (by omega) (by omega) (fun _ => ?_) (fun _ => by omega)
            refine rt_run 2 rfl ?_
            rw [← nI_succ]
            refine ih (s + 1) τ3 K2 T2 _ (by omega) hO3 ha2 ?_
            have hrow : ∀ (s' c' : Nat), K2[s']? = some c' → ∀ w', w' < 10 → zP K[s] w (zW K s W) c' w' = zW K (s + 1) W c' w' := by
              intro s' c' _ w' hw'
              have hmem : c' ∈ K.take (s + 1) ↔ c' ∈ K.take s ∨ c' = K[s] := by
                rw [List.take_add_one, hq, List.mem_append, Option.toList_some, List.mem_singleton]
              unfold zP zW
              by_cases hcc : c' = K[s]
              · rw [if_pos ⟨hcc, by omega⟩, if_pos (hmem.mpr (Or.inr hcc))]
              · rw [if_neg (fun hh => hcc hh.1)]
                by_cases hct : c' ∈ K.take s
                · rw [if_pos hct, if_pos (hmem.mpr (Or.inl hct))]
                · rw [if_neg hct, if_neg (fun hh => (hmem.mp hh).elim hct hcc)]
            obtain ⟨t1, t2, t3, t4, t5, t6, t7, t8⟩ := hT3
            refine ⟨t1, t2, t3, t4, fun s' c' hs' w' hw' => by rw [← hrow s' c' hs' w' hw']; exact t5 s' c' hs' w' hw', t6, ⟨fun c' w' => ?_, fun c' w' hc' => ?_⟩, t8⟩
            · unfold zW
              split
              · exact Nat.zero_le _
              · exact hT.2.2.2.2.2.2.1.1 c' w'
            · unfold zW
              split
              · rfl
              · refine hT.2.2.2.2.2.2.1.2 c' w' (fun hin => hc' ?_)
                obtain ⟨T5, hp5⟩ := alN_pre ha2
                have hp5 : K2 = K ++ T5 := hp5
                rw [hp5]
                exact List.mem_append_left _ hin
          | succ d2 ih2 =>
            intro w τ3 hwd hO3 hT3
            refine rt_run 2 rfl ?_
            refine rt_ge w 10 rfl (by omega) (by omega) (fun _ => by omega) (fun _ => ?_)
            refine rt_run 1 rfl ?_
            refine rt_getW1 rfl hT3.1 ?_
            refine rt_run 6 rfl ?_
            refine rt_st (s * 10 + w) rfl w1 (by omega) ?_ (by simp only [← nI_add, ← pk_mul]; rfl)
            refine rt_run 2 rfl ?_
            rw [← nI_succ]
            exact ih2 (w + 1) _ (by omega) (hO3.sI (by rcases hw with ⟨rfl, rfl⟩ | ⟨rfl, rfl⟩ <;> decide) _ _) (hT3.zero hw hs2 (by omega))
        refine rt_run 2 rfl ?_
        refine zl 10 0 τ2 (by omega) hO2 ?_
        have e : zP K[s] 0 (zW K s W) = zW K s W := by
          funext c' w'
          unfold zP
          rw [if_neg (by omega)]
        rw [e]
        exact hT2
      by_cases hc0 : K[s] = 0
      · have hcmp : lg_cmp (lN K[s]) 0 = 0 := by rw [hc0]; decide
        refine rt_if_eq rfl (fun _ => ?_) (fun hc => absurd hcmp hc)
        exact zero τ' K' T' x5 hO (by rw [hnext, if_pos hc0]) hT' hs'
      · have hcmp : ¬ lg_cmp (lN K[s]) 0 = 0 := by
          unfold lg_cmp
          intro hh
          split at hh
          · revert hh; decide
          · split at hh
            · rename_i _ he
              exact hc0 (lN_inj (a := K[s]) (b := 0) (by omega) (by decide) he)
            · revert hh; decide
        refine rt_if_eq rfl (fun hc => absurd hc hcmp) (fun _ => ?_)
        have hE' := hE.off hO (kTa_E hke)
        have hS' := hS.off hO (kTa_S hks)
        refine rt_run 4 rfl ?_
        refine rt_cV (ci := 9) mX9_advancesFrom kX9_advances_37 okX9_advancesFrom rfl rfl rfl rfl rfl ?_
        have hcg : ∀ w, zW K s W K[s] w = W K[s] w := by
          intro w
          unfold zW
          rw [if_neg hnt]
        refine advancesFrom_spec hw hke hks hE' hS' hL hT' hs' (fun τ2 K2 T2 ha2 hO2 hT2 hs2 => ?_) (fun hn τ2 hO2 => ?_)
        · refine rt_if_ne rfl (fun _ => ?_) (fun hc => absurd hc (by decide))
          refine zero τ2 K2 T2 x5 (hO.tr hO2) ?_ hT2 hs2
          rw [hnext, if_neg hc0, ← advN_congr hcg]
          exact ha2
        · refine rt_if_ne rfl (fun hc => absurd rfl hc) (fun _ => ?_)
          refine rt_run 1 rfl ?_
          refine rt_zret rfl rfl (Or.inl rfl) (h2 ?_ τ2 (hO.tr hO2))
          refine alN_none (s := s + 1) ?_ (by omega)
          rw [hnext, if_neg hc0, ← advN_congr hcg]
          exact hn
  refine rt_run 1 rfl ?_
  refine rt_g0 rfl ?_
  refine rt_run 1 rfl ?_
  rw [hsz]
  refine rt_run 3 rfl ?_
  refine loop K.length 0 τ K (fun _ _ => 0) none (by omega) (Off.rf _ _) rfl ?_
  have e : zW K 0 W = W := by
    funext c w
    unfold zW
    rw [List.take_zero, if_neg (by simp)]
  rw [e]
  exact hT
/-- the sum over the states that can be last, held below its limit -/
def totN (A : AE) (K : List Nat) (W : WF) (v : Nat) : Nat → Nat
  | 0 => 0
  | s + 1 => match K[s]? with
    | some c => if finB A c = true then min CM (totN A K W v s + W c v) else totN A K W v s
    | none => totN A K W v s
theorem totN_le (A : AE) (K : List Nat) (W : WF) (v n : Nat) : totN A K W v n ≤ CM := by
  induction n with
  | zero => exact Nat.zero_le _
  | succ n ih =>
    unfold totN
    split
    · split
      · exact Nat.min_le_left _ _
      · exact ih
    · exact ih
def fullI (m : Nat) : Int32 := if m = CM then -4 else nI m
theorem total_spec {ke wa wb v : Nat} {A : AE} {K : List Nat} {W T : WF} {τ : Ty} {Q : Option Value → Ty → Prop} (hw : isW wa wb) (hke : isE ke) (hE : ExIs τ ke A) (hT : TaIs τ wa wb A K W T) (hv : v < 10)
    (h : Q (some (.int (fullI (totN A K W v K.length)))) τ) : RT mX9_total none 0 [some (.ref 38), some (.ref ke), some (.int (nI v)), none, none] [] τ Q := by
  obtain ⟨w1, w2, w3, w4, w5⟩ := isW_f hw
  have hlen := hT.len
  have hsz : gF τ 39 2 = nI K.length := by rw [hT.2.1.1, List.length_map]
  have loop : ∀ d s, s + d = K.length → RT mX9_total none 5 [some (.ref 38), some (.ref ke), some (.int (nI v)), some (.int (nI (totN A K W v s))), some (.int (nI s))] [] τ Q := by
    intro d
    induction d with
    | zero =>
      intro s hs
      have : s = K.length := by omega
      subst this
      have hle : totN A K W v K.length ≤ 1000000001 := totN_le A K W v K.length
      refine rt_run 2 rfl ?_
      refine rt_g0 rfl ?_
      refine rt_run 1 rfl ?_
      refine rt_ge K.length K.length rfl (by omega) (by omega) (fun _ => ?_) (fun _ => by omega)
      refine rt_run 2 rfl ?_
      refine rt_ne (totN A K W v K.length) CM rfl (by omega) (by decide) (fun hne => ?_) (fun heq => ?_)
      · refine rt_run 1 rfl ?_
        unfold fullI at h
        rw [if_neg hne] at h
        exact rt_iret rfl rfl h
      · refine rt_run 2 rfl ?_
        unfold fullI at h
        rw [if_pos heq] at h
        exact rt_iret rfl rfl h
    | succ d ih =>
      intro s hs
      have hslt : s < K.length := by omega
      have hq : K[s]? = some K[s] := List.getElem?_eq_getElem hslt
      have hkey := hT.2.1.2.2.2.2.2.1 s (lN K[s]) (by rw [List.getElem?_map, hq]; rfl)
      have hcl := hT.2.2.1 _ (List.mem_of_getElem? hq)
      have hle : totN A K W v s ≤ 1000000001 := totN_le A K W v s
      have hWb : W K[s] v ≤ 1000000001 := hT.2.2.2.2.2.2.1.1 K[s] v
      refine rt_run 2 rfl ?_
      refine rt_g0 rfl ?_
      refine rt_run 1 rfl ?_
      refine rt_ge s K.length rfl (by omega) (by omega) (fun _ => by omega) (fun _ => ?_)
      refine rt_run 2 rfl ?_
      refine rt_g0 rfl ?_
      refine rt_run 2 rfl ?_
      refine rt_ldL s rfl (n := 400) rfl (by omega) ?_
      rw [hkey]
      refine rt_run 1 rfl ?_
      rw [lN_i]
      refine rt_cV (ci := 2) mX2_finishes kX9_total_29 okX2_finishes (isE_s hke) rfl rfl rfl rfl ?_
      refine finishes_specN hke hE hcl ?_
      have hn := ih (s + 1) (by omega)
      rw [nI_succ] at hn
      cases hf : finB A K[s] with
      | false =>
        refine rt_if_eq rfl (fun _ => ?_) (fun hc => absurd rfl hc)
        refine rt_run 2 rfl ?_
        have e : totN A K W v (s + 1) = totN A K W v s := by simp only [totN, hq, hf]; simp
        rw [e] at hn
        exact hn
      | true =>
        refine rt_if_eq rfl (fun hc => absurd hc (by decide)) (fun _ => ?_)
        refine rt_run 3 rfl ?_
        refine rt_getW1 rfl hT.1 ?_
        refine rt_run 5 rfl ?_
        refine rt_ld (s * 10 + v) rfl w1 (by omega) ?_ (by simp only [← nI_add, ← pk_mul]; rfl)
        rw [hT.2.2.2.2.1 s _ hq v hv]
        refine rt_run 1 rfl ?_
        refine rt_min rfl (by decide +kernel) (by decide) (Nat.le_of_ble_eq_true rfl) ?_
        rw [nI_add, minI (by omega)]
        refine rt_run 3 rfl ?_
        have e : totN A K W v (s + 1) = min CM (totN A K W v s + W K[s] v) := by simp only [totN, hq, hf]; simp
        rw [e] at hn
        exact hn
  refine rt_run 4 rfl ?_
  exact loop K.length 0 (by omega)
/-- n steps of all routes -/
def rouN (A : AE) (L : SL) (u : Nat) : Nat → Option (List Nat × WF)
  | 0 => some ([1], fun c w => if c = 1 ∧ w = u then 1 else 0)
  | k + 1 => (rouN A L u k).bind (fun KW => alN A L KW.1 KW.2 KW.1.length)
def rouI (A : AE) (L : SL) (u v n : Nat) : Int32 := match rouN A L u n with
  | none => -4
  | some KW => fullI (totN A KW.1 KW.2 v KW.1.length)
theorem rouN_none {A : AE} {L : SL} {u s t : Nat} (h : rouN A L u s = none) (hst : s ≤ t) : rouN A L u t = none := by
  induction t with
  | zero => have : s = 0 := by omega
            subst this; exact h
  | succ t ih =>
    by_cases hs : s = t + 1
    · subst hs; exact h
    · unfold rouN
      rw [ih (by omega)]; rfl
theorem isW_sym {wa wb : Nat} (h : isW wa wb) : isW wb wa := by
  rcases h with ⟨rfl, rfl⟩ | ⟨rfl, rfl⟩
  · exact Or.inr ⟨rfl, rfl⟩
  · exact Or.inl ⟨rfl, rfl⟩
theorem routesOf_spec {ke ks wa wb u v n : Nat} {A : AE} {L : SL} {τ : Ty} {Q : Option Value → Ty → Prop} (hw : isW wa wb) (hgW : gW τ = (wa, wb)) (hke : isE ke) (hks : isS ks) (hE : ExIs τ ke A) (hS : StIs τ ks L) (hL : StOk L) (hu : u < 10) (hv : v < 10) (hn : n < 1000)
    (h : ∀ τ' wa' wb', OffW kTa τ τ' → isW wa' wb' → gW τ' = (wa', wb') → Q (some (.int (rouI A L u v n))) τ') :
    RT mX9_routesOf none 0 [some (.ref 38), some (.ref ke), some (.ref ks), some (.int (nI u)), some (.int (nI v)), some (.int (nI n)), none, none] [] τ Q := by
  have loop : ∀ d k τ' wa' wb' K W, k + d = n → OffW kTa τ τ' → isW wa' wb' → rouN A L u k = some (K, W) → TaIs τ' wa' wb' A K W (fun _ _ => 0) → RT mX9_routesOf none 42 [some (.ref 38), some (.ref ke), some (.ref ks), some (.int (nI u)), some (.int (nI v)), some (.int (nI n)), some (.int (nI 0)), some (.int (nI k))] [] τ' Q := by
    intro d
    induction d with
    | zero =>
      intro k τ' wa' wb' K W hk hO hw' hr hT
      have : k = n := by omega
      subst this
      refine rt_run 2 rfl ?_
      refine rt_ge k k rfl (by omega) (by omega) (fun _ => ?_) (fun _ => by omega)
      refine rt_run 3 rfl ?_
      refine rt_cV (ci := 9) mX9_total kX9_routesOf_71 okX9_total rfl rfl rfl rfl rfl ?_
      refine total_spec hw' hke (hE.offW hO (kTa_E hke)) hT hv ?_
      refine rt_iret rfl rfl ?_
      have := h τ' wa' wb' hO hw' hT.1
      unfold rouI at this
      rw [hr] at this
      exact this
    | succ d ih =>
      intro k τ' wa' wb' K W hk hO hw' hr hT
      have hE' := hE.offW hO (kTa_E hke)
      have hS' := hS.offW hO (kTa_S hks)
      refine rt_run 2 rfl ?_
      refine rt_ge k n rfl (by omega) (by omega) (fun _ => by omega) (fun _ => ?_)
      refine rt_run 3 rfl ?_
      have hs1 : rouN A L u (k + 1) = alN A L K W K.length := by
        show (rouN A L u k).bind _ = _
        rw [hr]; rfl
      refine rt_cV (ci := 9) mX9_advances kX9_routesOf_52 okX9_advances rfl rfl rfl rfl rfl ?_
      refine advances_spec hw' hke hks hE' hS' hL hT (fun τ2 K2 T2 ha hO2 hT2 => ?_) (fun hno τ2 hO2 => ?_)
      · refine rt_if_ne rfl (fun _ => ?_) (fun hc => absurd hc (by decide))
        refine rt_run 2 rfl ?_
        rw [← nI_succ]
        exact ih (k + 1) τ2 wb' wa' K2 T2 (by omega) (hO.tr hO2) (isW_sym hw') (by rw [hs1]; exact ha) hT2
      · refine rt_if_ne rfl (fun hc => absurd rfl hc) (fun _ => ?_)
        refine rt_run 1 rfl ?_
        have := h τ2 wa' wb' (hO.tr hO2.w) hw' (hO2.2.trans hT.1)
        unfold rouI at this
        rw [rouN_none (s := k + 1) (by rw [hs1]; exact hno) (by omega)] at this
        exact rt_iret rfl rfl this
  refine rt_run 1 rfl ?_
  refine rt_g0 rfl ?_
  refine rt_run 1 rfl ?_
  refine rt_cV (ci := 8) mX8_reset kX9_routesOf_7 okX8_reset rfl rfl rfl rfl rfl ?_
  refine reset_spec (l := 400) (Or.inl rfl) (by decide) (fun τ1 hO1 hT1 => ?_)
  refine rt_run 2 rfl ?_
  refine rt_cV (ci := 9) mX9_stateOf kX9_routesOf_12 okX9_stateOf rfl rfl rfl rfl rfl ?_
  have hTa0 : TaIs τ1 wa wb A [] (fun _ _ => 0) (fun _ _ => 0) := ⟨hO1.2.trans hgW, hT1, fun c hc => by simp at hc, fun s c hc => by simp at hc, fun s c hc => by simp at hc, fun s c hc => by simp at hc, ⟨fun _ _ => Nat.zero_le _, fun _ _ _ => rfl⟩, ⟨fun _ _ => Nat.zero_le _, fun _ _ _ => rfl⟩⟩
  refine stateOf_spec (c := 1) hw hTa0 (by decide) (fun t ht => by simp at ht) (fun _ _ τ2 hO2 hT2 _ => ?_) (fun _ hfull => by simp at hfull)
  refine rt_run 3 rfl ?_
  refine rt_ic_ne rfl (fun _ => ?_) (fun hc => absurd hc (by decide))
  refine rt_run 1 rfl ?_
  refine rt_getW1 rfl hT2.1 ?_
  obtain ⟨w1, w2, w3, w4, w5⟩ := isW_f hw
  refine rt_run 6 rfl ?_
  refine rt_st u rfl w1 (by omega) ?_ (by
    have : nI ([] : List Nat).length * 10 + nI u = nI (0 * 10 + u) := by simp only [← nI_add, ← pk_mul]; rfl
    rw [this]; congr 1; omega)
  refine rt_run 2 rfl ?_
  refine loop n 0 _ wa wb [1] _ (by omega) (((hO1.up (by simp)).tr hO2).sI (by rcases hw with ⟨rfl, rfl⟩ | ⟨rfl, rfl⟩ <;> decide) _ _).w hw rfl ?_
  obtain ⟨t1, t2, t3, t4, t5, t6, t7, t8⟩ := hT2
  have hoff : Off [wa] τ2 (sI τ2 wa u 1) := (Off.rf _ _).sI (by simp) _ _
  refine ⟨t1, t2.off hoff (by rcases hw with ⟨rfl, rfl⟩ | ⟨rfl, rfl⟩ <;> decide), t3, fun s c hc sg hsg => ?_, fun s c hc w hw' => ?_, fun s c hc w hw' => ?_, ⟨fun c w => ?_, fun c w hc => ?_⟩, t8⟩
  · rw [gI_sI, if_neg (by rcases hw with ⟨rfl, rfl⟩ | ⟨rfl, rfl⟩ <;> decide)]
    exact t4 s c hc sg hsg
  · have hold := t5 s c hc w hw'
    rcases getApp (L := []) hc with ⟨hs, -⟩ | ⟨rfl, rfl⟩
    · simp at hs
    · rw [gI_sI, if_pos rfl]
      have e0 : ([] : List Nat).length * 10 + w = w := by simp
      rw [e0] at hold ⊢
      show upd (gI τ2 wa) u 1 w = nI (if (1 : Nat) = 1 ∧ w = u then 1 else 0)
      by_cases hwu : w = u
      · subst hwu; rw [pk_us, if_pos ⟨rfl, rfl⟩]; rfl
      · rw [pk_un hwu, if_neg (fun hh => hwu hh.2)]; exact hold
  · rw [gI_sI, if_neg (fun e => w3 e.symm)]; exact t6 s c hc w hw'
  · show (if c = 1 ∧ w = u then 1 else 0) ≤ 1000000001
    split <;> decide
  · show (if c = 1 ∧ w = u then 1 else 0) = 0
    rw [if_neg]
    rintro ⟨rfl, -⟩
    simp at hc

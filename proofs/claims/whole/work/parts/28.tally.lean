/-! Tally: states as they come, ways by state and vertex -/
def isW (wa wb : Nat) : Prop := (wa = 43 ∧ wb = 44) ∨ (wa = 44 ∧ wb = 43)
theorem isW_f {wa wb : Nat} (h : isW wa wb) : aI wa = some 4000 ∧ aI wb = some 4000 ∧ wa ≠ wb ∧ wa ∈ [43, 44] ∧ wb ∈ [43, 44] := by
  rcases h with ⟨rfl, rfl⟩ | ⟨rfl, rfl⟩ <;> exact ⟨rfl, rfl, by decide, by decide, by decide⟩
section RtW
variable {M : MD} {X : Option (Nat × (Nat → Int32))} {pc nx : Nat} {c : Int32} {cl : Int64} {lv : List (Option Value)} {st : List Value} {τ : Ty} {Q : Option Value → Ty → Prop}
theorem rt_getW1 {i wa wb : Nat} (hq : lk (mTab M) pc = some (.getfield i, nx, 9, 2, c, cl)) (hw : gW τ = (wa, wb)) (K : RT M X nx lv (.ref wa :: st) τ Q) : RT M X pc lv (.ref 38 :: st) τ Q := by
  refine rt_getR (r := 43) hq rfl ?_
  have e : swp τ 38 43 = (gW τ).1 := rfl
  rw [e, hw]
  exact K
theorem rt_getW2 {i wa wb : Nat} (hq : lk (mTab M) pc = some (.getfield i, nx, 9, 3, c, cl)) (hw : gW τ = (wa, wb)) (K : RT M X nx lv (.ref wb :: st) τ Q) : RT M X pc lv (.ref 38 :: st) τ Q := by
  refine rt_getR (r := 44) hq rfl ?_
  have e : swp τ 38 44 = (gW τ).2 := rfl
  rw [e, hw]
  exact K
theorem rt_g0 {i : Nat} (hq : lk (mTab M) pc = some (.getfield i, nx, 9, 0, c, cl)) (K : RT M X nx lv (.ref 39 :: st) τ Q) : RT M X pc lv (.ref 38 :: st) τ Q := rt_getR (r := 39) hq rfl K
theorem rt_g1 {i : Nat} (hq : lk (mTab M) pc = some (.getfield i, nx, 9, 1, c, cl)) (K : RT M X nx lv (.ref 42 :: st) τ Q) : RT M X pc lv (.ref 38 :: st) τ Q := rt_getR (r := 42) hq rfl K
theorem lay_sW {τ : Ty} (w : Nat × Nat) : (lay τ).set 38 (.inr (9, [.ref 39, .ref 42, .ref w.1, .ref w.2])) = lay (sW τ w) := by
  refine lay_set (s := .inr (9, [some 39, some 42, some 43, some 44])) rfl rfl (fun k' hk' => ⟨rfl, rfl, rfl, fun e => absurd e hk'⟩)
theorem rt_putW1 {i r : Nat} (hq : lk (mTab M) pc = some (.putfield i, nx, 9, 2, c, cl)) (K : RT M X nx lv st (sW τ (r, (gW τ).2)) Q) : RT M X pc lv (.ref r :: .ref 38 :: st) τ Q := fun bc bs => by
  refine rj_put0 (fs := [.ref 39, .ref 42, .ref (gW τ).1, .ref (gW τ).2]) hq (lay_get (s := .inr (9, [some 39, some 42, some 43, some 44])) rfl) (Nat.le_of_ble_eq_true rfl) (ty := .array .int) rfl (fun _ _ => rfl) (fun _ _ => rfl) ?_
  have := lay_sW (τ := τ) (r, (gW τ).2)
  show RJ M X bc bs nx lv st ((lay τ).set 38 (.inr (9, [.ref 39, .ref 42, .ref r, .ref (gW τ).2]))) _
  rw [this]
  exact K bc bs
theorem rt_putW2 {i r : Nat} (hq : lk (mTab M) pc = some (.putfield i, nx, 9, 3, c, cl)) (K : RT M X nx lv st (sW τ ((gW τ).1, r)) Q) : RT M X pc lv (.ref r :: .ref 38 :: st) τ Q := fun bc bs => by
  refine rj_put0 (fs := [.ref 39, .ref 42, .ref (gW τ).1, .ref (gW τ).2]) hq (lay_get (s := .inr (9, [some 39, some 42, some 43, some 44])) rfl) (Nat.le_of_ble_eq_true rfl) (ty := .array .int) rfl (fun _ _ => rfl) (fun _ _ => rfl) ?_
  have := lay_sW (τ := τ) ((gW τ).1, r)
  show RJ M X bc bs nx lv st ((lay τ).set 38 (.inr (9, [.ref 39, .ref 42, .ref (gW τ).1, .ref r]))) _
  rw [this]
  exact K bc bs
end RtW
abbrev CM : Nat := 1000000001
abbrev WF : Type := Nat → Nat → Nat
def addK (K : List Nat) (x : Nat) : List Nat := if x ∈ K then K else K ++ [x]
def RowsAt (τ : Ty) (k : Nat) (K : List Nat) (W : WF) : Prop := ∀ s c, K[s]? = some c → ∀ w, w < 10 → gI τ k (s * 10 + w) = nI (W c w)
def WFok (K : List Nat) (W : WF) : Prop := (∀ c w, W c w ≤ CM) ∧ ∀ c w, c ∉ K → W c w = 0
def NxOk (τ : Ty) (A : AE) (K : List Nat) : Prop := ∀ s c, K[s]? = some c → ∀ sg, sg < 8 → gI τ 42 (s * 8 + sg) = -1 ∨ ∃ t, K[t]? = some (nx A c sg) ∧ gI τ 42 (s * 8 + sg) = nI t
def TaIs (τ : Ty) (wa wb : Nat) (A : AE) (K : List Nat) (W T : WF) : Prop :=
  gW τ = (wa, wb) ∧ TabIs τ 39 (K.map lN) 400 ∧ (∀ c ∈ K, c < 33554432) ∧ NxOk τ A K ∧ RowsAt τ wa K W ∧ RowsAt τ wb K T ∧ WFok K W ∧ WFok K T
abbrev kTa : List Nat := [39, 40, 41, 42, 43, 44]
theorem lN_mem {K : List Nat} {c : Nat} (hK : ∀ c ∈ K, c < 33554432) (hc : c < 33554432) : lN c ∈ K.map lN ↔ c ∈ K := by
  rw [List.mem_map]
  constructor
  · rintro ⟨y, hy, he⟩
    have := hK y hy
    rw [← lN_inj (by omega) (by omega) he]
    exact hy
  · intro h
    exact ⟨c, h, rfl⟩
theorem neg1 {j : Nat} (hj : j < 1000000) : ¬ nI j = -1 := by
  intro e
  have h9 : (nI j).toInt = (j : Int) := nI_toInt (by omega)
  rw [e] at h9
  have h10 : (-1 : Int32).toInt = -1 := by decide
  omega
theorem kTa_E {k : Nat} (hk : isE k) : k ∉ kTa ∧ k + 1 ∉ kTa ∧ k + 2 ∉ kTa := by rcases hk with rfl | rfl | rfl | rfl | rfl <;> decide
theorem kTa_S {k : Nat} (hk : isS k) : k ∉ kTa ∧ k + 1 ∉ kTa ∧ k + 2 ∉ kTa ∧ k + 3 ∉ kTa ∧ k + 4 ∉ kTa := by rcases hk with rfl | rfl | rfl <;> decide
set_option maxHeartbeats 2000000 in
theorem stateOf_spec {wa wb c : Nat} {A : AE} {K : List Nat} {W T : WF} {τ : Ty} {Q : Option Value → Ty → Prop} (hw : isW wa wb) (hT : TaIs τ wa wb A K W T) (hc : c < 33554432)
    (h1 : ∀ t, K[t]? = some c → Q (some (.int (nI t))) τ) (h2 : c ∉ K → K.length < 400 → ∀ τ', Off kTa τ τ' → TaIs τ' wa wb A (K ++ [c]) W T → (∀ s, s < K.length * 8 → gI τ' 42 s = gI τ 42 s) → Q (some (.int (nI K.length))) τ') (h3 : c ∉ K → 400 ≤ K.length → Q (some (.int (-1))) τ) :
    RT mX9_stateOf none 0 [some (.ref 38), some (.int (nI c)), none, none, none] [] τ Q := by
  obtain ⟨w1, w2, w3, w4, w5⟩ := isW_f hw
  obtain ⟨t1, t2, t3, t4, t5, t6, t7, t8⟩ := id hT
  have hsz : gF τ 39 2 = nI K.length := by rw [t2.1, List.length_map]
  have hlen := t2.2.2.1
  rw [List.length_map] at hlen
  refine rt_run 1 rfl ?_
  refine rt_g0 rfl ?_
  refine rt_run 1 rfl ?_
  rw [hsz]
  refine rt_run 2 rfl ?_
  refine rt_g0 rfl ?_
  refine rt_run 2 rfl ?_
  rw [nI_l (by omega)]
  refine rt_cV (ci := 8) mX8_numberOf kX9_stateOf_14 okX8_numberOf rfl rfl rfl rfl rfl ?_
  refine numberOf_spec (Or.inl rfl) t2 (fun j hj => ?_) (fun hn hl => ?_) (fun hn hl τ1 hO1 hT1 => ?_)
  · have hj1 := (List.getElem?_eq_some_iff.mp hj).1
    rw [List.length_map] at hj1
    rw [List.getElem?_map] at hj
    obtain ⟨y, hy, he⟩ := Option.map_eq_some_iff.mp hj
    have hyc : y = c := lN_inj (by have := t3 y (List.mem_of_getElem? hy); omega) (by omega) he
    subst hyc
    refine rt_run 3 rfl ?_
    refine rt_ne j K.length rfl (by omega) (by omega) (fun _ => ?_) (fun e => by omega)
    refine rt_run 1 rfl ?_
    exact rt_iret rfl rfl (h1 j hy)
  · rw [List.length_map] at hl
    refine rt_run 3 rfl ?_
    refine rt_ic_ne rfl (fun _ => ?_) (fun hc => absurd hc.symm (neg1 (by omega)))
    refine rt_run 1 rfl ?_
    exact rt_iret rfl rfl (h3 (fun e => hn ((lN_mem t3 hc).mpr e)) (by omega))
  · rw [List.length_map] at hl ⊢
    have hnK : c ∉ K := fun e => hn ((lN_mem t3 hc).mpr e)
    have hOa : Off kTa τ τ1 := hO1.up (by simp)
    have e42 : gI τ1 42 = gI τ 42 := (hO1.1 42 (by decide)).1
    have ewa : gI τ1 wa = gI τ wa := (hO1.1 wa (by rcases hw with ⟨rfl, rfl⟩ | ⟨rfl, rfl⟩ <;> decide)).1
    have ewb : gI τ1 wb = gI τ wb := (hO1.1 wb (by rcases hw with ⟨rfl, rfl⟩ | ⟨rfl, rfl⟩ <;> decide)).1
    have eW1 : gW τ1 = (wa, wb) := hO1.2.trans t1
    refine rt_run 3 rfl ?_
    refine rt_ne K.length K.length rfl (by omega) (by omega) (fun e => absurd rfl e) (fun _ => ?_)
    have loop2 : ∀ d sg τ', sg + d = 8 → Off [42, 43, 44] τ1 τ' → gI τ' wa = gI τ' wa → (∀ j, j < K.length * 10 → gI τ' wa j = gI τ wa j ∧ gI τ' wb j = gI τ wb j) → (∀ w, w < 10 → gI τ' wa (K.length * 10 + w) = 0 ∧ gI τ' wb (K.length * 10 + w) = 0) → (∀ j, j < K.length * 8 → gI τ' 42 j = gI τ 42 j) → (∀ s, s < sg → gI τ' 42 (K.length * 8 + s) = -1) →
        RT mX9_stateOf none 68 [some (.ref 38), some (.int (nI c)), some (.int (nI K.length)), some (.int (nI K.length)), some (.int (nI sg))] [] τ' Q := by
      intro d
      induction d with
      | zero =>
        intro sg τ' hsg hO' _ hold hz hnold hnew
        refine rt_run 2 rfl ?_
        refine rt_ge sg 8 rfl (by omega) (by omega) (fun _ => ?_) (fun _ => by omega)
        refine rt_run 1 rfl ?_
        have hTab : TabIs τ' 39 ((K ++ [c]).map lN) 400 := by
          rw [List.map_append]
          exact hT1.off hO' (by decide)
        refine rt_iret rfl rfl (h2 hnK hl τ' (hOa.tr (hO'.up (by simp))) ⟨hO'.2.trans eW1, hTab, fun x hx => ?_, ?_, ?_, ?_, ⟨t7.1, fun x w hx => ?_⟩, ⟨t8.1, fun x w hx => ?_⟩⟩ hnold)
        · rcases List.mem_append.mp hx with hx | hx
          · exact t3 x hx
          · simp at hx; subst hx; exact hc
        · intro s x hx sg' hsg'
          rcases getApp hx with ⟨hs, hx⟩ | ⟨rfl, rfl⟩
          · rw [hnold _ (by omega)]
            rcases t4 s x hx sg' hsg' with h | ⟨t, ht, hv⟩
            · exact Or.inl h
            · refine Or.inr ⟨t, ?_, hv⟩
              rw [List.getElem?_append_left (List.getElem?_eq_some_iff.mp ht).1]
              exact ht
          · exact Or.inl (hnew sg' (by omega))
        · intro s x hx w hw'
          rcases getApp hx with ⟨hs, hx⟩ | ⟨rfl, rfl⟩
          · rw [(hold _ (by omega)).1]; exact t5 s x hx w hw'
          · rw [(hz w hw').1, t7.2 _ w hnK]; rfl
        · intro s x hx w hw'
          rcases getApp hx with ⟨hs, hx⟩ | ⟨rfl, rfl⟩
          · rw [(hold _ (by omega)).2]; exact t6 s x hx w hw'
          · rw [(hz w hw').2, t8.2 _ w hnK]; rfl
        · exact t7.2 x w (fun e => hx (List.mem_append_left _ e))
        · exact t8.2 x w (fun e => hx (List.mem_append_left _ e))
      | succ d ih =>
        intro sg τ' hsg hO' _ hold hz hnold hnew
        refine rt_run 2 rfl ?_
        refine rt_ge sg 8 rfl (by omega) (by omega) (fun _ => by omega) (fun _ => ?_)
        refine rt_run 1 rfl ?_
        refine rt_g1 rfl ?_
        refine rt_run 6 rfl ?_
        refine rt_st (K.length * 8 + sg) rfl (n := 3200) rfl (by omega) ?_ (by simp only [← nI_add, ← pk_mul]; rfl)
        refine rt_run 2 rfl ?_
        rw [← nI_succ]
        have n42 : ∀ x, x ∈ [43, 44] → gI (sI τ' 42 (K.length * 8 + sg) (-1)) x = gI τ' x := by
          intro x hx
          rw [gI_sI, if_neg (by intro e; subst e; revert hx; decide)]
        refine ih (sg + 1) _ (by omega) (hO'.sI (by simp) _ _) rfl (fun j hj => ?_) (fun w hw' => ?_) (fun j hj => ?_) (fun s hs => ?_)
        · rw [n42 wa w4, n42 wb w5]; exact hold j hj
        · rw [n42 wa w4, n42 wb w5]; exact hz w hw'
        · rw [gI_sI, if_pos rfl, pk_un (by omega)]; exact hnold j hj
        · rw [gI_sI, if_pos rfl]
          by_cases hss : s = sg
          · subst hss; rw [pk_us]
          · rw [pk_un (by omega)]; exact hnew s (by omega)
    have loop1 : ∀ d w τ', w + d = 10 → Off [42, 43, 44] τ1 τ' → gI τ' 42 = gI τ 42 → (∀ j, j < K.length * 10 → gI τ' wa j = gI τ wa j ∧ gI τ' wb j = gI τ wb j) → (∀ v, v < w → gI τ' wa (K.length * 10 + v) = 0 ∧ gI τ' wb (K.length * 10 + v) = 0) →
        RT mX9_stateOf none 26 [some (.ref 38), some (.int (nI c)), some (.int (nI K.length)), some (.int (nI K.length)), some (.int (nI w))] [] τ' Q := by
      intro d
      induction d with
      | zero =>
        intro w τ' hwd hO' h42 hold hz
        refine rt_run 2 rfl ?_
        refine rt_ge w 10 rfl (by omega) (by omega) (fun _ => ?_) (fun _ => by omega)
        refine rt_run 2 rfl ?_
        exact loop2 8 0 τ' (by omega) hO' rfl hold (fun v hv => hz v (by omega)) (fun j _ => by rw [h42]) (fun s hs => by omega)
      | succ d ih =>
        intro w τ' hwd hO' h42 hold hz
        have hW' : gW τ' = (wa, wb) := hO'.2.trans eW1
        refine rt_run 2 rfl ?_
        refine rt_ge w 10 rfl (by omega) (by omega) (fun _ => by omega) (fun _ => ?_)
        refine rt_run 1 rfl ?_
        refine rt_getW1 rfl hW' ?_
        refine rt_run 6 rfl ?_
        refine rt_st (K.length * 10 + w) rfl w1 (by omega) ?_ (by simp only [← nI_add, ← pk_mul]; rfl)
        refine rt_run 1 rfl ?_
        refine rt_getW2 rfl hW' ?_
        refine rt_run 6 rfl ?_
        refine rt_st (K.length * 10 + w) rfl w2 (by omega) ?_ (by simp only [← nI_add, ← pk_mul]; rfl)
        refine rt_run 2 rfl ?_
        rw [← nI_succ]
        have m43 : ∀ x, x ∈ [43, 44] → x ∈ [42, 43, 44] := by decide
        have n42 : ∀ x, x ∈ [43, 44] → x ≠ 42 := by decide
        refine ih (w + 1) _ (by omega) ((hO'.sI (m43 _ w4) _ _).sI (m43 _ w5) _ _) ?_ (fun j hj => ⟨?_, ?_⟩) (fun v hv => ⟨?_, ?_⟩)
        · rw [gI_sI, if_neg (fun e => n42 _ w5 e.symm), gI_sI, if_neg (fun e => n42 _ w4 e.symm)]; exact h42
        · rw [gI_sI, if_neg w3, gI_sI, if_pos rfl, pk_un (by omega)]; exact (hold j hj).1
        · rw [gI_sI, if_pos rfl, pk_un (by omega), gI_sI, if_neg (fun e => w3 e.symm)]; exact (hold j hj).2
        · rw [gI_sI, if_neg w3, gI_sI, if_pos rfl]
          by_cases hvw : v = w
          · subst hvw; rw [pk_us]
          · rw [pk_un (by omega)]; exact (hz v (by omega)).1
        · rw [gI_sI, if_pos rfl]
          by_cases hvw : v = w
          · subst hvw; rw [pk_us]
          · rw [pk_un (by omega), gI_sI, if_neg (fun e => w3 e.symm)]; exact (hz v (by omega)).2
    refine rt_run 2 rfl ?_
    exact loop1 10 0 τ1 (by omega) (Off.rf _ _) e42 (fun j _ => by rw [ewa, ewb]; exact ⟨rfl, rfl⟩) (fun v hv => by omega)

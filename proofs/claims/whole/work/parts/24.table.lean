/-! Table: keys numbered as they come -/
theorem hs_ex (x : Int64) : ∃ n, n < 1024 ∧ (x.toUInt64 >>> ((54 : Int32).toInt64.toUInt64 &&& Int64.toUInt64 63)).toInt64.toInt32 = nI n := by
  have e : ((54 : Int32).toInt64.toUInt64 &&& Int64.toUInt64 63) = 54 := by decide +kernel
  rw [e]
  refine ⟨(x.toUInt64 >>> 54).toNat, ?_, ?_⟩
  · rw [UInt64.toNat_shiftRight]
    have h1 : x.toUInt64.toNat < 18446744073709551616 := x.toUInt64.toNat_lt
    have h2 : (54 : UInt64).toNat % 64 = 54 := by decide
    rw [h2, Nat.shiftRight_eq_div_pow]
    omega
  · have h3 : (x.toUInt64 >>> 54).toInt64 = lN (x.toUInt64 >>> 54).toNat := by
      apply Int64.toBitVec_inj.mp
      show (x.toUInt64 >>> 54).toBitVec = BitVec.ofNat 64 _
      apply BitVec.eq_of_toNat_eq
      rw [BitVec.toNat_ofNat]
      exact (Nat.mod_eq_of_lt (x.toUInt64 >>> 54).toNat_lt).symm
    rw [h3, lN_i]
noncomputable def hsh (key : Int64) : Nat := (hs_ex (key * -7046029254386353131)).choose
theorem hsh_lt (key : Int64) : hsh key < 1024 := (hs_ex (key * -7046029254386353131)).choose_spec.1
theorem hsh_eq (key : Int64) : ((key * -7046029254386353131).toUInt64 >>> ((54 : Int32).toInt64.toUInt64 &&& Int64.toUInt64 63)).toInt64.toInt32 = nI (hsh key) := (hs_ex (key * -7046029254386353131)).choose_spec.2
def TabIs (τ : Ty) (k : Nat) (K : List Int64) (lim : Nat) : Prop :=
  gF τ k 2 = nI K.length ∧ gF τ k 3 = nI lim ∧ K.length ≤ lim ∧ lim ≤ 400 ∧ K.Nodup ∧ (∀ i x, K[i]? = some x → gL τ (k + 1) i = x) ∧
  (List.range 1024).countP (fun s => decide (¬ gI τ (k + 2) s = 0)) = K.length ∧ (∀ s, s < 1024 → ¬ gI τ (k + 2) s = 0 → ∃ j, j < K.length ∧ gI τ (k + 2) s = nI (j + 1)) ∧
  ∀ j x, K[j]? = some x → ∃ t, t < 1024 ∧ gI τ (k + 2) ((hsh x + t) % 1024) = nI (j + 1) ∧ ∀ t', t' < t → ¬ gI τ (k + 2) ((hsh x + t') % 1024) = 0
abbrev kT (k : Nat) : List Nat := [k, k + 1, k + 2]
theorem TabIs.off {ks : List Nat} {τ τ' : Ty} {k : Nat} {K : List Int64} {lim : Nat} (h : TabIs τ k K lim) (ho : Off ks τ τ') (h1 : k ∉ ks ∧ k + 1 ∉ ks ∧ k + 2 ∉ ks) : TabIs τ' k K lim := by
  unfold TabIs at *
  rw [(ho.1 k h1.1).2.2, (ho.1 _ h1.2.1).2.1, (ho.1 _ h1.2.2).1]
  exact h
theorem countP_upd {f g : Nat → Bool} {l : List Nat} {s : Nat} (hn : l.Nodup) (hs : s ∈ l) (h0 : f s = false) (h1 : g s = true) (h2 : ∀ x, x ≠ s → g x = f x) : l.countP g = l.countP f + 1 := by
  induction l with
  | nil => cases hs
  | cons a l ih =>
    rw [List.countP_cons, List.countP_cons]
    rw [List.nodup_cons] at hn
    rcases List.mem_cons.mp hs with rfl | hs
    · rw [h0, h1]
      have : l.countP g = l.countP f := List.countP_congr (fun x hx => by rw [h2 x (fun e => hn.1 (e ▸ hx))])
      simp [this]
    · have hne : a ≠ s := fun e => hn.1 (e ▸ hs)
      rw [ih hn.2 hs, h2 a hne]
      omega
set_option maxRecDepth 20000 in
theorem numberOf_spec {k lim : Nat} {K : List Int64} {key : Int64} {τ : Ty} {Q : Option Value → Ty → Prop} (hk : isT k) (hT : TabIs τ k K lim)
    (h1 : ∀ j, K[j]? = some key → Q (some (.int (nI j))) τ) (h2 : key ∉ K → lim ≤ K.length → Q (some (.int (-1))) τ)
    (h3 : key ∉ K → K.length < lim → ∀ τ', Off (kT k) τ τ' → TabIs τ' k (K ++ [key]) lim → Q (some (.int (nI K.length))) τ') :
    RT mX8_numberOf none 0 [some (.ref k), some (.long key), none, none, none, none] [] τ Q := by
  obtain ⟨f0, f1, f2, f3, a0, a1, h38⟩ := isT_f hk
  obtain ⟨t1, t2, t3, t4, t5, t6, t7, t8, t9⟩ := hT
  have hl := hsh_lt key
  -- the first place that is free or holds the key
  have hz : ∃ t, gI τ (k + 2) ((hsh key + t) % 1024) = 0 := by
    by_cases hh : ∃ s, s < 1024 ∧ gI τ (k + 2) s = 0
    · obtain ⟨s, hs, h0⟩ := hh
      refine ⟨(s + 1024 - hsh key), ?_⟩
      rw [show hsh key + (s + 1024 - hsh key) = s + 1024 by omega, Nat.add_mod_right, Nat.mod_eq_of_lt hs]
      exact h0
    · exfalso
      have : (List.range 1024).countP (fun s => decide (¬ gI τ (k + 2) s = 0)) = 1024 := by
        conv => rhs; rw [show 1024 = (List.range 1024).length by rw [List.length_range]]
        rw [List.countP_eq_length]
        intro s hs
        exact decide_eq_true (fun h0 => hh ⟨s, List.mem_range.mp hs, h0⟩)
      omega
  have hP : ∃ t, (gI τ (k + 2) ((hsh key + t) % 1024) = 0 ∨ ∃ j, K[j]? = some key ∧ gI τ (k + 2) ((hsh key + t) % 1024) = nI (j + 1)) := by
    obtain ⟨t, ht⟩ := hz
    exact ⟨t, Or.inl ht⟩
  obtain ⟨T, hT0, hTm⟩ := pk_least _ hP
  have hT1024 : T < 1024 := by
    by_cases hlt : T < 1024
    · exact hlt
    · exfalso
      refine hTm (T - 1024) (by omega) ?_
      rw [show (hsh key + (T - 1024)) % 1024 = (hsh key + T) % 1024 by omega]
      exact hT0
  have loop : ∀ d t (x5 : Option Value), t + d = T → RT mX8_numberOf none 13 [some (.ref k), some (.long key), none, some (.int (nI ((hsh key + t) % 1024))), some (.int (nI t)), x5] [] τ Q := by
    intro d
    induction d with
    | zero =>
      intro t x5 ht
      have ht : t = T := by omega
      subst ht
      refine rt_run 2 rfl ?_
      refine rt_ge t 1024 rfl (by omega) (by omega) (fun _ => by omega) (fun _ => ?_)
      refine rt_run 1 rfl ?_
      refine rt_getQ rfl f1 h38 ?_
      refine rt_run 1 rfl ?_
      refine rt_ld ((hsh key + t) % 1024) rfl a1 (by omega) ?_
      rcases hT0 with h0 | ⟨j, hj, h0⟩
      · -- free
        have hnin : key ∉ K := by
          intro hin
          obtain ⟨j, hj⟩ := List.getElem?_of_mem hin
          obtain ⟨t', ht', g1, g2⟩ := t9 j key hj
          have hj1 := (List.getElem?_eq_some_iff.mp hj).1
          by_cases hlt : t' < t
          · exact hTm t' hlt (Or.inr ⟨j, hj, g1⟩)
          · by_cases heq : t' = t
            · subst heq
              rw [h0] at g1
              exact nI_ne0 (by omega) (by omega) g1.symm
            · exact g2 t (by omega) h0
        rw [h0]
        refine rt_run 2 rfl ?_
        refine rt_if_eq rfl (fun _ => ?_) (fun hc => absurd rfl hc)
        refine rt_run 1 rfl ?_
        refine rt_if_ne rfl (fun hc => absurd rfl hc) (fun _ => ?_)
        refine rt_run 1 rfl ?_
        refine rt_getI rfl f2 ?_
        refine rt_run 1 rfl ?_
        refine rt_getI rfl f3 ?_
        refine rt_lt K.length lim rfl (by omega) (by omega) (fun hlt => ?_) (fun hge => ?_) t1 t2
        · refine rt_run 1 rfl ?_
          refine rt_if_ne rfl (fun hc => absurd rfl hc) (fun _ => ?_)
          refine rt_run 1 rfl ?_
          refine rt_getQ rfl f0 h38 ?_
          refine rt_run 1 rfl ?_
          refine rt_getI rfl f2 ?_
          refine rt_run 1 rfl ?_
          refine rt_stL K.length rfl a0 (by omega) ?_ t1
          refine rt_run 2 rfl ?_
          refine rt_getI rfl f2 ?_
          refine rt_run 2 rfl ?_
          refine rt_putI rfl f2 rfl ?_
          rw [gF_sL, t1, ← nI_succ]
          refine rt_run 1 rfl ?_
          refine rt_getQ rfl f1 h38 ?_
          refine rt_run 2 rfl ?_
          refine rt_getI rfl f2 ?_
          have e2 : gF (sF (sL τ (k + 1) K.length key) k 2 (nI (K.length + 1))) k 2 = nI (K.length + 1) := by rw [gF_sF, if_pos rfl, pk_us]
          rw [e2]
          refine rt_st ((hsh key + t) % 1024) rfl a1 (by omega) ?_
          refine rt_run 1 rfl ?_
          refine rt_getI rfl f2 ?_
          refine rt_run 2 rfl ?_
          have e3 : gF (sI (sF (sL τ (k + 1) K.length key) k 2 (nI (K.length + 1))) (k + 2) ((hsh key + t) % 1024) (nI (K.length + 1))) k 2 = nI (K.length + 1) := e2
          rw [e3, nI_pred]
          refine rt_iret rfl rfl (h3 hnin hlt _ ((((Off.rf _ _).sL (by simp) _ _).sF (by simp) _ _).sI (by simp) _ _) ?_)
          have eI : gI (sI (sF (sL τ (k + 1) K.length key) k 2 (nI (K.length + 1))) (k + 2) ((hsh key + t) % 1024) (nI (K.length + 1))) (k + 2) = upd (gI τ (k + 2)) ((hsh key + t) % 1024) (nI (K.length + 1)) := by rw [gI_sI, if_pos rfl]; rfl
          have eL : gL (sI (sF (sL τ (k + 1) K.length key) k 2 (nI (K.length + 1))) (k + 2) ((hsh key + t) % 1024) (nI (K.length + 1))) (k + 1) = vp_updL (gL τ (k + 1)) K.length key := by rw [gL_sI, gL_sF, gL_sL, if_pos rfl]
          have hnz : ¬ nI (K.length + 1) = 0 := nI_ne0 (by omega) (by omega)
          refine ⟨by rw [List.length_append]; exact e3, ?_, by rw [List.length_append]; exact hlt, t4, ?_, fun i x hx => ?_, ?_, fun s hs hne => ?_, fun j x hx => ?_⟩
          · show gF (sF (sL τ (k + 1) K.length key) k 2 (nI (K.length + 1))) k 3 = nI lim
            rw [gF_sF, if_pos rfl, pk_un (by decide)]
            exact t2
          · rw [List.nodup_append]
            refine ⟨t5, by simp, fun a ha b hb => ?_⟩
            simp at hb
            subst hb
            exact fun e => hnin (e ▸ ha)
          · rw [eL]
            rcases getApp hx with ⟨hi, hx⟩ | ⟨rfl, rfl⟩
            · rw [pk_uLn (by omega)]; exact t6 i x hx
            · exact pk_uLs
          · have hnz' : ¬ upd (gI τ (k + 2)) ((hsh key + t) % 1024) (nI (K.length + 1)) ((hsh key + t) % 1024) = 0 := by rw [pk_us]; exact hnz
            have hcu := countP_upd (f := fun s => decide (¬ gI τ (k + 2) s = 0)) (g := fun s => decide (¬ upd (gI τ (k + 2)) ((hsh key + t) % 1024) (nI (K.length + 1)) s = 0)) List.nodup_range (List.mem_range.mpr (show (hsh key + t) % 1024 < 1024 by omega)) (by simp [h0]) (decide_eq_true hnz') (fun s hs => by simp only [pk_un hs])
            rw [eI, List.length_append, hcu, t7]
            rfl
          · rw [eI] at hne ⊢
            rw [List.length_append]
            by_cases hsp : s = (hsh key + t) % 1024
            · subst hsp
              exact ⟨K.length, by simp, pk_us⟩
            · rw [pk_un hsp] at hne ⊢
              obtain ⟨j, hj, hj2⟩ := t8 s hs hne
              exact ⟨j, by simp; omega, hj2⟩
          · rw [eI]
            have keepnz : ∀ s, ¬ gI τ (k + 2) s = 0 → ¬ upd (gI τ (k + 2)) ((hsh key + t) % 1024) (nI (K.length + 1)) s = 0 := by
              intro s hs
              by_cases hsp : s = (hsh key + t) % 1024
              · subst hsp; rw [pk_us]; exact hnz
              · rw [pk_un hsp]; exact hs
            rcases getApp hx with ⟨hi, hx⟩ | ⟨rfl, rfl⟩
            · obtain ⟨t', ht', g1, g2⟩ := t9 j x hx
              refine ⟨t', ht', ?_, fun t'' ht'' => keepnz _ (g2 t'' ht'')⟩
              rw [pk_un]
              · exact g1
              · intro e
                rw [e, h0] at g1
                exact nI_ne0 (by omega) (by omega) g1.symm
            · refine ⟨t, hT1024, pk_us, fun t'' ht'' => keepnz _ (fun e => hTm t'' ht'' (Or.inl e))⟩
        · refine rt_run 1 rfl ?_
          exact rt_iret rfl rfl (h2 hnin hge)
      · have hj1 := (List.getElem?_eq_some_iff.mp hj).1
        rw [h0]
        refine rt_run 2 rfl ?_
        refine rt_if_eq rfl (fun hc => absurd hc (nI_ne0 (by omega) (by omega))) (fun _ => ?_)
        refine rt_run 1 rfl ?_
        refine rt_getQ rfl f0 h38 ?_
        refine rt_run 3 rfl ?_
        refine rt_ldL j rfl a0 (by omega) ?_ (nI_pred j)
        rw [t6 j key hj]
        refine rt_run 2 rfl ?_
        refine rt_if_ne rfl (fun hc => absurd (by simp [lg_cmp]) hc) (fun _ => ?_)
        refine rt_run 3 rfl ?_
        rw [nI_pred]
        exact rt_iret rfl rfl (h1 j hj)
    | succ d ih =>
      intro t x5 ht
      have hnot := hTm t (by omega)
      have hne : ¬ gI τ (k + 2) ((hsh key + t) % 1024) = 0 := fun e => hnot (Or.inl e)
      obtain ⟨j, hj, hj2⟩ := t8 _ (by omega) hne
      have hkj : K[j]? = some K[j] := List.getElem?_eq_getElem hj
      have hkne : K[j] ≠ key := fun e => hnot (Or.inr ⟨j, by rw [hkj, e], hj2⟩)
      refine rt_run 2 rfl ?_
      refine rt_ge t 1024 rfl (by omega) (by omega) (fun _ => by omega) (fun _ => ?_)
      refine rt_run 1 rfl ?_
      refine rt_getQ rfl f1 h38 ?_
      refine rt_run 1 rfl ?_
      refine rt_ld ((hsh key + t) % 1024) rfl a1 (by omega) ?_
      rw [hj2]
      refine rt_run 2 rfl ?_
      refine rt_if_eq rfl (fun hc => absurd hc (nI_ne0 (by omega) (by omega))) (fun _ => ?_)
      refine rt_run 1 rfl ?_
      refine rt_getQ rfl f0 h38 ?_
      refine rt_run 3 rfl ?_
      refine rt_ldL j rfl a0 (by omega) ?_ (nI_pred j)
      rw [t6 j _ hkj]
      refine rt_run 2 rfl ?_
      have hcmp : ¬ lg_cmp K[j] key = 0 := by
        unfold lg_cmp
        split
        · decide
        · first | decide | (rw [if_neg hkne]; decide)
      refine rt_if_ne rfl (fun _ => ?_) (fun hc => absurd hc hcmp)
      refine rt_run 1 rfl ?_
      refine rt_if_ne rfl (fun _ => ?_) (fun hc => absurd hc (nI_ne0 (by omega) (by omega)))
      refine rt_run 1 rfl ?_
      refine rt_if_ne rfl (fun _ => ?_) (fun hc => absurd hc (nI_ne0 (by omega) (by omega)))
      refine rt_run 8 rfl ?_
      have e1 : (nI ((hsh key + t) % 1024) + 1) &&& 1023 = nI ((hsh key + (t + 1)) % 1024) := by
        have e2 : ((hsh key + t) % 1024 + 1) % 2 ^ 10 = (hsh key + (t + 1)) % 1024 := by
          rw [show (2 : Nat) ^ 10 = 1024 by decide]
          omega
        rw [nI_1, pk_andN (by omega) 10 (by decide), e2]
      rw [e1, ← nI_succ]
      exact ih (t + 1) _ (by omega)
  refine rt_run 9 rfl ?_
  have := loop T 0 none (by omega)
  rw [Nat.add_zero, Nat.mod_eq_of_lt hl, ← hsh_eq] at this
  exact this
theorem reset_spec {k l : Nat} {τ : Ty} {Q : Option Value → Ty → Prop} (hk : isT k) (hl : l ≤ 400) (h : ∀ τ', Off (kT k) τ τ' → TabIs τ' k [] l → Q none τ') : RT mX8_reset none 0 [some (.ref k), some (.int (nI l))] [] τ Q := by
  obtain ⟨f0, f1, f2, f3, a0, a1, h38⟩ := isT_f hk
  refine rt_run 1 rfl ?_
  refine rt_getQ rfl f1 h38 ?_
  refine rt_run 1 rfl ?_
  refine rt_cS mJ7_fill_53178 kX8_reset_5 okJ7_fill_53178 rfl rfl ?_
  refine fill_spec a1 (fun f hf => ?_)
  refine rt_run 2 rfl ?_
  refine rt_putI rfl f2 rfl ?_
  refine rt_run 3 rfl ?_
  refine rt_min rfl (by decide +kernel) (by decide) (Nat.le_of_ble_eq_true rfl) ?_
  rw [show (if (400 : Int32) < nI l then (400 : Int32) else nI l) = nI l by
    rw [if_neg]
    exact nI_nlt (a := 400) (b := l) hl (by omega)]
  refine rt_putI rfl f3 rfl ?_
  refine rt_vret rfl rfl (h _ ((((Off.rf _ _).sA (by simp) _).sF (by simp) _ _).sF (by simp) _ _) ⟨?_, ?_, Nat.zero_le _, hl, List.nodup_nil, fun i x hx => by simp at hx, ?_, fun s hs hne => ?_, fun j x hx => by simp at hx⟩)
  · rw [gF_sF, if_pos rfl, pk_un (by decide), gF_sF, if_pos rfl, pk_us]; rfl
  · rw [gF_sF, if_pos rfl, pk_us]
  · have e : gI (sF (sF (sA τ (k + 2) f) k 2 0) k 3 (nI l)) (k + 2) = f := by rw [gI_sF, gI_sF, gI_sA, if_pos rfl]
    rw [e]
    rw [List.length_nil, List.countP_eq_zero]
    intro s hs
    simp [hf s (List.mem_range.mp hs)]
  · have e : gI (sF (sF (sA τ (k + 2) f) k 2 0) k 3 (nI l)) (k + 2) = f := by rw [gI_sF, gI_sF, gI_sA, if_pos rfl]
    rw [e] at hne
    exact absurd (hf s hs) hne

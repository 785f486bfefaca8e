/-! the law's loop, from its entry -/
section LawLoop
variable {L : Nat} {xs : Nat → Int32}
theorem law_case {i n : Nat} {τ : Ty} {a : AS} {Q : Option Value → Ty → Prop} (hn : n < 32) (hL : L ≤ 3072) (hi : i + 6 ≤ L) (hC : CIs τ a) (hM : MIs τ a) (next : ∀ τ2 a2, CIs τ2 a2 → MIs τ2 a2 → RT mL_law (some (L, xs)) 944 [some (.ref 1000000), some (.ref 0), some (.ref 63), some (.int (nI i))] [] τ2 Q) :
    RT mL_law (some (L, xs)) 33 [some (.ref 1000000), some (.ref 0), some (.ref 63), some (.int (nI i))] [.int (nI n)] τ Q := by
  by_cases h25 : 24 < n
  · refine rt_tsOut (tgt := 944) rfl (Or.inr ?_) (by decide) (next τ a hC hM)
    rw [nI_toInt (by omega)]
    omega
  rcases (show n = 0 ∨ n = 1 ∨ n = 2 ∨ n = 3 ∨ n = 4 ∨ n = 5 ∨ n = 6 ∨ n = 7 ∨ n = 8 ∨ n = 9 ∨ n = 10 ∨ n = 11 ∨ n = 12 ∨ n = 13 ∨ n = 14 ∨ n = 15 ∨ n = 16 ∨ n = 17 ∨ n = 18 ∨ n = 19 ∨ n = 20 ∨ n = 21 ∨ n = 22 ∨ n = 23 ∨ n = 24 by omega) with rfl | rfl | rfl | rfl | rfl | rfl | rfl | rfl | rfl | rfl | rfl | rfl | rfl | rfl | rfl | rfl | rfl | rfl | rfl | rfl | rfl | rfl | rfl | rfl | rfl
  · exact rt_tsIn (off := 115) (tgt := 148) rfl (by decide) (by decide) rfl (by decide) (law_c0 hL hi hC hM next)
  · exact rt_tsIn (off := 158) (tgt := 191) rfl (by decide) (by decide) rfl (by decide) (law_c1 hL hi hC hM next)
  · exact rt_tsIn (off := 181) (tgt := 214) rfl (by decide) (by decide) rfl (by decide) (law_c2 hL hi hC hM next)
  · exact rt_tsIn (off := 194) (tgt := 227) rfl (by decide) (by decide) rfl (by decide) (law_c3 hL hi hC hM next)
  · exact rt_tsIn (off := 227) (tgt := 260) rfl (by decide) (by decide) rfl (by decide) (law_c4 hL hi hC hM next)
  · exact rt_tsIn (off := 260) (tgt := 293) rfl (by decide) (by decide) rfl (by decide) (law_c5 hL hi hC hM next)
  · exact rt_tsIn (off := 283) (tgt := 316) rfl (by decide) (by decide) rfl (by decide) (law_c6 hL hi hC hM next)
  · exact rt_tsIn (off := 296) (tgt := 329) rfl (by decide) (by decide) rfl (by decide) (law_c7 hL hi hC hM next)
  · exact rt_tsIn (off := 319) (tgt := 352) rfl (by decide) (by decide) rfl (by decide) (law_c8 hL hi hC hM next)
  · exact rt_tsIn (off := 352) (tgt := 385) rfl (by decide) (by decide) rfl (by decide) (law_c9 hL hi hC hM next)
  · exact rt_tsIn (off := 395) (tgt := 428) rfl (by decide) (by decide) rfl (by decide) (law_c10 hL hi hC hM next)
  · exact rt_tsIn (off := 428) (tgt := 461) rfl (by decide) (by decide) rfl (by decide) (law_c11 hL hi hC hM next)
  · exact rt_tsIn (off := 461) (tgt := 494) rfl (by decide) (by decide) rfl (by decide) (law_c12 hL hi hC hM next)
  · exact rt_tsIn (off := 504) (tgt := 537) rfl (by decide) (by decide) rfl (by decide) (law_c13 hL hi hC hM next)
  · exact rt_tsIn (off := 537) (tgt := 570) rfl (by decide) (by decide) rfl (by decide) (law_c14 hL hi hC hM next)
  · exact rt_tsIn (off := 560) (tgt := 593) rfl (by decide) (by decide) rfl (by decide) (law_c15 hL hi hC hM next)
  · exact rt_tsIn (off := 603) (tgt := 636) rfl (by decide) (by decide) rfl (by decide) (law_c16 hL hi hC hM next)
  · exact rt_tsIn (off := 656) (tgt := 689) rfl (by decide) (by decide) rfl (by decide) (law_c17 hL hi hC hM next)
  · exact rt_tsIn (off := 719) (tgt := 752) rfl (by decide) (by decide) rfl (by decide) (law_c18 hL hi hC hM next)
  · exact rt_tsIn (off := 762) (tgt := 795) rfl (by decide) (by decide) rfl (by decide) (law_c19 hL hi hC hM next)
  · exact rt_tsIn (off := 785) (tgt := 818) rfl (by decide) (by decide) rfl (by decide) (law_c20 hL hi hC hM next)
  · exact rt_tsIn (off := 808) (tgt := 841) rfl (by decide) (by decide) rfl (by decide) (law_c21 hL hi hC hM next)
  · exact rt_tsIn (off := 841) (tgt := 874) rfl (by decide) (by decide) rfl (by decide) (law_c22 hL hi hC hM next)
  · exact rt_tsIn (off := 874) (tgt := 907) rfl (by decide) (by decide) rfl (by decide) (law_c23 hL hi hC hM next)
  · exact rt_tsIn (off := 897) (tgt := 930) rfl (by decide) (by decide) rfl (by decide) (law_c24 hL hi hC hM next)
set_option maxRecDepth 100000 in
theorem law_loop {Q : Option Value → Ty → Prop} (hL : L ≤ 3072) (h : ∀ τ, Q (some (.int 1)) τ) : ∀ n i τ a, L ≤ i + n → i ≤ 4000 → CIs τ a → MIs τ a → RT mL_law (some (L, xs)) 18 [some (.ref 1000000), some (.ref 0), some (.ref 63), some (.int (nI i))] [] τ Q := by
  have step : ∀ n i τ a, L ≤ i + n → i ≤ 4000 → CIs τ a → MIs τ a → (i + 6 ≤ L → ∀ τ2 a2, CIs τ2 a2 → MIs τ2 a2 → RT mL_law (some (L, xs)) 18 [some (.ref 1000000), some (.ref 0), some (.ref 63), some (.int (nI (i + 6)))] [] τ2 Q) → RT mL_law (some (L, xs)) 18 [some (.ref 1000000), some (.ref 0), some (.ref 63), some (.int (nI i))] [] τ Q := by
    intro n i τ a hn hi hC hM go
    refine rt_run 2 rfl ?_
    refine rt_slen rfl ?_
    refine rt_run 2 rfl ?_
    refine rt_ic_gt rfl (fun _ => ?_) (fun hc => ?_)
    · refine rt_run 1 rfl ?_
      exact rt_zret rfl rfl (Or.inr rfl) (h τ)
    · have hiL : i + 6 ≤ L := by
        have e1 : (nI L - 6).toInt = (L : Int) - 6 := pk_sub_toInt (a := L) (b := 6) (by omega) (by decide)
        have e2 : (nI i).toInt = (i : Int) := nI_toInt (by omega)
        rw [Int32.lt_iff_toInt_lt, e1, e2] at hc
        omega
      refine rt_run 2 rfl ?_
      refine rt_sld i rfl (by omega) (by omega) ?_ rfl
      refine rt_run 2 rfl ?_
      obtain ⟨k, hk, ek⟩ := and31 (xs i)
      rw [ek]
      refine law_case hk hL hiL hC hM (fun τ2 a2 hC2 hM2 => ?_)
      refine rt_run 2 rfl ?_
      rw [show nI i + 6 = nI (i + 6) by rw [← nI_add]; rfl]
      exact go hiL τ2 a2 hC2 hM2
  intro n
  induction n with
  | zero =>
    intro i τ a hn hi hC hM
    exact step 0 i τ a hn hi hC hM (fun hc => by omega)
  | succ n ih =>
    intro i τ a hn hi hC hM
    exact step (n + 1) i τ a hn hi hC hM (fun hc τ2 a2 hC2 hM2 => ih (i + 6) τ2 a2 (by omega) (by omega) hC2 hM2)
set_option maxRecDepth 100000 in
theorem law_rj (hL : L ≤ 3072) : RJ mL_law (some (L, xs)) 600000 7302250 0 [some (.ref 1000000), none, none, none] [] [] (fun v _ => v = some (.int 1)) := by
  refine rj_new (a := 10) rfl rfl rfl (fun _ _ => rfl) (by decide +kernel) (by decide) (Nat.le_of_ble_eq_true rfl) (Nat.le_of_ble_eq_true rfl) ?_
  refine rj_step rfl rfl ?_
  refine rj_callI (k := 0) mX10_init rfl kL_law_4 rfl (by decide) (Nat.le_of_ble_eq_true rfl) okX10_init (Nat.le_of_ble_eq_true rfl) (Nat.le_of_ble_eq_true rfl) (Nat.le_of_ble_eq_true rfl) ?_
  refine x10_init (fun f1 f2 f3 f4 hf => ⟨rfl, ?_⟩)
  have hlen : (clsAll f1 f2 f3 f4).length = 63 := rfl
  refine rj_step rfl rfl ?_
  refine rj_new (a := 11) rfl rfl rfl (fun _ _ => rfl) (by decide +kernel) (by rw [hlen]; decide) (Nat.le_of_ble_eq_true rfl) (Nat.le_of_ble_eq_true rfl) ?_
  refine rj_step rfl rfl ?_
  refine rj_callI (k := (clsAll f1 f2 f3 f4).length) mX11_init rfl kL_law_12 rfl (by rw [hlen]; decide) (Nat.le_of_ble_eq_true rfl) okX11_init (Nat.le_of_ble_eq_true rfl) (Nat.le_of_ble_eq_true rfl) (Nat.le_of_ble_eq_true rfl) ?_
  refine x11_init (σ0 := clsAll f1 f2 f3 f4) (by rw [hlen]; decide) (fun g hg => ⟨?_, ?_⟩)
  · rw [List.length_append, List.length_append]
    rfl
  · rw [hlen, lay_start]
    refine rj_step rfl rfl ?_
    refine rj_step rfl rfl ?_
    refine rj_step rfl rfl ?_
    exact RJ.mono (fun v σ' hq => hq.choose_spec.2) (law_loop (Q := fun v _ => v = some (.int 1)) hL (fun _ => rfl) L 0 (tyI f1 f2 f3 f4 g) asI (by omega) (by omega) (ci_start g hf) (mi_start f1 f2 f3 f4 hg) _ _)
end LawLoop

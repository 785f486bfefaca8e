/-! by program: the small constructors -/
section RjFo2
variable {M : MD} {X : Option (Nat × (Nat → Int32))} {bc bs pc nx a b : Nat} {c : Int32} {cl : Int64} {lv : List (Option Value)} {st : List Value} {σ0 r : List va_E} {e : va_E} {Q : Option Value → List va_E → Prop}
theorem fo_make2 {iN iC nx1 nx2 nx3 a' b1 b2 b3 : Nat} {c1 c2 c3 : Int32} {l1 l2 l3 : Int64} {N : Nat} {C : String} {T : u_T} {host : String} {ds : List Value} {B : Nat} (Mc : MD) (cells : Nat → List va_E)
    (hq1 : lk (mTab M) pc = some (.new iN, nx1, a', b1, c1, l1)) (hq2 : lk (mTab M) nx1 = some (.dup, nx2, a, b2, c2, l2)) (hq3 : lk (mTab M) nx2 = some (.invokespecial iC, nx3, 0, b3, c3, l3))
    (hc : vwCl[a']? = some (C, T, N)) (hfs : (tyTab[a']?.map (fun l => l.map (fun q => defaultValue q.2))) = some ds) (hfl : ∀ b sz, ds.map (xv b sz) = ds) (hw : decide (Jvm.Cond.classLink (mY M).cls iN C ∈ lw_tbl) && decide (Jvm.Cond.instantiable C N ∈ lw_tbl) && decide (Jvm.Cond.initialized C ∈ lw_tbl) = true)
    (hcn : cnOk M iC 0 Mc host = true) (hok : mOk Mc = true) (hml : mML Mc = 1) (h0 : σ0.length + 1001 < B ∧ B ≤ 900000) (hr : Nat.ble r.length 1000 = true) (hst : Nat.ble (catSum st) 6 = true) (hbc : Nat.ble (1 + (mRm Mc).cells) bc = true) (hbs : Nat.ble (N + (mRm Mc).slots) bs = true) (hlen : ∀ n, (cells n).length = 1 + (mRm Mc).cells)
    (hsub : ∀ (σ : List va_E) (Q' : Option Value → List va_E → Prop), σ.length < B → Q' none (σ ++ cells σ.length) → RJ Mc none (mRm Mc).cells (mRm Mc).slots 0 [some (.ref σ.length)] [] (σ ++ [.inr (a', ds)]) Q')
    (K : RJ M X (bc - 1 - (mRm Mc).cells) (bs - N - (mRm Mc).slots) nx3 lv (.ref (σ0.length + (r.length + 1)) :: st) (σ0 ++ e :: (r ++ cells (σ0.length + (r.length + 1)))) Q) : RJ M X bc bs pc lv st (σ0 ++ e :: r) Q := by
  have hr := Nat.le_of_ble_eq_true hr
  have hl : (σ0 ++ e :: r).length < B := by rw [fo_len]; omega
  refine fo_make Mc cells hq1 hq2 hq3 hc hfs hfl hw hcn hok hml (by omega) hst hbc hbs hlen (fun Q' h => hsub _ Q' hl h) ?_
  rw [fo_len, List.append_assoc]
  exact K
theorem fo_newE {i : Nat} {n : Int32} (N : Nat) (hq : lk (mTab M) pc = some (.anewarray i, nx, a, b, c, cl)) (hw : Jvm.Cond.classLink (mY M).cls i "SpeltRoutes$Expression" ∈ lw_tbl) (h0 : σ0.length < 900000) (hr : Nat.ble r.length 1000 = true) (hn : ¬ n < 0) (hN : n.toNatClampNeg = N) (hby : Nat.ble N 100000 = true) (hbc : Nat.ble 1 bc = true) (hbs : Nat.ble N bs = true)
    (K : RJ M X (bc - 1) (bs - N) nx lv (.ref (σ0.length + (r.length + 1)) :: st) (σ0 ++ e :: (r ++ [.inl (2, N, .inr (.inr (.inr (.inr (fun _ => none)))))])) Q) : RJ M X bc bs pc lv (.int n :: st) (σ0 ++ e :: r) Q := by
  have hr := Nat.le_of_ble_eq_true hr
  refine rj_newE hq hw hn hN (Nat.le_of_ble_eq_true hby) (by rw [fo_len]; omega) (Nat.le_of_ble_eq_true hbc) (Nat.le_of_ble_eq_true hbs) ?_
  rw [fo_len, List.append_assoc]
  exact K
end RjFo2
section Makes2
variable {σ0 : List va_E} {Q : Option Value → List va_E → Prop}
theorem x1_init (h0 : σ0.length < 900000) (h : Q none (σ0 ++ cEdges σ0.length)) : RJ mX1_init none 3 90 0 [some (.ref σ0.length)] [] (σ0 ++ [.inr (1, [.null, .null, .null, .int 0])]) Q := by
  refine rj_step rfl rfl ?_
  refine rj_obj rfl (by decide +kernel) (by decide) (by decide) ?_
  refine rj_step rfl rfl ?_
  refine rj_step rfl rfl ?_
  refine fo_newI 30 rfl (by omega) rfl (by decide) rfl rfl rfl rfl ?_
  refine fo_putF rfl rfl rfl rfl rfl (fun _ _ => rfl) (fun _ _ => rfl) ?_
  refine rj_step rfl rfl ?_
  refine rj_step rfl rfl ?_
  refine fo_newI 30 rfl (by omega) rfl (by decide) rfl rfl rfl rfl ?_
  refine fo_putF rfl rfl rfl rfl rfl (fun _ _ => rfl) (fun _ _ => rfl) ?_
  refine rj_step rfl rfl ?_
  refine rj_step rfl rfl ?_
  refine fo_newI 30 rfl (by omega) rfl (by decide) rfl rfl rfl rfl ?_
  refine fo_putF rfl rfl rfl rfl rfl (fun _ _ => rfl) (fun _ _ => rfl) ?_
  refine rj_step rfl rfl ?_
  refine rj_step rfl rfl ?_
  refine fo_put rfl rfl rfl (fun _ _ => rfl) (fun _ _ => rfl) ?_
  exact rj_vret rfl rfl h
theorem x2_init (h0 : σ0.length < 900000) (h : Q none (σ0 ++ cExp σ0.length)) : RJ mX2_init none 2 33 0 [some (.ref σ0.length)] [] (σ0 ++ [.inr (2, [.null, .null, .int 0, .int 0, .int 0])]) Q := by
  refine rj_step rfl rfl ?_
  refine rj_obj rfl (by decide +kernel) (by decide) (by decide) ?_
  refine rj_step rfl rfl ?_
  refine rj_step rfl rfl ?_
  refine fo_newI 25 rfl (by omega) rfl (by decide) rfl rfl rfl rfl ?_
  refine fo_putF rfl rfl rfl rfl rfl (fun _ _ => rfl) (fun _ _ => rfl) ?_
  refine rj_step rfl rfl ?_
  refine rj_step rfl rfl ?_
  refine fo_newI 8 rfl (by omega) rfl (by decide) rfl rfl rfl rfl ?_
  refine fo_putF rfl rfl rfl rfl rfl (fun _ _ => rfl) (fun _ _ => rfl) ?_
  refine rj_step rfl rfl ?_
  refine rj_step rfl rfl ?_
  refine fo_put rfl rfl rfl (fun _ _ => rfl) (fun _ _ => rfl) ?_
  refine rj_step rfl rfl ?_
  refine rj_step rfl rfl ?_
  refine fo_put rfl rfl rfl (fun _ _ => rfl) (fun _ _ => rfl) ?_
  refine rj_step rfl rfl ?_
  refine rj_step rfl rfl ?_
  refine fo_put rfl rfl rfl (fun _ _ => rfl) (fun _ _ => rfl) ?_
  exact rj_vret rfl rfl h
theorem x3_init (h0 : σ0.length < 900000) (h : Q none (σ0 ++ cReach σ0.length)) : RJ mX3_init none 3 30 0 [some (.ref σ0.length)] [] (σ0 ++ [.inr (3, [.null, .null, .null])]) Q := by
  refine rj_step rfl rfl ?_
  refine rj_obj rfl (by decide +kernel) (by decide) (by decide) ?_
  refine rj_step rfl rfl ?_
  refine rj_step rfl rfl ?_
  refine fo_newI 10 rfl (by omega) rfl (by decide) rfl rfl rfl rfl ?_
  refine fo_putF rfl rfl rfl rfl rfl (fun _ _ => rfl) (fun _ _ => rfl) ?_
  refine rj_step rfl rfl ?_
  refine rj_step rfl rfl ?_
  refine fo_newI 10 rfl (by omega) rfl (by decide) rfl rfl rfl rfl ?_
  refine fo_putF rfl rfl rfl rfl rfl (fun _ _ => rfl) (fun _ _ => rfl) ?_
  refine rj_step rfl rfl ?_
  refine rj_step rfl rfl ?_
  refine fo_newI 10 rfl (by omega) rfl (by decide) rfl rfl rfl rfl ?_
  refine fo_putF rfl rfl rfl rfl rfl (fun _ _ => rfl) (fun _ _ => rfl) ?_
  exact rj_vret rfl rfl h
theorem x5_init (h0 : σ0.length < 900000) (h : Q none (σ0 ++ cShort σ0.length)) : RJ mX5_init none 3 2770 0 [some (.ref σ0.length)] [] (σ0 ++ [.inr (5, [.null, .null, .null])]) Q := by
  refine rj_step rfl rfl ?_
  refine rj_obj rfl (by decide +kernel) (by decide) (by decide) ?_
  refine rj_step rfl rfl ?_
  refine rj_step rfl rfl ?_
  refine fo_newI 2510 rfl (by omega) rfl (by decide) rfl rfl rfl rfl ?_
  refine fo_putF rfl rfl rfl rfl rfl (fun _ _ => rfl) (fun _ _ => rfl) ?_
  refine rj_step rfl rfl ?_
  refine rj_step rfl rfl ?_
  refine fo_newI 10 rfl (by omega) rfl (by decide) rfl rfl rfl rfl ?_
  refine fo_putF rfl rfl rfl rfl rfl (fun _ _ => rfl) (fun _ _ => rfl) ?_
  refine rj_step rfl rfl ?_
  refine rj_step rfl rfl ?_
  refine fo_newI 250 rfl (by omega) rfl (by decide) rfl rfl rfl rfl ?_
  refine fo_putF rfl rfl rfl rfl rfl (fun _ _ => rfl) (fun _ _ => rfl) ?_
  exact rj_vret rfl rfl h
theorem x6_init (h0 : σ0.length < 900000) (h : Q none (σ0 ++ cStand σ0.length)) : RJ mX6_init none 1 10 0 [some (.ref σ0.length)] [] (σ0 ++ [.inr (6, [.null, .int 0, .int 0, .int 0])]) Q := by
  refine rj_step rfl rfl ?_
  refine rj_obj rfl (by decide +kernel) (by decide) (by decide) ?_
  refine rj_step rfl rfl ?_
  refine rj_step rfl rfl ?_
  refine fo_newI 10 rfl (by omega) rfl (by decide) rfl rfl rfl rfl ?_
  refine fo_putF rfl rfl rfl rfl rfl (fun _ _ => rfl) (fun _ _ => rfl) ?_
  refine rj_step rfl rfl ?_
  refine rj_step rfl rfl ?_
  refine fo_put rfl rfl rfl (fun _ _ => rfl) (fun _ _ => rfl) ?_
  refine rj_step rfl rfl ?_
  refine rj_step rfl rfl ?_
  refine fo_put rfl rfl rfl (fun _ _ => rfl) (fun _ _ => rfl) ?_
  refine rj_step rfl rfl ?_
  refine rj_step rfl rfl ?_
  refine fo_put rfl rfl rfl (fun _ _ => rfl) (fun _ _ => rfl) ?_
  exact rj_vret rfl rfl h
theorem x7_init (h0 : σ0.length < 900000) (h : Q none (σ0 ++ cSteps σ0.length)) : RJ mX7_init none 4 240 0 [some (.ref σ0.length)] [] (σ0 ++ [.inr (7, [.null, .null, .null, .null, .int 0])]) Q := by
  refine rj_step rfl rfl ?_
  refine rj_obj rfl (by decide +kernel) (by decide) (by decide) ?_
  refine rj_step rfl rfl ?_
  refine rj_step rfl rfl ?_
  refine fo_newI 60 rfl (by omega) rfl (by decide) rfl rfl rfl rfl ?_
  refine fo_putF rfl rfl rfl rfl rfl (fun _ _ => rfl) (fun _ _ => rfl) ?_
  refine rj_step rfl rfl ?_
  refine rj_step rfl rfl ?_
  refine fo_newI 60 rfl (by omega) rfl (by decide) rfl rfl rfl rfl ?_
  refine fo_putF rfl rfl rfl rfl rfl (fun _ _ => rfl) (fun _ _ => rfl) ?_
  refine rj_step rfl rfl ?_
  refine rj_step rfl rfl ?_
  refine fo_newI 60 rfl (by omega) rfl (by decide) rfl rfl rfl rfl ?_
  refine fo_putF rfl rfl rfl rfl rfl (fun _ _ => rfl) (fun _ _ => rfl) ?_
  refine rj_step rfl rfl ?_
  refine rj_step rfl rfl ?_
  refine fo_newI 60 rfl (by omega) rfl (by decide) rfl rfl rfl rfl ?_
  refine fo_putF rfl rfl rfl rfl rfl (fun _ _ => rfl) (fun _ _ => rfl) ?_
  refine rj_step rfl rfl ?_
  refine rj_step rfl rfl ?_
  refine fo_put rfl rfl rfl (fun _ _ => rfl) (fun _ _ => rfl) ?_
  exact rj_vret rfl rfl h
theorem x4_init (h0 : σ0.length < 850000) (h : Q none (σ0 ++ cReader σ0.length)) : RJ mX4_init none 7 362 0 [some (.ref σ0.length)] [] (σ0 ++ [.inr (4, [.null, .null, .null, .null, .null, .int 0, .int 0, .int 0, .int 0])]) Q := by
  refine rj_step rfl rfl ?_
  refine rj_obj rfl (by decide +kernel) (by decide) (by decide) ?_
  refine rj_step rfl rfl ?_
  refine fo_make2 mX2_init cExp rfl rfl rfl rfl rfl (fun _ _ => rfl) (by decide +kernel) kX4_init_9 okX2_init rfl (by omega) rfl rfl rfl rfl (fun _ => rfl) (fun _ _ g0 g1 => x2_init g0 g1) ?_
  refine fo_putF rfl rfl rfl rfl rfl (fun _ _ => rfl) (fun _ _ => rfl) ?_
  refine rj_step rfl rfl ?_
  refine rj_step rfl rfl ?_
  refine fo_newI 81 rfl (by omega) rfl (by decide) rfl rfl rfl rfl ?_
  refine fo_putF rfl rfl rfl rfl rfl (fun _ _ => rfl) (fun _ _ => rfl) ?_
  refine rj_step rfl rfl ?_
  refine rj_step rfl rfl ?_
  refine fo_newI 81 rfl (by omega) rfl (by decide) rfl rfl rfl rfl ?_
  refine fo_putF rfl rfl rfl rfl rfl (fun _ _ => rfl) (fun _ _ => rfl) ?_
  refine rj_step rfl rfl ?_
  refine rj_step rfl rfl ?_
  refine fo_newI 81 rfl (by omega) rfl (by decide) rfl rfl rfl rfl ?_
  refine fo_putF rfl rfl rfl rfl rfl (fun _ _ => rfl) (fun _ _ => rfl) ?_
  refine rj_step rfl rfl ?_
  refine rj_step rfl rfl ?_
  refine fo_newI 81 rfl (by omega) rfl (by decide) rfl rfl rfl rfl ?_
  refine fo_putF rfl rfl rfl rfl rfl (fun _ _ => rfl) (fun _ _ => rfl) ?_
  exact rj_vret rfl rfl h
theorem x9_init (h0 : σ0.length < 850000) (h : Q none (σ0 ++ cTally σ0.length)) : RJ mX9_init none 6 12628 0 [some (.ref σ0.length)] [] (σ0 ++ [.inr (9, [.null, .null, .null, .null])]) Q := by
  refine rj_step rfl rfl ?_
  refine rj_obj rfl (by decide +kernel) (by decide) (by decide) ?_
  refine rj_step rfl rfl ?_
  refine fo_make2 mX8_init cTable rfl rfl rfl rfl rfl (fun _ _ => rfl) (by decide +kernel) kX9_init_9 okX8_init rfl (by omega) rfl rfl rfl rfl (fun _ => rfl) (fun _ _ g0 g1 => x8_init g0 g1) ?_
  refine fo_putF rfl rfl rfl rfl rfl (fun _ _ => rfl) (fun _ _ => rfl) ?_
  refine rj_step rfl rfl ?_
  refine rj_step rfl rfl ?_
  refine fo_newI 3200 rfl (by omega) rfl (by decide) rfl rfl rfl rfl ?_
  refine fo_putF rfl rfl rfl rfl rfl (fun _ _ => rfl) (fun _ _ => rfl) ?_
  refine rj_step rfl rfl ?_
  refine rj_step rfl rfl ?_
  refine fo_newI 4000 rfl (by omega) rfl (by decide) rfl rfl rfl rfl ?_
  refine fo_put rfl rfl rfl (fun _ _ => rfl) (fun _ _ => rfl) ?_
  refine rj_step rfl rfl ?_
  refine rj_step rfl rfl ?_
  refine fo_newI 4000 rfl (by omega) rfl (by decide) rfl rfl rfl rfl ?_
  refine fo_put rfl rfl rfl (fun _ _ => rfl) (fun _ _ => rfl) ?_
  exact rj_vret rfl rfl h
theorem x0_init (h0 : σ0.length < 850000) (h : Q none (σ0 ++ cComp σ0.length)) : RJ mX0_init none 3 1428 0 [some (.ref σ0.length)] [] (σ0 ++ [.inr (0, [.null])]) Q := by
  refine rj_step rfl rfl ?_
  refine rj_obj rfl (by decide +kernel) (by decide) (by decide) ?_
  refine rj_step rfl rfl ?_
  refine fo_make2 mX8_init cTable rfl rfl rfl rfl rfl (fun _ _ => rfl) (by decide +kernel) kX0_init_9 okX8_init rfl (by omega) rfl rfl rfl rfl (fun _ => rfl) (fun _ _ g0 g1 => x8_init g0 g1) ?_
  refine fo_putF rfl rfl rfl rfl rfl (fun _ _ => rfl) (fun _ _ => rfl) ?_
  exact rj_vret rfl rfl h
end Makes2

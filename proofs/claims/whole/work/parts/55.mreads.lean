/-! the reference's readsAll beside the class's reader -/
def rdAt (T : List Nat) (i : Nat) (S : PSt) : Nat ⊕ AE := rdL (T.drop i) i S
theorem rd_hit {T : List Nat} {i b : Nat} {S : PSt} (h : T[i]? = some b) : rdAt T i S = match tk b S with
    | none => .inl i
    | some S' => rdAt T (i + 1) S' := by
  obtain ⟨hi, e⟩ := List.getElem?_eq_some_iff.mp h
  unfold rdAt
  rw [List.drop_eq_getElem_cons hi, e]
  rfl
theorem rd_end {T : List Nat} {S : PSt} : rdAt T T.length S = if qStage S = 2 ∧ qDepth S = 0 then .inr (drA (pCloseR S)) else .inl T.length := by
  unfold rdAt
  rw [List.drop_length]
  rfl
theorem rd_blank {T : List Nat} {i j : Nat} {S : PSt} (hij : i ≤ j) (hb : ∀ k, i ≤ k → k < j → T[k]? = some 32) : rdAt T i S = rdAt T j S := by
  obtain ⟨d, rfl⟩ : ∃ d, j = i + d := ⟨j - i, by omega⟩
  clear hij
  induction d with
  | zero => rfl
  | succ d ih =>
    rw [ih (fun k h1 h2 => hb k h1 (by omega)), rd_hit (hb (i + d) (by omega) (by omega))]
    rfl
theorem pClose_form (rf rl cf cl fol be : Nat → Int32) (pf pl : Int32) (sg d n : Nat) : ∃ rf' rl' fol', pClose (rf, rl, cf, cl, pf, pl, sg, d, fol, be, n) = (rf', rl', cf, cl, pf, pl, sg, d, fol', be, n) := by
  by_cases hs : sg = 2
  · subst hs
    exact ⟨_, _, _, pClose_2⟩
  · exact ⟨rf, rl, fol, by simp only [pClose, if_neg hs]⟩
theorem tk_sg {b : Nat} (S : PSt) (h : sgnI b ≠ 0) : tk b S = tkPlace (sgnI b) S := by
  have hb : b = 97 ∨ b = 98 ∨ b = 99 ∨ b = 100 ∨ b = 65 ∨ b = 66 ∨ b = 67 ∨ b = 68 ∨ b = 46 ∨ b = 45 := by
    unfold sgnI at h
    split at h
    · omega
    · split at h
      · omega
      · split at h
        · omega
        · split at h
          · omega
          · exact absurd rfl h
  unfold tk
  rcases hb with rfl | rfl | rfl | rfl | rfl | rfl | rfl | rfl | rfl | rfl <;> rfl
theorem tk_no {b : Nat} {S : PSt} (h : sgnI b = 0) (h32 : b ≠ 32) (h40 : b ≠ 40) (h41 : b = 41 → qDepth S = 0 ∨ qStage S = 0) (hs : b = 124 ∨ b = 42 ∨ b = 43 ∨ b = 63 → qStage S ≠ 2) : tk b S = none := by
  unfold tk
  rw [if_neg h32, if_neg h40]
  by_cases c41 : b = 41
  · rw [if_pos c41]
    unfold tkClose
    rw [if_pos (h41 c41)]
  · rw [if_neg c41]
    by_cases c124 : b = 124
    · rw [if_pos c124]
      unfold tkTurn
      rw [if_neg (hs (Or.inl c124))]
    · rw [if_neg c124]
      by_cases cr : b = 42 ∨ b = 43 ∨ b = 63
      · rw [if_pos cr]
        unfold tkRep
        rw [if_neg (hs (Or.inr cr))]
      · rw [if_neg cr]
        unfold tkPlace
        rw [if_pos (Or.inl h)]
theorem tk_41 (S : PSt) : tk 41 S = tkClose S := by
  unfold tk
  rw [if_neg (by decide), if_neg (by decide), if_pos rfl]
theorem mq_bit {n : Nat} (hn : n < 31) : mqB (1 <<< (nI n &&& 31)) (1 <<< (nI (n + 1) &&& 31)) := by
  intro j hj
  rw [b_bit (by omega) hj]
  by_cases h31 : j + 1 < 32
  · rw [b_bit (by omega) h31]
    by_cases e : j = n
    · subst e; simp
    · rw [decide_eq_false e, decide_eq_false (by omega)]
  · rw [b_big (by omega), decide_eq_false (by omega)]
theorem shl0 {n : Nat} (hn : n < 32) : (0 : Int32) <<< (nI n &&& 31) = 0 := by
  apply b_ext
  intro i hi
  rw [b_shl n hn _ hi, b_0, b_0]
  simp
abbrev KRd : List Nat := [72, 73, 74, 75, 76, 77]
abbrev FRd : List Nat := [15, 16, 18, 22]
theorem pam_set9 {τ τ' : Ty} {P : List (Int32 × Int32)} {q r : Int32 × Int32} (hP : PAtM τ (P ++ [q])) (hn : gF τ' 63 22 = gF τ 63 22) (ho : ∀ i, i ≠ P.length → gI τ' 75 i = gI τ 75 i) (h6 : gI τ' 76 = gI τ 76) (h7 : gI τ' 77 = gI τ 77)
    (h1 : gI τ' 75 P.length = b01 (bt r.1 0)) (h2 : mqB (gI τ 76 P.length) r.1) (h3 : mqB (gI τ 77 P.length) r.2) (h4 : bt r.1 0 = bt r.2 0) : PAtM τ' (P ++ [r]) := by
  refine ⟨?_, fun i q' hq => ?_⟩
  · rw [hn, hP.1, List.length_append, List.length_append]
    rfl
  · rw [h6, h7]
    rcases getApp hq with ⟨hi, hq⟩ | ⟨rfl, rfl⟩
    · rw [ho i (by omega)]
      exact hP.2 i q' (by rw [List.getElem?_append_left hi]; exact hq)
    · exact ⟨h1, h2, h3, h4⟩
theorem bt_o1 (x : Int32) : bt (x ||| 1) 0 = true := by
  rw [b_or, b_one (by decide)]
  simp
section MdReads
variable {τ : Ty} {Q : Option Value → Ty → Prop}
set_option maxRecDepth 20000 in
theorem mReadsAll_spec {T : List Nat} (hT : MTx τ T) (h1 : ∀ i τ', rdT T = .inl i → i ≤ 80 → OfM KRd FRd τ τ' → Q (some (.int (nI i))) τ')
    (h2 : ∀ τ' rf rl cf cl pf pl fol be n, rdT T = .inr (drA (rf, rl, cf, cl, pf, pl, 2, 0, fol, be, n)) → PWf (rf, rl, cf, cl, pf, pl, 2, 0, fol, be, n) → OfM KRd FRd τ τ' → DAtM τ' fol be n → mqB (gI τ' 72 24) (cf 0) → mqB (gI τ' 77 0) (cl 0) → gI τ' 75 0 = b01 (bt (cl 0) 0) → Q (some (.int (-1))) τ') :
    RT mX11_readsAll none 0 [some (.ref 63), none, none, none] [] τ Q := by
  have hT80 := hT.2.1
  have main : ∀ N i τ' S (l2 l3 : Option Value), T.length - i = N → i ≤ T.length → OfM KRd FRd τ τ' → gF τ' 63 16 = nI i → MSt τ' i S → PWf S → qStage S ≤ 2 → qDepth S ≤ i → (qStage S = 1 → ∀ j, i ≤ j → (∀ k, i ≤ k → k < j → T[k]? = some 32) → T[j]? ≠ some 41) → rdT T = rdAt T i S →
      RT mX11_readsAll none 64 [some (.ref 63), some (.int (b01 (decide (qStage S = 2)))), l2, l3] [] τ' Q := by
    intro N
    induction N using Nat.strongRecOn with
    | _ N ih =>
    intro i τ' S l2 l3 hN hi hO hat hS hwf hsg hdi h1s hrd
    obtain ⟨rf, rl, cf, cl, pf, pl, sg, d, fol, be, n⟩ := S
    have hsg : sg ≤ 2 := hsg
    have hdi : d ≤ i := hdi
    have h1s : sg = 1 → ∀ j, i ≤ j → (∀ k, i ≤ k → k < j → T[k]? = some 32) → T[j]? ≠ some 41 := h1s
    show RT mX11_readsAll none 64 [some (.ref 63), some (.int (b01 (decide (sg = 2)))), l2, l3] [] τ' Q
    have hupl : up n (rl d) := (hwf.2.1 d (Nat.le_refl _)).2.1
    have hn24 : n ≤ 24 := hwf.1
    refine rt_run 1 rfl ?_
    refine rt_cV (ci := 11) mX11_skips kX11_readsAll_65 okX11_skips rfl rfl rfl rfl rfl ?_
    refine mSkips_spec (hT.of hO (by decide)) hi hat (fun j τ1 hij hjl hbl hnb hO1 hat1 => ?_)
    have hO1' : OfM KRd FRd τ τ1 := hO.tr (hO1.up (by simp) (by simp))
    have hS1 : MStP τ1 (2 * i) i rf rl cf cl d (if sg = 2 then some (pf, pl) else none) fol be n := hS.of2 hO1 (by decide) (by decide)
    have hT1 := hT.of hO1' (by decide)
    rw [rd_blank hij hbl] at hrd
    have ho : ∀ b, T[j]? = some b → b < 128 := fun b hb => hT.lt hb
    clear hS hat
    refine rt_run 3 rfl ?_
    rw [hat1]
    refine rt_cV (ci := 11) mX11_byteAt kX11_readsAll_73 okX11_byteAt rfl rfl rfl rfl rfl ?_
    refine mByteAt_spec hT1 (by omega) ?_
    refine rt_run 2 rfl ?_
    refine rt_cS mX11_signsBy kX11_readsAll_78 okX11_signsBy rfl rfl ?_
    refine mSignsBy_spec ho ?_
    -- a fault
    have fault : ∀ l2 l3, rdAt T j (rf, rl, cf, cl, pf, pl, sg, d, fol, be, n) = .inl j → RT mX11_readsAll none 450 [some (.ref 63), some (.int (b01 (decide (sg = 2)))), l2, l3] [] τ1 Q := by
      intro l2 l3 e
      refine rt_run 2 rfl ?_
      rw [hat1]
      exact rt_iret rfl rfl (h1 j τ1 (hrd.trans e) (by omega) hO1')
    -- the next byte
    have goon : ∀ j' τ2 S' (l2 l3 : Option Value), i ≤ j' → j' < T.length → OfM KRd FRd τ τ2 → gF τ2 63 16 = nI j' → MSt τ2 (j' + 1) S' → PWf S' → qStage S' ≤ 2 → qDepth S' ≤ j' + 1 → (qStage S' = 1 → ∀ j, j' + 1 ≤ j → (∀ k, j' + 1 ≤ k → k < j → T[k]? = some 32) → T[j]? ≠ some 41) → rdT T = rdAt T (j' + 1) S' → RT mX11_readsAll none 455 [some (.ref 63), some (.int (b01 (decide (qStage S' = 2)))), l2, l3] [] τ2 Q := by
      intro j' τ2 S' l2 l3 hij' hj'l hO2 hat2 hS2 hwf2 hsg2 hd2 h1s2 hrd2
      refine rt_run 7 rfl ?_
      refine ih (T.length - (j' + 1)) (by omega) (j' + 1) _ S' _ _ rfl (by omega) (hO2.sF (by simp) _) ?_ ?_ hwf2 hsg2 hd2 h1s2 hrd2
      · rw [gF_sF, if_pos rfl, pk_us]
        show gF τ2 63 16 + 1 = _
        rw [hat2, ← nI_succ]
      · obtain ⟨rf, rl, cf, cl, pf, pl, sg, d, fol, be, n⟩ := S'
        exact MStP.of2 hS2 ((OfM.rf [] [16] τ2).sF (by simp) _) (by decide) (by decide)
    obtain ⟨rf', rl', fol', eP⟩ := pClose_form rf rl cf cl fol be pf pl sg d n
    refine rt_if_eq rfl (fun hsig => ?_) (fun hsig => ?_)
    · -- no place
      have hsb : ∀ b, T[j]? = some b → sgnI b = 0 := fun b hb => by rw [hb] at hsig; exact hsig
      refine rt_run 2 rfl ?_
      refine rt_ic_ne rfl (fun h40 => ?_) (fun h40 => ?_)
      · have n40 : T[j]? ≠ some 40 := fun e => h40 ((wO ho (by decide)).mpr e)
        -- a byte that can't stand there
        have bad : (∀ b, T[j]? = some b → tk b (rf, rl, cf, cl, pf, pl, sg, d, fol, be, n) = none) → (T[j]? = none → ¬ (sg = 2 ∧ d = 0)) → ∀ l2 l3, RT mX11_readsAll none 450 [some (.ref 63), some (.int (b01 (decide (sg = 2)))), l2, l3] [] τ1 Q := by
          intro g1 g2 l2 l3
          refine fault l2 l3 ?_
          cases hb : T[j]? with
          | none =>
            have hjn : j = T.length := by
              have := List.getElem?_eq_none_iff.mp hb
              omega
            rw [hjn, rd_end, if_neg (g2 hb)]
          | some b => rw [rd_hit hb, g1 b hb]
        by_cases hs : sg = 2
        · subst hs
          have ed : decide (2 = 2) = true := rfl
          have hS1 : MStP τ1 (2 * i) i rf rl cf cl d (some (pf, pl)) fol be n := hS1
          have hrow : up n pf ∧ up n pl := hwf.2.2.1 rfl
          rw [pClose_2] at eP
          rw [ed]
          rw [ed] at bad
          obtain ⟨O0, P0, c, r, hB, hC, hR, hOA, hPA, hD, hol, hpl⟩ := hS1
          have hPA : PAtM τ1 (P0 ++ (c.toList ++ r.toList) ++ [(pf, pl)]) := hPA
          have hpl : (P0 ++ (c.toList ++ r.toList) ++ [(pf, pl)]).length ≤ i := hpl
          have hPl : (P0 ++ (c.toList ++ r.toList)).length + 1 ≤ i := by rw [List.length_append (bs := [(pf, pl)])] at hpl; exact hpl
          have hcnt : sm (O0 ++ (bO c ++ dO r)) c40 = d := by rw [sm_app, base_cnt hB, lv_cnt]; rfl
          have eCR : pCloseR (rf, rl, cf, cl, pf, pl, 2, d, fol, be, n) = (upd rf d (dotJ (rf d, rl d) (pf, pl)).1, upd rl d (dotJ (rf d, rl d) (pf, pl)).2, upd cf d (cf d ||| upd rf d (dotJ (rf d, rl d) (pf, pl)).1 d), upd cl d (cl d ||| upd rl d (dotJ (rf d, rl d) (pf, pl)).2 d), pf, pl, 2, d, lnkF fol n (rl d) pf, be, n) := rfl
          have hwfR := hwf.closeR
          rw [eCR, pk_us, pk_us] at hwfR
          rw [pk_us, pk_us] at eCR
          -- *, +, ?
          have rep : ∀ b, T[j]? = some b → (b = 42 ∨ b = 43 ∨ b = 63) → RT mX11_readsAll none 285 [some (.ref 63), some (.int (b01 true)), some (.int (nI b)), l3] [] τ1 Q := by
            intro b hb hbr
            have hjl' : j < T.length := (List.getElem?_eq_some_iff.mp hb).1
            have hb128 := ho b hb
            have etk : tk b (rf, rl, cf, cl, pf, pl, 2, d, fol, be, n) = some (rf, rl, cf, cl, (if b = 43 then pf else pf ||| 1), (if b = 43 then pl else pl ||| 1), 2, d, (if b = 63 then fol else lnkF fol n pl pf), be, n) := by
              unfold tk
              rw [if_neg (by omega), if_neg (by omega), if_neg (by omega), if_neg (by omega), if_pos hbr]
              rfl
            have hwf2 := hwf.next etk
            have hgl : (P0 ++ (c.toList ++ r.toList) ++ [(pf, pl)])[(P0 ++ (c.toList ++ r.toList)).length]? = some (pf, pl) := by rw [List.getElem?_append_right (Nat.le_refl _), Nat.sub_self]; rfl
            obtain ⟨q1, q2, q3, q4⟩ := hPA.2 _ _ hgl
            have e22 : gF τ1 63 22 = nI ((P0 ++ (c.toList ++ r.toList)).length + 1) := by rw [hPA.1, List.length_append (bs := [(pf, pl)])]; rfl
            generalize hPP : P0 ++ (c.toList ++ r.toList) = PP at hPA hpl hPl hgl q1 q2 q3 q4 e22
            have fin : ∀ τ2, OfM [72] [] τ1 τ2 → DAtM τ2 (if b = 63 then fol else lnkF fol n pl pf) be n → RT mX11_readsAll none 314 [some (.ref 63), some (.int (b01 true)), some (.int (nI b)), some (.int (nI PP.length))] [] τ2 Q := by
              intro τ2 hO2 hD2
              have e75 : gI τ2 75 = gI τ1 75 := (hO2.1 75 (by decide)).1
              have e76 : gI τ2 76 = gI τ1 76 := (hO2.1 76 (by decide)).1
              have e77 : gI τ2 77 = gI τ1 77 := (hO2.1 77 (by decide)).1
              have put : ∀ z : Int32, z = b01 (bt (if b = 43 then pf else pf ||| 1) 0) → RT mX11_readsAll none 335 [some (.ref 63), some (.int (b01 true)), some (.int (nI b)), some (.int (nI PP.length))] [.int z, .int (nI PP.length), .ref 75] τ2 Q := by
                intro z hz
                refine rt_st PP.length rfl (n := 90) rfl (by omega) ?_
                refine rt_run 1 rfl ?_
                refine goon j _ (rf, rl, cf, cl, (if b = 43 then pf else pf ||| 1), (if b = 43 then pl else pl ||| 1), 2, d, (if b = 63 then fol else lnkF fol n pl pf), be, n) _ _ hij hjl' ((hO1'.tr (hO2.up (by simp) (by simp))).sI (by simp) _ _) ?_ ?_ hwf2 (Nat.le_refl _) (by show d ≤ j + 1; omega) (fun e => by cases e) ?_
                · show gF τ2 63 16 = _
                  rw [hO2.2.2.1 16 (by decide)]
                  exact hat1
                · refine ⟨O0, P0, c, r, hB, hC, hR, (hOA.of hO2 (by decide)).of ((OfM.rf [75] [] τ2).sI (by simp) _ _) (by decide), ?_, hD2, by omega, ?_⟩
                  · rw [hPP]
                    refine pam_set9 hPA ?_ (fun k hk => ?_) e76 e77 ?_ ?_ ?_ ?_
                    · exact hO2.2.2.1 22 (by decide)
                    · show upd (gI τ2 75) PP.length z k = _
                      rw [pk_un hk, e75]
                    · show upd (gI τ2 75) PP.length z PP.length = _
                      rw [pk_us]
                      exact hz
                    · show mqB _ (if b = 43 then pf else pf ||| 1)
                      split
                      · exact q2
                      · exact MQ_o1 q2
                    · show mqB _ (if b = 43 then pl else pl ||| 1)
                      split
                      · exact q3
                      · exact MQ_o1 q3
                    · show bt (if b = 43 then pf else pf ||| 1) 0 = bt (if b = 43 then pl else pl ||| 1) 0
                      split
                      · exact q4
                      · rw [bt_o1, bt_o1]
                  · rw [hPP]
                    show (PP ++ [_]).length ≤ j + 1
                    rw [List.length_append, List.length_singleton]
                    omega
                · rw [hrd, rd_hit hb, etk]
              refine rt_run 5 rfl ?_
              refine rt_ne b 43 rfl (by omega) (by omega) (fun e => ?_) (fun e => ?_)
              · refine rt_run 1 rfl ?_
                refine put 1 ?_
                rw [if_neg e, bt_o1]
                rfl
              · refine rt_run 3 rfl ?_
                refine rt_ld PP.length rfl (n := 90) rfl (by omega) ?_
                rw [e75, q1]
                refine rt_run 1 rfl ?_
                refine put _ ?_
                rw [if_pos e]
            refine rt_run 4 rfl ?_
            rw [e22, nI_pred]
            refine rt_run 3 rfl ?_
            refine rt_eq b 63 rfl (by omega) (by omega) (fun e => ?_) (fun e => ?_)
            · refine fin τ1 (OfM.rf _ _ _) ?_
              rw [if_pos e]
              exact hD
            · refine rt_run 4 rfl ?_
              refine rt_ld PP.length rfl (n := 90) rfl (by omega) ?_
              refine rt_run 3 rfl ?_
              refine rt_ld PP.length rfl (n := 90) rfl (by omega) ?_
              refine rt_cV (ci := 11) mX11_follows kX11_readsAll_311 okX11_follows rfl rfl rfl rfl rfl ?_
              refine mFollows_spec hD q3 q2 hrow.2 (fun τ2 hO2 _ hD2 => ?_)
              refine fin τ2 hO2 ?_
              rw [if_neg e]
              exact hD2
          -- |
          have bar : T[j]? = some 124 → RT mX11_readsAll none 349 [some (.ref 63), some (.int (b01 true)), some (.int (wI (some 124))), l3] [] τ1 Q := by
            intro hb
            have hjl' : j < T.length := (List.getElem?_eq_some_iff.mp hb).1
            have etk : tk 124 (rf, rl, cf, cl, pf, pl, 2, d, fol, be, n) = some (pStage 0 (pRow (pCloseR (rf, rl, cf, cl, pf, pl, 2, d, fol, be, n)))) := rfl
            have hwf2 := hwf.next etk
            rw [eCR] at etk hwf2
            refine rt_run 2 rfl ?_
            refine rt_cV (ci := 11) mX11_does kX11_readsAll_351 okX11_does rfl rfl rfl rfl rfl ?_
            refine mClose (i := i) (by omega) hB hC hR hOA hPA hD hol hpl hupl (fun τ2 hO2 hA2 hP2 hD2 => ?_)
            have hl0 : O0.length ≤ 2 * i := by rw [List.length_append] at hol; omega
            have hp0 : P0.length + 1 ≤ i := by rw [List.length_append] at hPl; omega
            refine rt_run 5 rfl ?_
            refine rt_st O0.length rfl (n := 170) rfl (by omega) ?_ hA2.1
            refine rt_run 9 rfl ?_
            refine goon j _ _ _ _ hij hjl' (((hO1'.tr (hO2.up (by simp) (by simp))).sI (by simp) _ _).sF (by simp) _) ?_ ?_ hwf2 (Nat.zero_le _) (by show d ≤ j + 1; omega) (fun e => by cases e) ?_
            · show gF τ2 63 16 = _
              rw [hO2.2.2.1 16 (by decide)]
              exact hat1
            · refine ⟨O0, P0, some (barJ (cf d, cl d) (dotJ (rf d, rl d) (pf, pl))), none, base_cong (fun k hk => ?_) hB, Or.inr ?_, Or.inl ⟨rfl, ?_⟩, ?_, ?_, hD2, ?_, ?_⟩
              · rw [pk_un (by omega), pk_un (by omega), pk_un (by omega), pk_un (by omega), pk_un (by omega), pk_un (by omega)]
                exact ⟨rfl, rfl, rfl, rfl⟩
              · rw [pk_us, pk_us]
                rfl
              · rw [pk_us, pk_us]
              · refine oat_push hA2 (by decide) ?_ rfl
                rw [gF_sF, if_pos rfl, pk_us]
                show gF τ2 63 18 + 1 = _
                rw [hA2.1, ← nI_succ]
              · show PAtM _ (P0 ++ ([_] ++ []) ++ [])
                rw [List.append_nil, List.append_nil]
                exact hP2
              · show (O0 ++ ([124] ++ [])).length ≤ _
                rw [List.append_nil, List.length_append, List.length_singleton]
                omega
              · show (P0 ++ ([_] ++ []) ++ []).length ≤ _
                rw [List.append_nil, List.append_nil, List.length_append, List.length_singleton]
                omega
            · rw [hrd, rd_hit hb, etk]
          -- )
          have clo : T[j]? = some 41 → d ≠ 0 → RT mX11_readsAll none 396 [some (.ref 63), some (.int (b01 true)), some (.int (wI (some 41))), l3] [] τ1 Q := by
            intro hb hd0
            have hjl' : j < T.length := (List.getElem?_eq_some_iff.mp hb).1
            obtain ⟨d', rfl⟩ : ∃ d', d = d' + 1 := ⟨d - 1, by omega⟩
            have etk : tk 41 (rf, rl, cf, cl, pf, pl, 2, d' + 1, fol, be, n) = (match pCloseR (rf, rl, cf, cl, pf, pl, 2, d' + 1, fol, be, n) with
                | (rf, rl, cf, cl, _, _, _, d, fol, be, n) => some (rf, rl, cf, cl, cf d, cl d, 2, d - 1, fol, be, n)) := by
              rw [tk_41]
              unfold tkClose
              rw [if_neg]
              rintro (g | g)
              · exact absurd g (by show ¬ d' + 1 = 0; omega)
              · exact absurd g (by show ¬ 2 = 0; decide)
            rw [eCR] at etk
            dsimp only at etk
            rw [Nat.add_sub_cancel, pk_us, pk_us] at etk
            have hwf2 := hwf.next etk
            refine rt_run 2 rfl ?_
            refine rt_cV (ci := 11) mX11_does kX11_readsAll_398 okX11_does rfl rfl rfl rfl rfl ?_
            refine mClose (i := i) (by omega) hB hC hR hOA hPA hD hol hpl hupl (fun τ2 hO2 hA2 hP2 hD2 => ?_)
            have hl0 : O0.length ≤ 2 * i := by rw [List.length_append] at hol; omega
            have hp0 : P0.length + 1 ≤ i := by rw [List.length_append] at hPl; omega
            obtain ⟨O1, P1, c1, r1, hB1, hC1, hR1, eO1, eP1⟩ := hB
            subst eO1
            subst eP1
            have e18 : gF τ2 63 18 = nI ((O1 ++ (bO c1 ++ dO r1)).length + 1) := by rw [hA2.1, List.length_append (bs := [40])]; rfl
            refine rt_run 7 rfl ?_
            refine goon j _ _ _ _ hij hjl' ((hO1'.tr (hO2.up (by simp) (by simp))).sF (by simp) _) ?_ ?_ hwf2 (Nat.le_refl _) (by show d' ≤ j + 1; omega) (fun e => by cases e) ?_
            · show gF τ2 63 16 = _
              rw [hO2.2.2.1 16 (by decide)]
              exact hat1
            · refine ⟨O1, P1, c1, r1, base_cong (fun k hk => ?_) hB1, ?_, ?_, ?_, hP2, hD2, ?_, ?_⟩
              · rw [pk_un (by omega), pk_un (by omega), pk_un (by omega), pk_un (by omega)]
                exact ⟨rfl, rfl, rfl, rfl⟩
              · rw [pk_un (by omega), pk_un (by omega)]
                exact hC1
              · rw [pk_un (by omega), pk_un (by omega)]
                exact hR1
              · refine oat_pop hA2 ?_ rfl
                rw [gF_sF, if_pos rfl, pk_us]
                show gF τ2 63 18 - 1 = _
                rw [e18, nI_pred]
              · rw [List.length_append (bs := [40])] at hl0
                omega
              · show (P1 ++ (c1.toList ++ r1.toList) ++ [_]).length ≤ _
                rw [List.length_append (bs := [_]), List.length_singleton]
                omega
            · rw [hrd, rd_hit hb, etk]
          -- the end
          have fin : T[j]? = none → d = 0 → ∀ l2 l3, RT mX11_readsAll none 430 [some (.ref 63), some (.int (b01 true)), l2, l3] [] τ1 Q := by
            intro hb hd0 l2 l3
            subst hd0
            have hjn : j = T.length := by
              have := List.getElem?_eq_none_iff.mp hb
              omega
            refine rt_run 2 rfl ?_
            refine rt_cV (ci := 11) mX11_does kX11_readsAll_432 okX11_does rfl rfl rfl rfl rfl ?_
            refine mClose (i := i) (by omega) hB hC hR hOA hPA hD hol hpl hupl (fun τ2 hO2 hA2 hP2 hD2 => ?_)
            obtain ⟨eO0, eP0⟩ := hB
            subst eO0
            subst eP0
            obtain ⟨q1, q2, q3, q4⟩ := hP2.2 0 _ rfl
            refine rt_run 6 rfl ?_
            refine rt_ld 0 rfl (n := 90) rfl (by omega) ?_
            refine rt_st 24 rfl (n := 25) rfl (by omega) ?_
            refine rt_run 1 rfl ?_
            refine rt_iret rfl rfl (h2 _ _ _ _ _ _ _ _ _ _ ?_ hwfR ((hO1'.tr (hO2.up (by simp) (by simp))).sI (by simp) _ _) ⟨hD2.1, hD2.2.1, fun p hp => ?_, hD2.2.2.2⟩ ?_ ?_ ?_)
            · rw [hrd, hjn, rd_end, if_pos ⟨rfl, rfl⟩, eCR]
            · show mqB (upd (gI τ2 72) 24 _ p) _
              rw [pk_un (by omega)]
              exact hD2.2.2.1 p hp
            · show mqB (upd (gI τ2 72) 24 (gI τ2 76 0) 24) _
              rw [pk_us, pk_us]
              exact q2
            · rw [pk_us]
              exact q3
            · rw [pk_us]
              show gI τ2 75 0 = _
              rw [q1, q4]
              rfl
          -- which one it is
          have tail : (∀ b, T[j]? = some b → b ≠ 42 ∧ b ≠ 43 ∧ b ≠ 63) → RT mX11_readsAll none 339 [some (.ref 63), some (.int (b01 true)), some (.int (wI T[j]?)), l3] [] τ1 Q := by
            intro hnr
            refine rt_run 1 rfl ?_
            refine rt_if_eq rfl (fun hc => absurd hc (by decide)) (fun _ => ?_)
            refine rt_run 2 rfl ?_
            refine rt_ic_ne rfl (fun h124 => ?_) (fun h124 => ?_)
            · have n124 : T[j]? ≠ some 124 := fun e => h124 ((wO ho (by decide)).mpr e)
              refine rt_run 1 rfl ?_
              refine rt_if_eq rfl (fun hc => absurd hc (by decide)) (fun _ => ?_)
              refine rt_run 2 rfl ?_
              have last : (T[j]? = some 41 → d = 0) → RT mX11_readsAll none 414 [some (.ref 63), some (.int (b01 true)), some (.int (wI T[j]?)), l3] [] τ1 Q := by
                intro h41
                have bad' : (T[j]? = none → d ≠ 0) → ∀ l2 l3, RT mX11_readsAll none 450 [some (.ref 63), some (.int (b01 true)), l2, l3] [] τ1 Q := by
                  intro g
                  refine bad (fun b hb => ?_) (fun hb hh => g hb hh.2)
                  obtain ⟨m1, m2, m3⟩ := hnr b hb
                  refine tk_no (hsb b hb) (fun e => hnb (by rw [hb, e])) (fun e => n40 (by rw [hb, e])) (fun e => Or.inl (h41 (by rw [hb, e]))) (fun e => ?_)
                  exfalso
                  rcases e with e | e | e | e
                  · exact n124 (by rw [hb, e])
                  · exact m1 e
                  · exact m2 e
                  · exact m3 e
                refine rt_run 1 rfl ?_
                refine rt_if_eq rfl (fun hc => absurd hc (by decide)) (fun _ => ?_)
                refine rt_run 2 rfl ?_
                refine rt_ic_ne rfl (fun hm1 => bad' (fun e => absurd (by rw [e]; rfl) hm1) _ _) (fun hm1 => ?_)
                have hnone : T[j]? = none := by
                  cases hb : T[j]? with
                  | none => rfl
                  | some b =>
                    rw [hb] at hm1
                    exact absurd hm1 (neg1 (by have := ho b hb; omega))
                refine rt_run 1 rfl ?_
                refine rt_cV (ci := 11) mX11_depth kX11_readsAll_424 okX11_depth rfl rfl rfl rfl rfl ?_
                refine mDepth_spec hOA (by omega) ?_
                rw [hcnt]
                refine rt_if_ne rfl (fun hd0 => bad' (fun _ e => hd0 (by rw [e]; rfl)) _ _) (fun hd0 => ?_)
                have hd0 : d = 0 := by
                  by_cases hz : d = 0
                  · exact hz
                  · exact absurd hd0 (nI_ne0 (by omega) (by omega))
                exact fin hnone hd0 _ _
              refine rt_ic_ne rfl (fun h41 => last (fun e => absurd ((wO ho (by decide)).mpr e) h41)) (fun h41 => ?_)
              have e41 : T[j]? = some 41 := (wO ho (by decide)).mp h41
              refine rt_run 1 rfl ?_
              refine rt_cV (ci := 11) mX11_depth kX11_readsAll_390 okX11_depth rfl rfl rfl rfl rfl ?_
              refine mDepth_spec hOA (by omega) ?_
              rw [hcnt]
              by_cases hd0 : d = 0
              · exact rt_if_le rfl (fun _ => last (fun _ => hd0)) (fun hc => absurd (by rw [hd0]; decide) hc)
              · refine rt_if_le rfl (fun hc => ?_) (fun _ => ?_)
                · exact absurd hc (ole (n := d - 1) (by rw [show d - 1 + 1 = d by omega]) (by omega))
                · rw [e41]
                  exact clo e41 hd0
            · have e124 : T[j]? = some 124 := (wO ho (by decide)).mp h124
              rw [e124]
              exact bar e124
          refine rt_run 1 rfl ?_
          refine rt_if_eq rfl (fun hc => absurd hc (by decide)) (fun _ => ?_)
          refine rt_run 2 rfl ?_
          refine rt_ic_eq rfl (fun e => ?_) (fun g42 => ?_)
          · have e := (wO ho (i := 42) (by decide)).mp e
            rw [e]
            exact rep 42 e (Or.inl rfl)
          refine rt_run 2 rfl ?_
          refine rt_ic_eq rfl (fun e => ?_) (fun g43 => ?_)
          · have e := (wO ho (i := 43) (by decide)).mp e
            rw [e]
            exact rep 43 e (Or.inr (Or.inl rfl))
          refine rt_run 2 rfl ?_
          refine rt_ic_ne rfl (fun g63 => tail (fun b hb => ⟨fun e => ?_, fun e => ?_, fun e => ?_⟩)) (fun e => ?_)
          · exact g42 ((wO ho (i := 42) (by decide)).mpr (by rw [hb, e]))
          · exact g43 ((wO ho (i := 43) (by decide)).mpr (by rw [hb, e]))
          · exact g63 ((wO ho (i := 63) (by decide)).mpr (by rw [hb, e]))
          · have e := (wO ho (i := 63) (by decide)).mp e
            rw [e]
            exact rep 63 e (Or.inr (Or.inr rfl))
        · -- no part stands ahead
          have ed : decide (sg = 2) = false := decide_eq_false hs
          rw [ed]
          rw [ed] at bad
          refine rt_run 1 rfl ?_
          refine rt_if_eq rfl (fun _ => ?_) (fun hc => absurd rfl hc)
          refine rt_run 1 rfl ?_
          refine rt_if_eq rfl (fun _ => ?_) (fun hc => absurd rfl hc)
          refine rt_run 1 rfl ?_
          refine rt_if_eq rfl (fun _ => ?_) (fun hc => absurd rfl hc)
          refine rt_run 1 rfl ?_
          refine rt_if_eq rfl (fun _ => ?_) (fun hc => absurd rfl hc)
          refine bad (fun b hb => ?_) (fun _ hh => hs hh.1) _ _
          refine tk_no (hsb b hb) (fun e => hnb (by rw [hb, e])) (fun e => n40 (by rw [hb, e])) (fun e => Or.inr ?_) (fun _ => hs)
          have : sg ≠ 1 := fun e1 => h1s e1 j hij hbl (by rw [hb, e])
          show sg = 0
          omega
      · -- (
        have e40 : T[j]? = some 40 := (wO ho (by decide)).mp h40
        have hjl' : j < T.length := (List.getElem?_eq_some_iff.mp e40).1
        have etk : tk 40 (rf, rl, cf, cl, pf, pl, sg, d, fol, be, n) = some (upd rf' (d + 1) 1, upd rl' (d + 1) 1, upd cf (d + 1) 0, upd cl (d + 1) 0, pf, pl, 1, d + 1, fol', be, n) := by
          show tkOpen _ = _
          unfold tkOpen
          rw [if_neg (by show ¬ 80 ≤ d; omega), eP]
          rfl
        have hwf1 := hwf.next etk
        refine rt_run 2 rfl ?_
        refine rt_cV (ci := 11) mX11_behind kX11_readsAll_179 okX11_behind rfl rfl rfl rfl rfl ?_
        refine mBehind_spec (i := i) (by omega) hS1 hupl (fun τ2 hO2 hM2 => ?_)
        have hM2 := hM2 rf' rl' fol' eP
        have hO2' : OfM KRd FRd τ τ2 := hO1'.tr (hO2.up (by simp) (by simp))
        have hat2 : gF τ2 63 16 = nI j := by rw [hO2.2.2.1 16 (by decide)]; exact hat1
        refine rt_run 9 rfl ?_
        rw [hat2, ← nI_succ]
        refine rt_run 1 rfl ?_
        have hO3 : OfM KRd FRd τ (sF τ2 63 16 (nI (j + 1))) := hO2'.sF (by simp) _
        have hM3 : MStP (sF τ2 63 16 (nI (j + 1))) (2 * i + 1) i rf' rl' cf cl d none fol' be n := hM2.of2 ((OfM.rf [] [16] τ2).sF (by simp) _) (by decide) (by decide)
        have hat3 : gF (sF τ2 63 16 (nI (j + 1))) 63 16 = nI (j + 1) := rfl
        generalize sF τ2 63 16 (nI (j + 1)) = τ3 at hO3 hM3 hat3
        refine rt_cV (ci := 11) mX11_skips kX11_readsAll_198 okX11_skips rfl rfl rfl rfl rfl ?_
        refine mSkips_spec (hT.of hO3 (by decide)) (by omega) hat3 (fun j2 τ4 hij2 hjl2 hbl2 hnb2 hO4 hat4 => ?_)
        have hO4' : OfM KRd FRd τ τ4 := hO3.tr (hO4.up (by simp) (by simp))
        have hM4 := hM3.of2 hO4 (by decide) (by decide)
        refine rt_run 3 rfl ?_
        rw [hat4]
        refine rt_cV (ci := 11) mX11_byteAt kX11_readsAll_206 okX11_byteAt rfl rfl rfl rfl rfl ?_
        refine mByteAt_spec (hT.of hO4' (by decide)) (by omega) ?_
        refine rt_run 1 rfl ?_
        obtain ⟨O0, P0, c, r, hB, hC, hR, hOA, hPA, hD, hol, hpl⟩ := hM4
        have ho2 : ∀ b, T[j2]? = some b → b < 128 := fun b hb => hT.lt hb
        refine rt_ic_ne rfl (fun h41 => ?_) (fun h41 => ?_)
        · have n41 : T[j2]? ≠ some 41 := fun e => h41 ((wO ho2 (by decide)).mpr e)
          refine rt_run 1 rfl ?_
          refine rt_run 2 rfl ?_
          refine rt_if_eq rfl (fun _ => ?_) (fun hc => absurd rfl hc)
          refine rt_run 5 rfl ?_
          refine rt_st (O0 ++ (bO c ++ dO r)).length rfl (n := 170) rfl (by omega) ?_ hOA.1
          refine rt_run 9 rfl ?_
          refine rt_run 1 rfl ?_
          refine goon j _ _ _ _ hij hjl' (((hO4'.sI (by simp) _ _).sF (by simp) _).sF (by simp) _) ?_ ?_ hwf1 (by show 1 ≤ 2; decide) (by show d + 1 ≤ j + 1; omega) (fun _ jj hjj hbb => ?_) ?_
          · rfl
          · refine ⟨O0 ++ (bO c ++ dO r) ++ [40], P0 ++ (c.toList ++ r.toList), none, none, ⟨O0, P0, c, r, base_cong (fun k hk => ?_) hB, ?_, ?_, rfl, rfl⟩, Or.inl ⟨rfl, ?_⟩, Or.inl ⟨rfl, ?_⟩, ?_, ?_, hD, ?_, ?_⟩
            · rw [pk_un (by omega), pk_un (by omega), pk_un (by omega), pk_un (by omega)]
              exact ⟨rfl, rfl, rfl, rfl⟩
            · rw [pk_un (by omega), pk_un (by omega)]
              exact hC
            · rw [pk_un (by omega), pk_un (by omega)]
              exact hR
            · rw [pk_us, pk_us]
            · rw [pk_us, pk_us]
            · show OAtM _ (O0 ++ (bO c ++ dO r) ++ [40] ++ [])
              rw [List.append_nil]
              refine oat_push hOA (by decide) ?_ rfl
              show gF τ4 63 18 + 1 = _
              rw [hOA.1, ← nI_succ]
            · have hPA : PAtM τ4 (P0 ++ (c.toList ++ r.toList) ++ []) := hPA
              rw [List.append_nil] at hPA
              show PAtM _ (P0 ++ (c.toList ++ r.toList) ++ [] ++ [])
              rw [List.append_nil, List.append_nil]
              exact hPA
            · show (O0 ++ (bO c ++ dO r) ++ [40] ++ []).length ≤ _
              rw [List.append_nil, List.length_append (bs := [40]), List.length_singleton]
              omega
            · have hpl : (P0 ++ (c.toList ++ r.toList) ++ []).length ≤ i := hpl
              show (P0 ++ (c.toList ++ r.toList) ++ [] ++ []).length ≤ _
              rw [List.append_nil] at hpl ⊢
              rw [List.append_nil]
              omega
          · -- the byte behind the blanks is no bracket
            have hjj2 : jj = j2 ∨ jj < j2 ∨ j2 < jj := by omega
            rcases hjj2 with e | e | e
            · rw [e]; exact n41
            · rw [hbl2 jj hjj e]; decide
            · exact absurd (hbb j2 hij2 e) hnb2
          · rw [hrd, rd_hit e40, etk]
        · have e41 : T[j2]? = some 41 := (wO ho2 (by decide)).mp h41
          have hjl2' : j2 < T.length := (List.getElem?_eq_some_iff.mp e41).1
          have etk2 : tk 41 (upd rf' (d + 1) 1, upd rl' (d + 1) 1, upd cf (d + 1) 0, upd cl (d + 1) 0, pf, pl, 1, d + 1, fol', be, n) = some (upd rf' (d + 1) 1, upd rl' (d + 1) 1, upd (upd cf (d + 1) 0) (d + 1) 1, upd (upd cl (d + 1) 0) (d + 1) 1, 1, 1, 2, d, fol', be, n) := by
            have e1 : pCloseR (upd rf' (d + 1) 1, upd rl' (d + 1) 1, upd cf (d + 1) 0, upd cl (d + 1) 0, pf, pl, 1, d + 1, fol', be, n) = (upd rf' (d + 1) 1, upd rl' (d + 1) 1, upd (upd cf (d + 1) 0) (d + 1) (upd cf (d + 1) 0 (d + 1) ||| upd rf' (d + 1) 1 (d + 1)), upd (upd cl (d + 1) 0) (d + 1) (upd cl (d + 1) 0 (d + 1) ||| upd rl' (d + 1) 1 (d + 1)), pf, pl, 1, d + 1, fol', be, n) := rfl
            rw [pk_us, pk_us, pk_us, pk_us, Int32.zero_or] at e1
            rw [tk_41]
            unfold tkClose
            rw [if_neg, e1]
            · dsimp only
              rw [pk_us, pk_us, Nat.add_sub_cancel]
            · rintro (g | g)
              · exact absurd g (by show ¬ d + 1 = 0; omega)
              · exact absurd g (by show ¬ 1 = 0; decide)
          have hwf2 := hwf1.next etk2
          have hpl : (P0 ++ (c.toList ++ r.toList) ++ []).length ≤ i := hpl
          have hPA : PAtM τ4 (P0 ++ (c.toList ++ r.toList) ++ []) := hPA
          rw [List.append_nil] at hpl hPA
          refine rt_run 2 rfl ?_
          refine rt_run 2 rfl ?_
          refine rt_if_eq rfl (fun hc => absurd hc (by decide)) (fun _ => ?_)
          refine rt_run 4 rfl ?_
          refine rt_cV (ci := 11) mX11_part kX11_readsAll_228 okX11_part rfl rfl rfl rfl rfl ?_
          refine mPart_spec (e := true) (q := (1, 1)) hPA (by omega) (by decide) rfl (fun k hk => ?_) (fun k hk => ?_) (fun τ5 hO5 hP5 => ?_)
          · exact (by decide +kernel : ∀ k, k < 32 → bt 0 k = bt 1 (k + 1)) k hk
          · exact (by decide +kernel : ∀ k, k < 32 → bt 0 k = bt 1 (k + 1)) k hk
          refine rt_run 1 rfl ?_
          refine rt_run 1 rfl ?_
          refine goon j2 τ5 (upd rf' (d + 1) 1, upd rl' (d + 1) 1, upd (upd cf (d + 1) 0) (d + 1) 1, upd (upd cl (d + 1) 0) (d + 1) 1, 1, 1, 2, d, fol', be, n) _ _ (by omega) hjl2' (hO4'.tr (hO5.up (by simp) (by simp))) ?_ ?_ hwf2 (Nat.le_refl _) (by show d ≤ j2 + 1; omega) (fun e => by cases e) ?_
          · rw [hO5.2.2.1 16 (by decide)]
            exact hat4
          · refine ⟨O0, P0, c, r, base_cong (fun k hk => ?_) hB, ?_, ?_, hOA.of hO5 (by decide), hP5, hD.of hO5 (by decide), by omega, ?_⟩
            · rw [pk_un (by omega), pk_un (by omega), pk_un (by omega), pk_un (by omega), pk_un (by omega), pk_un (by omega)]
              exact ⟨rfl, rfl, rfl, rfl⟩
            · rw [pk_un (by omega), pk_un (by omega), pk_un (by omega), pk_un (by omega)]
              exact hC
            · rw [pk_un (by omega), pk_un (by omega)]
              exact hR
            · show (P0 ++ (c.toList ++ r.toList) ++ [_]).length ≤ _
              rw [List.length_append (bs := [_]), List.length_singleton]
              omega
          · rw [hrd, rd_hit e40, etk]
            show rdAt T (j + 1) _ = _
            rw [rd_blank hij2 hbl2, rd_hit e41, etk2]
    · -- a place
      obtain ⟨b, hb⟩ : ∃ b, T[j]? = some b := by
        cases hb : T[j]? with
        | none => rw [hb] at hsig; exact absurd rfl hsig
        | some b => exact ⟨b, rfl⟩
      have hjl' : j < T.length := (List.getElem?_eq_some_iff.mp hb).1
      have hs0 : sgnI b ≠ 0 := fun e => hsig (by rw [hb]; exact e)
      have hb128 := ho b hb
      have etk0 := tk_sg (rf, rl, cf, cl, pf, pl, sg, d, fol, be, n) hs0
      have e15 : gF τ1 63 15 = nI n := by
        obtain ⟨O0, P0, c, r, -, -, -, -, -, hD, -⟩ := hS1
        exact hD.1
      refine rt_run 3 rfl ?_
      refine rt_ne n 24 rfl (by omega) (by omega) (fun hne => ?_) (fun heq => ?_) e15
      · have etk : tk b (rf, rl, cf, cl, pf, pl, sg, d, fol, be, n) = some (rf', rl', cf, cl, 1 <<< (nI (n + 1) &&& 31), 1 <<< (nI (n + 1) &&& 31), 2, d, fol', fun x => if bt (sgnI b) x = true then be x ||| (1 <<< (nI (n + 1) &&& 31)) else be x, n + 1) := by
          rw [etk0]
          unfold tkPlace
          rw [if_neg, eP]
          rintro (g | g)
          · exact hs0 g
          · have g : 24 ≤ n := g
            omega
        have hwf2 := hwf.next etk
        refine rt_run 2 rfl ?_
        refine rt_cV (ci := 11) mX11_behind kX11_readsAll_100 okX11_behind rfl rfl rfl rfl rfl ?_
        refine mBehind_spec (i := i) (by omega) hS1 hupl (fun τ2 hO2 hM2 => ?_)
        obtain ⟨O0, P0, c, r, hB, hC, hR, hOA, hPA, hD, hol, hpl⟩ := hM2 rf' rl' fol' eP
        have hO2' : OfM KRd FRd τ τ2 := hO1'.tr (hO2.up (by simp) (by simp))
        have hat2 : gF τ2 63 16 = nI j := by rw [hO2.2.2.1 16 (by decide)]; exact hat1
        have hpl : (P0 ++ (c.toList ++ r.toList) ++ []).length ≤ i := hpl
        have hPA : PAtM τ2 (P0 ++ (c.toList ++ r.toList) ++ []) := hPA
        rw [List.append_nil] at hpl hPA
        rw [hb]
        have loop : ∀ dd k τ3, k + dd = 8 → OfM [73] [] τ2 τ3 → (∀ s, s < 8 → mqB (gI τ3 73 s) (if s < k then (if bt (sgnI b) s = true then be s ||| (1 <<< (nI (n + 1) &&& 31)) else be s) else be s)) → RT mX11_readsAll none 105 [some (.ref 63), some (.int (b01 (decide (sg = 2)))), some (.int (wI (some b))), some (.int (nI k))] [] τ3 Q := by
          intro dd
          induction dd with
          | zero =>
            intro k τ3 hk hO3 hq
            have e15' : gF τ3 63 15 = nI n := by rw [hO3.2.2.1 15 (by decide)]; exact hD.1
            refine rt_run 2 rfl ?_
            refine rt_ge k 8 rfl (by omega) (by omega) (fun _ => ?_) (fun _ => by omega)
            refine rt_run 10 rfl ?_
            rw [e15']
            refine rt_cV (ci := 11) mX11_part kX11_readsAll_153 okX11_part rfl rfl rfl rfl rfl ?_
            have hb0 : bt (1 <<< (nI (n + 1) &&& 31)) 0 = false := by rw [b_bit (by omega) (by decide), decide_eq_false (by omega)]
            refine mPart_spec (e := false) (q := (1 <<< (nI (n + 1) &&& 31), 1 <<< (nI (n + 1) &&& 31))) (hPA.of hO3 (by decide)) (by omega) hb0.symm rfl (mq_bit (by omega)) (mq_bit (by omega)) (fun τ4 hO4 hP4 => ?_)
            have e15'' : gF τ4 63 15 = nI n := by rw [hO4.2.2.1 15 (by decide)]; exact e15'
            refine rt_run 9 rfl ?_
            refine goon j _ _ _ _ hij hjl' (((hO2'.tr (hO3.up (by simp) (by simp))).tr (hO4.up (by simp) (by simp))).sF (by simp) _) ?_ ?_ hwf2 (Nat.le_refl _) (by show d ≤ j + 1; omega) (fun e => by cases e) ?_
            · show gF τ4 63 16 = _
              rw [hO4.2.2.1 16 (by decide), hO3.2.2.1 16 (by decide)]
              exact hat2
            · refine ⟨O0, P0, c, r, hB, hC, hR, (show OAtM τ4 (O0 ++ (bO c ++ dO r)) from (hOA.of hO3 (by decide)).of hO4 (by decide)), hP4, ⟨?_, by omega, fun p hp => ?_, fun s hs => ?_⟩, by omega, ?_⟩
              · show gF τ4 63 15 + 1 = _
                rw [e15'', ← nI_succ]
              · show mqB (gI τ4 72 p) _
                rw [(hO4.1 72 (by decide)).1, (hO3.1 72 (by decide)).1]
                exact hD.2.2.1 p hp
              · show mqB (gI τ4 73 s) _
                rw [(hO4.1 73 (by decide)).1]
                have := hq s hs
                rw [if_pos (by omega)] at this
                exact this
              · show (P0 ++ (c.toList ++ r.toList) ++ [_]).length ≤ _
                rw [List.length_append (bs := [_]), List.length_singleton]
                omega
            · rw [hrd, rd_hit hb, etk]
          | succ dd ihh =>
            intro k τ3 hk hO3 hq
            have e15' : gF τ3 63 15 = nI n := by rw [hO3.2.2.1 15 (by decide)]; exact hD.1
            refine rt_run 2 rfl ?_
            refine rt_ge k 8 rfl (by omega) (by omega) (fun _ => by omega) (fun _ => ?_)
            refine rt_run 4 rfl ?_
            refine rt_ld k rfl (n := 8) rfl (by omega) ?_
            refine rt_run 1 rfl ?_
            refine rt_cS mX11_signsBy kX11_readsAll_119 okX11_signsBy rfl rfl ?_
            refine mSignsBy_spec (o := some b) (fun b' hb' => by cases hb'; exact hb128) ?_
            refine rt_run 8 rfl ?_
            rw [e15', show sgO (some b) = sgnI b from rfl, b_t1 (by omega)]
            refine rt_st k rfl (n := 8) rfl (by omega) ?_
            refine rt_run 2 rfl ?_
            rw [← nI_succ]
            refine ihh (k + 1) _ (by omega) (hO3.sI (by simp) _ _) (fun s hs => ?_)
            show mqB (upd (gI τ3 73) k _ s) _
            by_cases hsk : s = k
            · subst hsk
              rw [pk_us, if_pos (show s < s + 1 by omega)]
              have := hq s hs
              rw [if_neg (show ¬ s < s by omega)] at this
              cases hbb : bt (sgnI b) s with
              | true =>
                rw [if_pos rfl, if_pos rfl]
                exact MQ_or this (mq_bit (by omega))
              | false =>
                rw [if_neg (by decide), if_neg (by decide), shl0 (by omega), Int32.or_zero]
                exact this
            · rw [pk_un hsk]
              have := hq s hs
              by_cases hlt : s < k
              · rw [if_pos hlt] at this
                rw [if_pos (by omega)]
                exact this
              · rw [if_neg hlt] at this
                rw [if_neg (by omega)]
                exact this
        refine rt_run 2 rfl ?_
        refine loop 8 0 τ2 rfl (OfM.rf _ _ _) (fun s hs => ?_)
        rw [if_neg (by omega)]
        exact hD.2.2.2 s hs
      · refine rt_run 2 rfl ?_
        rw [hat1]
        refine rt_iret rfl rfl (h1 j τ1 ?_ (by omega) hO1')
        rw [hrd, rd_hit hb, etk0]
        unfold tkPlace
        rw [if_pos (Or.inr (by show 24 ≤ n; omega))]
  -- at first
  have zs : ∀ dd k τ', k + dd = 8 → OfM KRd FRd τ τ' → (∀ p, p < 25 → gI τ' 72 p = 0) → (∀ s, s < k → gI τ' 73 s = 0) → RT mX11_readsAll none 23 [some (.ref 63), some (.int (nI k)), none, none] [] τ' Q := by
    intro dd
    induction dd with
    | zero =>
      intro k τ' hk hO hz hs
      refine rt_run 2 rfl ?_
      refine rt_ge k 8 rfl (by omega) (by omega) (fun _ => ?_) (fun _ => by omega)
      refine rt_run 14 rfl ?_
      refine main T.length 0 _ pS0 none none (by omega) (Nat.zero_le _) ((((hO.sF (by simp) _).sF (by simp) _).sF (by simp) _).sF (by simp) _) rfl ?_ pS0_wf (Nat.zero_le _) (Nat.le_refl _) (fun e => by cases e) rfl
      refine ⟨[], [], none, none, ⟨rfl, rfl⟩, Or.inl ⟨rfl, rfl⟩, Or.inl ⟨rfl, rfl⟩, ⟨rfl, fun i c hc => by cases hc⟩, ⟨rfl, fun i q hq => by cases hq⟩, ⟨rfl, by decide, fun p hp => ?_, fun s hs' => ?_⟩, Nat.le_refl _, Nat.le_refl _⟩
      · show mqB (gI τ' 72 p) 0
        rw [hz p (by omega)]
        intro j hj
        rw [b_0, b_0]
      · show mqB (gI τ' 73 s) 0
        rw [hs s (by omega)]
        intro j hj
        rw [b_0, b_0]
    | succ dd ih =>
      intro k τ' hk hO hz hs
      refine rt_run 2 rfl ?_
      refine rt_ge k 8 rfl (by omega) (by omega) (fun _ => by omega) (fun _ => ?_)
      refine rt_run 4 rfl ?_
      refine rt_st k rfl (n := 8) rfl (by omega) ?_
      refine rt_run 2 rfl ?_
      rw [← nI_succ]
      refine ih (k + 1) _ (by omega) (hO.sI (by simp) _ _) hz (fun s hs' => ?_)
      show upd (gI τ' 73) k 0 s = 0
      by_cases hsk : s = k
      · subst hsk; rw [pk_us]
      · rw [pk_un hsk]; exact hs s (by omega)
  have zd : ∀ dd k τ', k + dd = 25 → OfM KRd FRd τ τ' → (∀ p, p < k → gI τ' 72 p = 0) → RT mX11_readsAll none 2 [some (.ref 63), some (.int (nI k)), none, none] [] τ' Q := by
    intro dd
    induction dd with
    | zero =>
      intro k τ' hk hO hz
      refine rt_run 2 rfl ?_
      refine rt_ge k 25 rfl (by omega) (by omega) (fun _ => ?_) (fun _ => by omega)
      refine rt_run 2 rfl ?_
      exact zs 8 0 τ' rfl hO (fun p hp => hz p (by omega)) (fun s hs => by omega)
    | succ dd ih =>
      intro k τ' hk hO hz
      refine rt_run 2 rfl ?_
      refine rt_ge k 25 rfl (by omega) (by omega) (fun _ => by omega) (fun _ => ?_)
      refine rt_run 4 rfl ?_
      refine rt_st k rfl (n := 25) rfl (by omega) ?_
      refine rt_run 2 rfl ?_
      rw [← nI_succ]
      refine ih (k + 1) _ (by omega) (hO.sI (by simp) _ _) (fun p hp => ?_)
      show upd (gI τ' 72) k 0 p = 0
      by_cases hpk : p = k
      · subst hpk; rw [pk_us]
      · rw [pk_un hpk]; exact hz p (by omega)
  refine rt_run 2 rfl ?_
  exact zd 25 0 τ rfl (OfM.rf _ _ _) (fun p hp => by omega)
end MdReads

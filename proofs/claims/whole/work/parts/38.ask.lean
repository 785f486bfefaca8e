/-! the class's about, accepts, words, beyond -/
theorem XsIs.told {τ : Ty} {X : Nat → Option AE} {x : Nat} (h : XsIs τ X) (hx : x < 4) : (X x = none ∧ gF τ (51 + 3 * x) 4 = 0) ∨ ∃ A, X x = some A ∧ gF τ (51 + 3 * x) 4 = 1 ∧ ExIs τ (51 + 3 * x) A := by
  have h1 := h x hx
  cases hA : X x with
  | none => rw [hA] at h1; exact Or.inl ⟨rfl, h1.1⟩
  | some A => rw [hA] at h1; exact Or.inr ⟨A, rfl, h1.1, h1.2⟩
def orA (r : Int32) (a : AS) : Rs := (r, if r = -4 then refA (-4) a else a)
def staI (A : AE) : Int32 := if (bey A A 200 401 0 0 [(1, 1)]).1 = -4 then -4 else nI (bey A A 200 401 0 0 [(1, 1)]).2.length
def abtV (A : AE) (w : Nat) (a : AS) : Rs := if w = 0 then (nI A.2.2.2, a) else if w = 1 then ((if finB A 1 = true then 1 else 0), a) else if w = 2 then (bcI (vb (A.1 0) 25), a) else if w = 3 then (bcI (vb (fun i => A.2.2.1 i && decide (i ≠ 0)) 25), a) else orA (staI A) a
def abtA (a : AS) (x w : Int32) : Rs := match rn 4 x with
  | none => rfA (-2) a
  | some x => match rn 5 w with
    | none => rfA (-2) a
    | some w => match aX a x with
      | none => (-1, a)
      | some A => abtV A w a
/-- a word of n signs, by its figures -/
def wdOk : Nat → Nat → Bool
  | 0, c => decide (c = 0)
  | n + 1, c => decide (c % 10 < 8) && wdOk n (c / 10)
theorem wdOk_s (n c : Nat) : wdOk (n + 1) c = (decide (c % 10 < 8) && wdOk n (c / 10)) := rfl
theorem wdOk_at {n c j : Nat} (h : wdOk n c = true) (hj : j < n) : c / 10 ^ j % 10 < 8 := by
  induction n generalizing c j with
  | zero => omega
  | succ n ih =>
    unfold wdOk at h
    rw [Bool.and_eq_true] at h
    cases j with
    | zero => simpa using of_decide_eq_true h.1
    | succ j =>
      have := ih h.2 (j := j) (by omega)
      rw [Nat.pow_succ, Nat.mul_comm, ← Nat.div_div_eq_div_mul]
      exact this
def accS (A : AE) (c n : Nat) : Nat → Nat
  | 0 => 1
  | k + 1 => nx A (accS A c n k) (c / 10 ^ (n - 1 - k) % 10)
theorem accS_lt (A : AE) (c n k : Nat) : accS A c n k < 33554432 := by
  cases k with
  | zero => exact (by decide : 1 < 33554432)
  | succ k => exact nx_lt _ _ _
def accA (a : AS) (x n c : Int32) : Rs := match rn 4 x with
  | none => rfA (-2) a
  | some x => match rn 10 n with
    | none => rfA (-2) a
    | some n => if c < 0 then rfA (-2) a else if wdOk n c.toNatClampNeg = true then (match aX a x with
      | none => rfA (-3) a
      | some A => ((if finB A (accS A c.toNatClampNeg n n) = true then 1 else 0), a)) else rfA (-2) a
def wrdA (a : AS) (x n : Int32) : Rs := match rn 4 x with
  | none => rfA (-2) a
  | some x => match rn 10 n with
    | none => rfA (-2) a
    | some n => match aX a x with
      | none => rfA (-3) a
      | some A => orA (rouI A anyL 0 0 n) a
def beyA (a : AS) (x y : Int32) : Rs := match rn 4 x with
  | none => rfA (-2) a
  | some x => match rn 4 y with
    | none => rfA (-2) a
    | some y => match aX a x with
      | none => rfA (-3) a
      | some A => match aX a y with
        | none => rfA (-3) a
        | some B => orA (bey A B 400 401 0 0 [(1, 1)]).1 a
theorem nxt_one (A : AE) (i : Nat) : nxt A (fun p => Nat.testBit 1 p) i = A.1 0 i := by
  have h1 : ∀ p, p < 25 → Nat.testBit 1 p = decide (p = 0) := by decide
  rw [Bool.eq_iff_iff, nxt_iff]
  constructor
  · rintro ⟨p, hp, h2, h3⟩
    rw [h1 p hp] at h2
    rw [of_decide_eq_true h2] at h3
    exact h3
  · intro h
    exact ⟨0, by decide, by decide, h⟩
section ClAsk
variable {τ : Ty} {Q : Option Value → Ty → Prop} {a : AS}
theorem about_spec {x w : Int32} (hC : CIs τ a) (h : ∀ τ', OffC τ τ' → CIs τ' (abtA a x w).2 → Q (some (.int (abtA a x w).1)) τ') : RT mX10_about none 0 [some (.ref 0), some (.int x), some (.int w), none] [] τ Q := by
  have no : abtA a x w = rfA (-2) a → RT mX10_about none 16 [some (.ref 0), some (.int x), some (.int w), none] [] τ Q := by
    intro e
    rw [e] at h
    refine rt_run 2 rfl ?_
    refine rt_cV (ci := 10) mX10_refuse kX10_about_19 okX10_refuse rfl rfl rfl rfl rfl ?_
    exact refuse_spec hC (Or.inl rfl) (fun τ' hO hC' => rt_iret rfl rfl (h τ' hO hC'))
  refine rt_run 1 rfl ?_
  refine rt_cS mX10_isExpression kX10_about_1 okX10_isExpression rfl rfl ?_
  refine isExpr_spec (fun hh => ?_) (fun x' hx ex => ?_)
  · exact rt_if_eq rfl (fun _ => no (by unfold abtA; rw [rn_no (by decide) hh])) (fun hc => absurd rfl hc)
  subst ex
  refine rt_if_eq rfl (fun hc => absurd hc (by decide)) (fun _ => ?_)
  have rl : rn 5 w = none → abtA a (nI x') w = rfA (-2) a := fun e => by
    unfold abtA; rw [rn_so hx (by decide)]; dsimp only; rw [e]
  refine rt_run 1 rfl ?_
  refine rt_if_lt rfl (fun hc => no (rl (rn_out (Or.inl hc)))) (fun hc => ?_)
  refine rt_run 2 rfl ?_
  rcases pk_ix w (n := 5) (by decide) with g | g | ⟨w', hw, ew⟩
  · exact absurd g hc
  · exact rt_ic_le rfl (fun hd => absurd hd (le_no (n := 4) (by decide) g)) (fun hd => no (rl (rn_out (Or.inr g))))
  subst ew
  have eA : abtA a (nI x') (nI w') = (match aX a x' with
      | none => (-1, a)
      | some A => abtV A w' a) := by
    unfold abtA; rw [rn_so hx (by omega)]; dsimp only; rw [rn_so hw (by decide)]
  rw [eA] at h
  refine rt_le w' 4 rfl (by omega) (by omega) (fun _ => ?_) (fun _ => by omega)
  obtain ⟨f0, f1, f2, f3, f4, a0, a1, h38⟩ := isE_f (isE_x hx)
  refine rt_run 3 rfl ?_
  refine rt_aald rfl hx ?_
  refine rt_run 2 rfl ?_
  refine rt_getI rfl f4 ?_
  rcases hC.2.2.2.2.1.told hx with ⟨hA, e4⟩ | ⟨A, hA, e4, hE⟩
  · rw [hA] at h
    rw [e4]
    refine rt_if_ne rfl (fun hc => absurd rfl hc) (fun _ => ?_)
    refine rt_run 1 rfl ?_
    exact rt_iret rfl rfl (h τ (OffC.rf _) hC)
  · rw [hA] at h
    dsimp only at h
    rw [e4]
    refine rt_if_ne rfl (fun _ => ?_) (fun hc => absurd hc (by decide))
    refine rt_run 1 rfl ?_
    rcases (show w' = 0 ∨ w' = 1 ∨ w' = 2 ∨ w' = 3 ∨ w' = 4 by omega) with rfl | rfl | rfl | rfl | rfl
    · refine rt_tsIn (off := 32) (tgt := 72) rfl (by decide) (by decide) rfl (by decide) ?_
      refine rt_run 1 rfl ?_
      refine rt_getI rfl f3 ?_
      rw [hE.1]
      exact rt_iret rfl rfl (h τ (OffC.rf _) hC)
    · refine rt_tsIn (off := 37) (tgt := 77) rfl (by decide) (by decide) rfl (by decide) ?_
      refine rt_run 2 rfl ?_
      refine rt_cV (ci := 2) mX2_finishes kX10_about_79 okX2_finishes (isE_s (isE_x hx)) rfl rfl rfl rfl ?_
      refine finishes_specN (c := 1) (isE_x hx) hE (by decide) ?_
      have hh := h τ (OffC.rf _) hC
      have hv : (abtV A 1 a).1 = if finB A 1 = true then 1 else 0 := rfl
      rw [hv] at hh
      cases hf : finB A 1 with
      | true =>
        rw [hf] at hh
        refine rt_if_eq rfl (fun hc => absurd hc (by decide)) (fun _ => ?_)
        refine rt_run 2 rfl ?_
        exact rt_iret rfl rfl hh
      | false =>
        rw [hf] at hh
        refine rt_if_eq rfl (fun _ => ?_) (fun hc => absurd rfl hc)
        refine rt_run 1 rfl ?_
        exact rt_iret rfl rfl hh
    · refine rt_tsIn (off := 51) (tgt := 91) rfl (by decide) (by decide) rfl (by decide) ?_
      refine rt_run 2 rfl ?_
      refine rt_cV (ci := 2) mX2_behind kX10_about_93 okX2_behind (isE_s (isE_x hx)) rfl rfl rfl rfl ?_
      refine behind_specN (c := 1) (isE_x hx) hE (fun g hg => ?_)
      have eg : g = vb (A.1 0) 25 := by
        apply b_ext
        intro i hi
        rw [hg i hi, nxt_one, vb_bt _ _ (by decide) hi]
        by_cases h25 : i < 25
        · simp [h25]
        · cases hb : A.1 0 i with
          | false => simp
          | true =>
            have := hE.2.2.2.2.2.1 0 i hb
            have := hE.2.2.2.2.1
            omega
      rw [eg]
      refine rt_cS mJ6_bitCount_0f7a4 kX10_about_96 okJ6_bitCount_0f7a4 rfl rfl ?_
      refine bitCount_spec ?_
      exact rt_iret rfl rfl (h τ (OffC.rf _) hC)
    · refine rt_tsIn (off := 60) (tgt := 100) rfl (by decide) (by decide) rfl (by decide) ?_
      refine rt_run 1 rfl ?_
      refine rt_getI rfl f2 ?_
      refine rt_run 2 rfl ?_
      have eg : gF τ (51 + 3 * x') 2 &&& -2 = vb (fun i => A.2.2.1 i && decide (i ≠ 0)) 25 := by
        apply b_ext
        intro i hi
        rw [b_and, b_m2 hi, hE.2.2.2.1 i hi, vb_bt _ _ (by decide) hi]
        by_cases h25 : i < 25
        · simp [h25]
        · cases hb : A.2.2.1 i with
          | false => simp
          | true =>
            have := hE.2.2.2.2.2.2.2 i hb
            have := hE.2.2.2.2.1
            omega
      rw [eg]
      refine rt_cS mJ6_bitCount_0f7a4 kX10_about_107 okJ6_bitCount_0f7a4 rfl rfl ?_
      refine bitCount_spec ?_
      exact rt_iret rfl rfl (h τ (OffC.rf _) hC)
    · refine rt_tsOut (tgt := 111) rfl (Or.inr (by decide)) (by decide) ?_
      refine rt_run 4 rfl ?_
      refine rt_cV (ci := 0) mX0_statesOf kX10_about_117 okX0_statesOf rfl rfl rfl rfl rfl ?_
      refine statesOf0_spec (isE_x hx) hE (fun τ1 hO1 => ?_)
      refine rt_cV (ci := 10) mX10_orRefused kX10_about_120 okX10_orRefused rfl rfl rfl rfl rfl ?_
      refine orRefused_spec (a := a) (hC.scr (hO1.w.up (by decide)) (hC.2.2.2.2.2.1.eq hO1.2)) (fun τ2 hO2 hC2 => ?_)
      exact rt_iret rfl rfl (h τ2 ((hO1.c (by decide)).tr hO2) hC2)
def b01 : Bool → Int32
  | true => 1
  | false => 0
def isWdB (n c : Int32) : Bool := match rn 10 n with
  | none => false
  | some n => !decide (c < 0) && wdOk n c.toNatClampNeg
theorem isWord_spec {n c : Int32} (h : Q (some (.int (b01 (isWdB n c)))) τ) : RT mX10_isWord none 0 [some (.int n), some (.int c), none, none] [] τ Q := by
  have no : isWdB n c = false → RT mX10_isWord none 14 [some (.int n), some (.int c), none, none] [] τ Q := by
    intro e
    rw [e] at h
    refine rt_run 1 rfl ?_
    exact rt_zret rfl rfl (Or.inl rfl) h
  refine rt_run 1 rfl ?_
  refine rt_if_lt rfl (fun hc => no (by unfold isWdB; rw [rn_out (Or.inl hc)])) (fun hc => ?_)
  refine rt_run 2 rfl ?_
  rcases pk_ix n (n := 10) (by decide) with g | g | ⟨n', hn, en⟩
  · exact absurd g hc
  · refine rt_ic_gt rfl (fun _ => no (by unfold isWdB; rw [rn_out (Or.inr g)])) (fun hd => ?_)
    exfalso
    rw [Int32.le_iff_toInt_le] at g
    rw [Int32.lt_iff_toInt_lt] at hd
    have e10 : (nI 10).toInt = 10 := by decide
    have e9 : (9 : Int32).toInt = 9 := by decide
    omega
  subst en
  have eW : isWdB (nI n') c = (!decide (c < 0) && wdOk n' c.toNatClampNeg) := by unfold isWdB; rw [rn_so hn (by decide)]
  rw [eW] at h no
  refine rt_gt n' 9 rfl (by omega) (by omega) (fun _ => by omega) (fun _ => ?_)
  refine rt_run 1 rfl ?_
  by_cases hneg : c < 0
  · refine rt_if_ge rfl (fun hd => ?_) (fun _ => no (by simp [hneg]))
    exfalso
    rw [Int32.le_iff_toInt_le] at hd
    rw [Int32.lt_iff_toInt_lt] at hneg
    omega
  · obtain ⟨c', hc', ec⟩ := nI_of hneg
    subst ec
    have e1 : (!decide (nI c' < 0) && wdOk n' (nI c').toNatClampNeg) = wdOk n' c' := by
      rw [nI_clamp hc']; simp [hneg]
    rw [e1] at h
    refine rt_if_ge rfl (fun _ => ?_) (fun hd => absurd (nI_pos' hc') hd)
    have loop : ∀ d k r, k + d = n' → r < 2 ^ 31 → wdOk n' c' = wdOk d r → RT mX10_isWord none 20 [some (.int (nI n')), some (.int (nI c')), some (.int (nI r)), some (.int (nI k))] [] τ Q := by
      intro d
      induction d with
      | zero =>
        intro k r hk hr e
        refine rt_run 2 rfl ?_
        refine rt_ge k n' rfl (by omega) (by omega) (fun _ => ?_) (fun _ => by omega)
        refine rt_run 1 rfl ?_
        rw [e] at h
        unfold wdOk at h
        refine rt_if_ne rfl (fun hne => ?_) (fun heq => ?_)
        · have : r ≠ 0 := fun e => hne (by rw [e]; rfl)
          rw [decide_eq_false this] at h
          refine rt_run 1 rfl ?_
          exact rt_zret rfl rfl (Or.inl rfl) h
        · have : r = 0 := by
            by_cases hz : r = 0
            · exact hz
            · exact absurd heq (nI_ne0 (by omega) (by omega))
          rw [decide_eq_true this] at h
          refine rt_run 2 rfl ?_
          exact rt_zret rfl rfl (Or.inr rfl) h
      | succ d ih =>
        intro k r hk hr e
        rw [wdOk_s] at e
        refine rt_run 2 rfl ?_
        refine rt_ge k n' rfl (by omega) (by omega) (fun _ => by omega) (fun _ => ?_)
        refine rt_run 2 rfl ?_
        refine rt_irem rfl (by decide) ?_
        rw [show nI r - nI r / 10 * 10 = nI (r % 10) from pk_rem (d := 10) hr (by decide) (by decide)]
        refine rt_run 1 rfl ?_
        refine rt_lt (r % 10) 8 rfl (by omega) (by omega) (fun hlt => ?_) (fun hge => ?_)
        · refine rt_run 2 rfl ?_
          refine rt_idiv rfl (by decide) ?_
          rw [show nI r / 10 = nI (r / 10) from pk_div (d := 10) hr (by decide) (by decide)]
          refine rt_run 3 rfl ?_
          rw [← nI_succ]
          refine ih (k + 1) (r / 10) (by omega) (by omega) ?_
          rw [e]; simp [hlt]
        · refine rt_run 1 rfl ?_
          rw [e, decide_eq_false (Nat.not_lt.mpr hge), Bool.false_and] at h
          exact rt_zret rfl rfl (Or.inl rfl) h
    refine rt_run 4 rfl ?_
    exact loop n' 0 c' (by omega) hc' rfl
theorem accepts_spec {x n c : Int32} (hC : CIs τ a) (h : ∀ τ', OffC τ τ' → CIs τ' (accA a x n c).2 → Q (some (.int (accA a x n c).1)) τ') : RT mX10_accepts none 0 [some (.ref 0), some (.int x), some (.int n), some (.int c), none, none, none, none] [] τ Q := by
  have no : accA a x n c = rfA (-2) a → RT mX10_accepts none 15 [some (.ref 0), some (.int x), some (.int n), some (.int c), none, none, none, none] [] τ Q := by
    intro e
    rw [e] at h
    refine rt_run 2 rfl ?_
    refine rt_cV (ci := 10) mX10_refuse kX10_accepts_18 okX10_refuse rfl rfl rfl rfl rfl ?_
    exact refuse_spec hC (Or.inl rfl) (fun τ' hO hC' => rt_iret rfl rfl (h τ' hO hC'))
  refine rt_run 1 rfl ?_
  refine rt_cS mX10_isExpression kX10_accepts_1 okX10_isExpression rfl rfl ?_
  refine isExpr_spec (fun hh => ?_) (fun x' hx ex => ?_)
  · exact rt_if_eq rfl (fun _ => no (by unfold accA; rw [rn_no (by decide) hh])) (fun hc => absurd rfl hc)
  subst ex
  refine rt_if_eq rfl (fun hc => absurd hc (by decide)) (fun _ => ?_)
  refine rt_run 2 rfl ?_
  refine rt_cS mX10_isWord kX10_accepts_9 okX10_isWord rfl rfl ?_
  refine isWord_spec ?_
  have eA : accA a (nI x') n c = match rn 10 n with
    | none => rfA (-2) a
    | some n => if c < 0 then rfA (-2) a else if wdOk n c.toNatClampNeg = true then (match aX a x' with
      | none => rfA (-3) a
      | some A => ((if finB A (accS A c.toNatClampNeg n n) = true then 1 else 0), a)) else rfA (-2) a := by
    unfold accA; rw [rn_so hx (by decide)]
  rcases pk_ix n (n := 10) (by decide) with g | g | ⟨n', hn, en⟩
  · rw [show isWdB n c = false by unfold isWdB; rw [rn_out (Or.inl g)]]
    exact rt_if_ne rfl (fun hc => absurd rfl hc) (fun _ => no (by rw [eA, rn_out (Or.inl g)]))
  · rw [show isWdB n c = false by unfold isWdB; rw [rn_out (Or.inr g)]]
    exact rt_if_ne rfl (fun hc => absurd rfl hc) (fun _ => no (by rw [eA, rn_out (Or.inr g)]))
  subst en
  have eW : isWdB (nI n') c = (!decide (c < 0) && wdOk n' c.toNatClampNeg) := by unfold isWdB; rw [rn_so hn (by decide)]
  rw [eW]
  rw [rn_so hn (by decide)] at eA
  dsimp only at eA
  by_cases hneg : c < 0
  · rw [if_pos hneg] at eA
    rw [decide_eq_true hneg]
    exact rt_if_ne rfl (fun hc => absurd rfl hc) (fun _ => no eA)
  rw [if_neg hneg] at eA
  rw [decide_eq_false hneg]
  obtain ⟨c', hc', ec⟩ := nI_of hneg
  subst ec
  rw [nI_clamp hc'] at eA ⊢
  cases hwd : wdOk n' c' with
  | false =>
    rw [hwd, if_neg (by decide)] at eA
    exact rt_if_ne rfl (fun hc => absurd rfl hc) (fun _ => no eA)
  | true =>
  rw [hwd, if_pos rfl] at eA
  rw [eA] at h
  refine rt_if_ne rfl (fun _ => ?_) (fun hc => absurd hc (by decide))
  obtain ⟨f0, f1, f2, f3, f4, a0, a1, h38⟩ := isE_f (isE_x hx)
  refine rt_run 3 rfl ?_
  refine rt_aald rfl hx ?_
  refine rt_run 2 rfl ?_
  refine rt_getI rfl f4 ?_
  rcases hC.2.2.2.2.1.told hx with ⟨hA, e4⟩ | ⟨A, hA, e4, hE⟩
  · rw [hA] at h
    rw [e4]
    refine rt_if_ne rfl (fun hc => absurd rfl hc) (fun _ => ?_)
    refine rt_run 2 rfl ?_
    refine rt_cV (ci := 10) mX10_refuse kX10_accepts_41 okX10_refuse rfl rfl rfl rfl rfl ?_
    exact refuse_spec hC (Or.inr (Or.inl rfl)) (fun τ' hO hC' => rt_iret rfl rfl (h τ' hO hC'))
  rw [hA] at h
  dsimp only at h
  rw [e4]
  refine rt_if_ne rfl (fun _ => ?_) (fun hc => absurd hc (by decide))
  have p10 : ∀ j, j ≤ 8 → 10 ^ j < 2 ^ 31 := by decide
  have hfin := h τ (OffC.rf _) hC
  have loop2 : ∀ d k m (y : Nat), k + d = n' → m = (if d = 0 then 1 else 10 ^ (d - 1)) → RT mX10_accepts none 76 [some (.ref 0), some (.int (nI x')), some (.int (nI n')), some (.int (nI c')), some (.ref (51 + 3 * x')), some (.int (nI m)), some (.int (nI (accS A c' n' k))), some (.int (nI k))] [] τ Q := by
    intro d
    induction d with
    | zero =>
      intro k m _ hk hm
      have : k = n' := by omega
      subst this
      refine rt_run 2 rfl ?_
      refine rt_ge k k rfl (by omega) (by omega) (fun _ => ?_) (fun _ => by omega)
      refine rt_run 2 rfl ?_
      refine rt_cV (ci := 2) mX2_finishes kX10_accepts_119 okX2_finishes (isE_s (isE_x hx)) rfl rfl rfl rfl ?_
      refine finishes_specN (isE_x hx) hE (accS_lt _ _ _ _) ?_
      cases hf : finB A (accS A c' k k) with
      | true =>
        rw [hf] at hfin
        refine rt_if_eq rfl (fun hc => absurd hc (by decide)) (fun _ => ?_)
        refine rt_run 2 rfl ?_
        exact rt_iret rfl rfl hfin
      | false =>
        rw [hf] at hfin
        refine rt_if_eq rfl (fun _ => ?_) (fun hc => absurd rfl hc)
        refine rt_run 1 rfl ?_
        exact rt_iret rfl rfl hfin
    | succ d ih =>
      intro k m y hk hm
      rw [if_neg (by omega)] at hm
      have hm : m = 10 ^ d := hm
      have hmlt := p10 d (by omega)
      have hpos : 0 < 10 ^ d := Nat.pos_of_ne_zero (by intro e; exact absurd e (by simp))
      subst hm
      refine rt_run 2 rfl ?_
      refine rt_ge k n' rfl (by omega) (by omega) (fun _ => by omega) (fun _ => ?_)
      refine rt_run 4 rfl ?_
      refine rt_idiv rfl (nI_ne0 hpos hmlt) ?_
      rw [pk_div hc' hpos hmlt]
      refine rt_run 1 rfl ?_
      have hdl : c' / 10 ^ d < 2 ^ 31 := Nat.lt_of_le_of_lt (Nat.div_le_self _ _) hc'
      refine rt_irem rfl (by decide) ?_
      rw [show nI (c' / 10 ^ d) - nI (c' / 10 ^ d) / 10 * 10 = nI (c' / 10 ^ d % 10) from pk_rem (d := 10) hdl (by decide) (by decide)]
      refine rt_cV (ci := 2) mX2_after kX10_accepts_93 okX2_after (isE_s (isE_x hx)) rfl rfl rfl rfl ?_
      refine after_specN (isE_x hx) hE (wdOk_at hwd (by omega)) ?_
      refine rt_run 4 rfl ?_
      refine rt_idiv rfl (by decide) ?_
      rw [show nI (10 ^ d) / 10 = nI (10 ^ d / 10) from pk_div (d := 10) hmlt (by decide) (by decide)]
      refine rt_max rfl (by decide +kernel) (by decide) (Nat.le_of_ble_eq_true rfl) ?_
      have emax : (if (1 : Int32) < nI (10 ^ d / 10) then nI (10 ^ d / 10) else (1 : Int32)) = nI (if d = 0 then 1 else 10 ^ (d - 1)) := by
        cases d with
        | zero => decide
        | succ d =>
          have e1 : 10 ^ (d + 1) / 10 = 10 ^ d := by rw [Nat.pow_succ, Nat.mul_div_cancel _ (by decide)]
          rw [e1, if_neg (show ¬ d + 1 = 0 by omega)]
          show _ = nI (10 ^ d)
          split
          · rfl
          · rename_i hn1
            have hlt1 : ¬ 1 < 10 ^ d := fun hh => hn1 (nI_lt (a := 1) hh (p10 d (by omega)))
            have : 0 < 10 ^ d := Nat.pos_of_ne_zero (by intro e; exact absurd e (by simp))
            have : 10 ^ d = 1 := by omega
            rw [this]; rfl
      rw [emax]
      refine rt_run 3 rfl ?_
      rw [← nI_succ]
      have := ih (k + 1) _ y (by omega) rfl
      have es : accS A c' n' (k + 1) = nx A (accS A c' n' k) (c' / 10 ^ d % 10) := by
        show nx A _ (c' / 10 ^ (n' - 1 - k) % 10) = _
        rw [show n' - 1 - k = d by omega]
      rw [es] at this
      exact this
  have loop1 : ∀ d k, k + d = n' → 1 ≤ k → RT mX10_accepts none 51 [some (.ref 0), some (.int (nI x')), some (.int (nI n')), some (.int (nI c')), some (.ref (51 + 3 * x')), some (.int (nI (10 ^ (k - 1)))), some (.int (nI k)), none] [] τ Q := by
    intro d
    induction d with
    | zero =>
      intro k hk h1
      refine rt_run 2 rfl ?_
      refine rt_ge k n' rfl (by omega) (by omega) (fun _ => ?_) (fun _ => by omega)
      refine rt_run 4 rfl ?_
      exact loop2 n' 0 _ 0 (by omega) (by rw [if_neg (by omega), show n' = k by omega])
    | succ d ih =>
      intro k hk h1
      refine rt_run 2 rfl ?_
      refine rt_ge k n' rfl (by omega) (by omega) (fun _ => by omega) (fun _ => ?_)
      refine rt_run 6 rfl ?_
      have := ih (k + 1) (by omega) (by omega)
      rw [show 10 ^ (k + 1 - 1) = 10 ^ (k - 1) * 10 by rw [← Nat.pow_succ]; congr 1; omega, ← pk_mul, nI_succ k] at this
      exact this
  refine rt_run 4 rfl ?_
  by_cases hn0 : n' = 0
  · subst hn0
    refine rt_run 2 rfl ?_
    refine rt_ge 1 0 rfl (by omega) (by omega) (fun _ => ?_) (fun _ => by omega)
    refine rt_run 4 rfl ?_
    exact loop2 0 0 1 0 rfl rfl
  · exact loop1 (n' - 1) 1 (by omega) (by omega)
theorem words_spec {x n : Int32} (hC : CIs τ a) (h : ∀ τ', OffC τ τ' → CIs τ' (wrdA a x n).2 → Q (some (.int (wrdA a x n).1)) τ') : RT mX10_words none 0 [some (.ref 0), some (.int x), some (.int n)] [] τ Q := by
  have no : wrdA a x n = rfA (-2) a → RT mX10_words none 17 [some (.ref 0), some (.int x), some (.int n)] [] τ Q := by
    intro e
    rw [e] at h
    refine rt_run 2 rfl ?_
    refine rt_cV (ci := 10) mX10_refuse kX10_words_20 okX10_refuse rfl rfl rfl rfl rfl ?_
    exact refuse_spec hC (Or.inl rfl) (fun τ' hO hC' => rt_iret rfl rfl (h τ' hO hC'))
  refine rt_run 1 rfl ?_
  refine rt_cS mX10_isExpression kX10_words_1 okX10_isExpression rfl rfl ?_
  refine isExpr_spec (fun hh => ?_) (fun x' hx ex => ?_)
  · exact rt_if_eq rfl (fun _ => no (by unfold wrdA; rw [rn_no (by decide) hh])) (fun hc => absurd rfl hc)
  subst ex
  refine rt_if_eq rfl (fun hc => absurd hc (by decide)) (fun _ => ?_)
  have rl : rn 10 n = none → wrdA a (nI x') n = rfA (-2) a := fun e => by
    unfold wrdA; rw [rn_so hx (by decide)]; dsimp only; rw [e]
  refine rt_run 1 rfl ?_
  refine rt_if_lt rfl (fun hc => no (rl (rn_out (Or.inl hc)))) (fun hc => ?_)
  refine rt_run 2 rfl ?_
  rcases pk_ix n (n := 10) (by decide) with g | g | ⟨n', hn, en⟩
  · exact absurd g hc
  · exact rt_ic_le rfl (fun hd => absurd hd (le_no (n := 9) (by decide) g)) (fun hd => no (rl (rn_out (Or.inr g))))
  subst en
  have eA : wrdA a (nI x') (nI n') = (match aX a x' with
      | none => rfA (-3) a
      | some A => orA (rouI A anyL 0 0 n') a) := by
    unfold wrdA; rw [rn_so hx (by omega)]; dsimp only; rw [rn_so hn (by decide)]
  rw [eA] at h
  refine rt_le n' 9 rfl (by omega) (by omega) (fun _ => ?_) (fun _ => by omega)
  obtain ⟨f0, f1, f2, f3, f4, a0, a1, h38⟩ := isE_f (isE_x hx)
  refine rt_run 3 rfl ?_
  refine rt_aald rfl hx ?_
  refine rt_getI rfl f4 ?_
  rcases hC.2.2.2.2.1.told hx with ⟨hA, e4⟩ | ⟨A, hA, e4, hE⟩
  · rw [hA] at h
    rw [e4]
    refine rt_if_ne rfl (fun hc => absurd rfl hc) (fun _ => ?_)
    refine rt_run 2 rfl ?_
    refine rt_cV (ci := 10) mX10_refuse kX10_words_39 okX10_refuse rfl rfl rfl rfl rfl ?_
    exact refuse_spec hC (Or.inr (Or.inl rfl)) (fun τ' hO hC' => rt_iret rfl rfl (h τ' hO hC'))
  rw [hA] at h
  dsimp only at h
  rw [e4]
  obtain ⟨wa, wb, hw1, hw2⟩ := hC.2.2.2.2.2.1
  refine rt_if_ne rfl (fun _ => ?_) (fun hc => absurd hc (by decide))
  refine rt_run 6 rfl ?_
  refine rt_aald rfl hx ?_
  refine rt_run 5 rfl ?_
  refine rt_cV (ci := 9) mX9_routesOf kX10_words_61 okX9_routesOf rfl rfl rfl rfl rfl ?_
  refine routesOf_spec (u := 0) (v := 0) hw1 hw2 (isE_x hx) (Or.inr (Or.inr rfl)) hE hC.2.2.1 anyL_ok (by decide) (by decide) (by omega) (fun τ1 wa' wb' hO1 hw1' hw2' => ?_)
  refine rt_cV (ci := 10) mX10_orRefused kX10_words_64 okX10_orRefused rfl rfl rfl rfl rfl ?_
  refine orRefused_spec (a := a) (hC.scr (hO1.up (by decide)) ⟨wa', wb', hw1', hw2'⟩) (fun τ2 hO2 hC2 => ?_)
  exact rt_iret rfl rfl (h τ2 ((hO1.c (by decide)).tr hO2) hC2)
theorem beyond_spec {x y : Int32} (hC : CIs τ a) (h : ∀ τ', OffC τ τ' → CIs τ' (beyA a x y).2 → Q (some (.int (beyA a x y).1)) τ') : RT mX10_beyond none 0 [some (.ref 0), some (.int x), some (.int y)] [] τ Q := by
  have no : beyA a x y = rfA (-2) a → RT mX10_beyond none 14 [some (.ref 0), some (.int x), some (.int y)] [] τ Q := by
    intro e
    rw [e] at h
    refine rt_run 2 rfl ?_
    refine rt_cV (ci := 10) mX10_refuse kX10_beyond_17 okX10_refuse rfl rfl rfl rfl rfl ?_
    exact refuse_spec hC (Or.inl rfl) (fun τ' hO hC' => rt_iret rfl rfl (h τ' hO hC'))
  have no3 : beyA a x y = rfA (-3) a → RT mX10_beyond none 45 [some (.ref 0), some (.int x), some (.int y)] [] τ Q := by
    intro e
    rw [e] at h
    refine rt_run 2 rfl ?_
    refine rt_cV (ci := 10) mX10_refuse kX10_beyond_48 okX10_refuse rfl rfl rfl rfl rfl ?_
    exact refuse_spec hC (Or.inr (Or.inl rfl)) (fun τ' hO hC' => rt_iret rfl rfl (h τ' hO hC'))
  refine rt_run 1 rfl ?_
  refine rt_cS mX10_isExpression kX10_beyond_1 okX10_isExpression rfl rfl ?_
  refine isExpr_spec (fun hh => ?_) (fun x' hx ex => ?_)
  · exact rt_if_eq rfl (fun _ => no (by unfold beyA; rw [rn_no (by decide) hh])) (fun hc => absurd rfl hc)
  subst ex
  refine rt_if_eq rfl (fun hc => absurd hc (by decide)) (fun _ => ?_)
  refine rt_run 1 rfl ?_
  refine rt_cS mX10_isExpression kX10_beyond_8 okX10_isExpression rfl rfl ?_
  refine isExpr_spec (fun hh => ?_) (fun y' hy ey => ?_)
  · exact rt_if_ne rfl (fun hc => absurd rfl hc) (fun _ => no (by unfold beyA; rw [rn_so hx (by decide)]; dsimp only; rw [rn_no (by decide) hh]))
  subst ey
  refine rt_if_ne rfl (fun _ => ?_) (fun hc => absurd hc (by decide))
  have eA : beyA a (nI x') (nI y') = (match aX a x' with
      | none => rfA (-3) a
      | some A => match aX a y' with
        | none => rfA (-3) a
        | some B => orA (bey A B 400 401 0 0 [(1, 1)]).1 a) := by
    unfold beyA; rw [rn_so hx (by omega)]; dsimp only; rw [rn_so hy (by decide)]
  obtain ⟨f0, f1, f2, f3, f4, a0, a1, h38⟩ := isE_f (isE_x hx)
  obtain ⟨p0, p1, p2, p3, p4, b0, b1, q38⟩ := isE_f (isE_x hy)
  refine rt_run 3 rfl ?_
  refine rt_aald rfl hx ?_
  refine rt_getI rfl f4 ?_
  rcases hC.2.2.2.2.1.told hx with ⟨hA, e4⟩ | ⟨A, hA, e4, hE⟩
  · rw [e4]
    exact rt_if_eq rfl (fun _ => no3 (by rw [eA, hA])) (fun hc => absurd rfl hc)
  rw [e4]
  refine rt_if_eq rfl (fun hc => absurd hc (by decide)) (fun _ => ?_)
  refine rt_run 3 rfl ?_
  refine rt_aald rfl hy ?_
  refine rt_getI rfl p4 ?_
  rcases hC.2.2.2.2.1.told hy with ⟨hB, e5⟩ | ⟨B, hB, e5, hF⟩
  · rw [e5]
    exact rt_if_ne rfl (fun hc => absurd rfl hc) (fun _ => no3 (by rw [eA, hA, hB]))
  rw [e5]
  refine rt_if_ne rfl (fun _ => ?_) (fun hc => absurd hc (by decide))
  rw [eA, hA, hB] at h
  dsimp only at h
  refine rt_run 6 rfl ?_
  refine rt_aald rfl hx ?_
  refine rt_run 3 rfl ?_
  refine rt_aald rfl hy ?_
  refine rt_run 1 rfl ?_
  refine rt_cV (ci := 0) mX0_shortestBeyond kX10_beyond_72 okX0_shortestBeyond rfl rfl rfl rfl rfl ?_
  refine shortestBeyond_spec (lim := 400) (isE_x hx) (isE_x hy) hE hF (by decide) (by decide) (fun τ1 hO1 _ => ?_)
  refine rt_cV (ci := 10) mX10_orRefused kX10_beyond_75 okX10_orRefused rfl rfl rfl rfl rfl ?_
  refine orRefused_spec (a := a) (hC.scr (hO1.w.up (by decide)) (hC.2.2.2.2.2.1.eq hO1.2)) (fun τ2 hO2 hC2 => ?_)
  exact rt_iret rfl rfl (h τ2 ((hO1.c (by decide)).tr hO2) hC2)
end ClAsk

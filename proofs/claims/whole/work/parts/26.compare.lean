/-! Comparison: pairs of sets, as they come -/
abbrev PL : Type := List (Nat × Nat)
def addP (K : PL) (lim : Nat) (x : Nat × Nat) : Option PL := if x ∈ K then some K else if K.length < lim then some (K ++ [x]) else none
def exN (A B : AE) (lim : Nat) (x : Nat × Nat) (K : PL) : Nat → Option PL
  | 0 => some K
  | s + 1 => (exN A B lim x K s).bind (fun K' => addP K' lim (nx A x.1 s, nx B x.2 s))
def wdN (A B : AE) (lim : Nat) (K : PL) (fr : Nat) : Nat → Option PL
  | 0 => some K
  | d + 1 => (wdN A B lim K fr d).bind (fun K' => match K[fr + d]? with
    | some x => exN A B lim x K' 8
    | none => some K')
def apart (A B : AE) (x : Nat × Nat) : Bool := finB A x.1 && !finB B x.2
def bey (A B : AE) (lim : Nat) : Nat → Nat → Nat → PL → Int32 × PL
  | 0, _, _, K => (-1, K)
  | f + 1, n, done, K => if (K.drop done).any (apart A B) = true then (nI n, K) else match wdN A B lim K done (K.length - done) with
    | none => (-4, K)
    | some K' => if K'.length = K.length then (-1, K') else bey A B lim f (n + 1) K.length K'
def pkey (x : Nat × Nat) : Int64 := lN (x.1 * 4294967296 + x.2)
def PLok (K : PL) : Prop := ∀ x ∈ K, x.1 < 33554432 ∧ x.2 < 33554432
def PTab (τ : Ty) (K : PL) (lim : Nat) : Prop := TabIs τ 46 (K.map pkey) lim ∧ PLok K
theorem lN_inj {a b : Nat} (ha : a < 2 ^ 64) (hb : b < 2 ^ 64) (h : lN a = lN b) : a = b := by
  have := congrArg (fun z : Int64 => z.toBitVec.toNat) h
  simpa [wb_tn ha, wb_tn hb] using this
theorem pkey_inj {x y : Nat × Nat} (hx : x.1 < 33554432 ∧ x.2 < 33554432) (hy : y.1 < 33554432 ∧ y.2 < 33554432) (h : pkey x = pkey y) : x = y := by
  have := lN_inj (by omega) (by omega) h
  have h1 : x.1 = y.1 := by omega
  have h2 : x.2 = y.2 := by omega
  exact Prod.ext h1 h2
theorem pkey_mem {K : PL} {x : Nat × Nat} (hK : PLok K) (hx : x.1 < 33554432 ∧ x.2 < 33554432) : pkey x ∈ K.map pkey ↔ x ∈ K := by
  rw [List.mem_map]
  constructor
  · rintro ⟨y, hy, he⟩
    rw [← pkey_inj (hK y hy) hx he]
    exact hy
  · intro h
    exact ⟨x, h, rfl⟩
theorem addP_pre {K K' : PL} {lim : Nat} {x : Nat × Nat} (h : addP K lim x = some K') : ∃ T, K' = K ++ T := by
  unfold addP at h
  split at h
  · cases h; exact ⟨[], by simp⟩
  · split at h
    · cases h; exact ⟨[x], rfl⟩
    · cases h
theorem exN_pre {A B : AE} {lim : Nat} {x : Nat × Nat} {K K' : PL} {s : Nat} (h : exN A B lim x K s = some K') : ∃ T, K' = K ++ T := by
  induction s generalizing K' with
  | zero => cases h; exact ⟨[], by simp⟩
  | succ s ih =>
    unfold exN at h
    obtain ⟨K1, h1, h2⟩ := Option.bind_eq_some_iff.mp h
    obtain ⟨T1, rfl⟩ := ih h1
    obtain ⟨T2, rfl⟩ := addP_pre h2
    exact ⟨T1 ++ T2, by simp⟩
theorem wdN_pre {A B : AE} {lim : Nat} {K K' : PL} {fr d : Nat} (h : wdN A B lim K fr d = some K') : ∃ T, K' = K ++ T := by
  induction d generalizing K' with
  | zero => cases h; exact ⟨[], by simp⟩
  | succ d ih =>
    unfold wdN at h
    obtain ⟨K1, h1, h2⟩ := Option.bind_eq_some_iff.mp h
    obtain ⟨T1, rfl⟩ := ih h1
    cases hk : K[fr + d]? with
    | none => rw [hk] at h2; cases h2; exact ⟨T1, rfl⟩
    | some x =>
      rw [hk] at h2
      obtain ⟨T2, rfl⟩ := exN_pre h2
      exact ⟨T1 ++ T2, by simp⟩
theorem pairOf_spec {c d : Nat} {τ : Ty} {Q : Option Value → Ty → Prop} (hc : c < 33554432) (hd : d < 33554432) (h : Q (some (.long (pkey (c, d)))) τ) : RT mX0_pairOf none 0 [some (.int (nI c)), some (.int (nI d))] [] τ Q := by
  refine rt_run 7 rfl ?_
  refine rt_lret rfl rfl ?_
  have e : (nI c).toInt64 <<< ((32 : Int32).toInt64 &&& 63) ||| (nI d).toInt64 = pkey (c, d) := by
    rw [nI_l (by omega), nI_l (by omega), show (32 : Int32) = nI 32 from rfl, wb_shl c (by decide), show (2 : Nat) ^ 32 = 4294967296 by decide, g_or (k := 32) (by decide) (by omega) (by omega)]
    rfl
  rw [e]
  exact h
theorem pkey_lo {x : Nat × Nat} (h : x.1 < 33554432 ∧ x.2 < 33554432) : (pkey x).toInt32 = nI x.2 := by
  unfold pkey
  rw [lN_i]
  show Int32.ofNat _ = Int32.ofNat _
  apply Int32.toBitVec_inj.mp
  show BitVec.ofNat 32 _ = BitVec.ofNat 32 _
  apply BitVec.eq_of_toNat_eq
  rw [BitVec.toNat_ofNat, BitVec.toNat_ofNat]
  omega
theorem pkey_hi {x : Nat × Nat} (h : x.1 < 33554432 ∧ x.2 < 33554432) : ((pkey x).toUInt64 >>> ((32 : Int32).toInt64.toUInt64 &&& Int64.toUInt64 63)).toInt64.toInt32 = nI x.1 := by
  unfold pkey
  rw [show (32 : Int32) = nI 32 from rfl, wb_shr (by omega) (by decide), lN_i]
  congr 1
  rw [show (2 : Nat) ^ 32 = 4294967296 by decide]
  omega
theorem kT46 {k : Nat} (hk : isE k) : k ∉ kT 46 ∧ k + 1 ∉ kT 46 ∧ k + 2 ∉ kT 46 := by rcases hk with rfl | rfl | rfl | rfl | rfl <;> decide
/-- numbering a pair -/
theorem number_pair {lim : Nat} {K : PL} {x : Nat × Nat} {τ : Ty} {Q : Option Value → Ty → Prop} (hT : PTab τ K lim) (hx : x.1 < 33554432 ∧ x.2 < 33554432)
    (h1 : ∀ τ' K' r, addP K lim x = some K' → Off (kT 46) τ τ' → PTab τ' K' lim → ¬ r = -1 → Q (some (.int r)) τ') (h2 : addP K lim x = none → Q (some (.int (-1))) τ) :
    RT mX8_numberOf none 0 [some (.ref 46), some (.long (pkey x)), none, none, none, none] [] τ Q := by
  have hlen := hT.1.2.2.1
  have hlim := hT.1.2.2.2.1
  rw [List.length_map] at hlen
  have neg : ∀ j, j < 1000 → ¬ nI j = -1 := by
    intro j hj e
    have h9 : (nI j).toInt = (j : Int) := nI_toInt (by omega)
    rw [e] at h9
    have h10 : (-1 : Int32).toInt = -1 := by decide
    omega
  refine numberOf_spec (Or.inr rfl) hT.1 (fun j hj => ?_) (fun hn hl => ?_) (fun hn hl τ' hO hT' => ?_)
  · have hin : x ∈ K := (pkey_mem hT.2 hx).mp (List.mem_of_getElem? hj)
    have hj1 := (List.getElem?_eq_some_iff.mp hj).1
    rw [List.length_map] at hj1
    exact h1 τ K (nI j) (by unfold addP; rw [if_pos hin]) (Off.rf _ _) hT (neg j (by omega))
  · rw [List.length_map] at hl
    have hin : x ∉ K := fun e => hn ((pkey_mem hT.2 hx).mpr e)
    exact h2 (by unfold addP; rw [if_neg hin, if_neg (by omega)])
  · rw [List.length_map] at hl ⊢
    have hin : x ∉ K := fun e => hn ((pkey_mem hT.2 hx).mpr e)
    refine h1 τ' (K ++ [x]) (nI K.length) (by unfold addP; rw [if_neg hin, if_pos hl]) hO ⟨?_, fun y hy => ?_⟩ (neg _ (by omega))
    · rw [List.map_append]; exact hT'
    · rcases List.mem_append.mp hy with hy | hy
      · exact hT.2 y hy
      · simp at hy; subst hy; exact hx
theorem tellsApart_spec {ka kb lim fr : Nat} {A B : AE} {K : PL} {τ : Ty} {Q : Option Value → Ty → Prop} (hka : isE ka) (hkb : isE kb) (hA : ExIs τ ka A) (hB : ExIs τ kb B) (hT : PTab τ K lim) (hfr : fr ≤ K.length)
    (h : Q (some (.int (if (K.drop fr).any (apart A B) = true then 1 else 0))) τ) : RT mX0_tellsApart none 0 [some (.ref 45), some (.ref ka), some (.ref kb), some (.int (nI fr)), some (.int (nI K.length)), none, none, none] [] τ Q := by
  have hlen := hT.1.2.2.1
  have hlim := hT.1.2.2.2.1
  rw [List.length_map] at hlen
  have loop : ∀ d i (x6 x7 : Option Value), (∀ z, x6 ≠ some (.int z)) ∨ True → i + d = K.length → (K.drop fr).any (apart A B) = (K.drop i).any (apart A B) → RT mX0_tellsApart none 3 [some (.ref 45), some (.ref ka), some (.ref kb), some (.int (nI fr)), some (.int (nI K.length)), some (.int (nI i)), x6, x7] [] τ Q := by
    intro d
    induction d with
    | zero =>
      intro i x6 x7 _ hi hany
      refine rt_run 2 rfl ?_
      refine rt_ge i K.length rfl (by omega) (by omega) (fun _ => ?_) (fun _ => by omega)
      refine rt_run 1 rfl ?_
      rw [List.drop_of_length_le (i := i) (by omega)] at hany
      rw [hany] at h
      exact rt_zret rfl rfl (Or.inl rfl) h
    | succ d ih =>
      intro i x6 x7 _ hi hany
      refine rt_run 2 rfl ?_
      refine rt_ge i K.length rfl (by omega) (by omega) (fun _ => by omega) (fun hlt => ?_)
      have hq : K[i]? = some K[i] := List.getElem?_eq_getElem hlt
      have hx := hT.2 _ (List.getElem_mem hlt)
      have hkey := hT.1.2.2.2.2.2.1 i (pkey K[i]) (by rw [List.getElem?_map, hq]; rfl)
      have hdrop : (K.drop i).any (apart A B) = (apart A B K[i] || (K.drop (i + 1)).any (apart A B)) := by
        rw [List.drop_eq_getElem_cons hlt, List.any_cons]
      refine rt_run 4 rfl ?_
      refine rt_ldL i rfl (n := 400) rfl (by omega) ?_
      rw [hkey]
      refine rt_run 6 rfl ?_
      rw [pkey_hi hx]
      refine rt_cV (ci := 2) mX2_finishes kX0_tellsApart_29 okX2_finishes (isE_s hka) rfl rfl rfl rfl ?_
      refine finishes_specN hka hA hx.1 ?_
      have next : apart A B K[i] = false → RT mX0_tellsApart none 47 [some (.ref 45), some (.ref ka), some (.ref kb), some (.int (nI fr)), some (.int (nI K.length)), some (.int (nI i)), some (.long (pkey K[i])), none] [] τ Q := by
        intro hap
        refine rt_run 2 rfl ?_
        rw [← nI_succ]
        refine ih (i + 1) _ _ (Or.inr trivial) (by omega) ?_
        rw [hany, hdrop, hap, Bool.false_or]
      cases hfA : finB A K[i].1 with
      | false =>
        refine rt_if_eq rfl (fun _ => ?_) (fun hc => absurd rfl hc)
        exact next (by unfold apart; rw [hfA]; rfl)
      | true =>
        refine rt_if_eq rfl (fun hc => absurd hc (by decide)) (fun _ => ?_)
        refine rt_run 3 rfl ?_
        rw [pkey_lo hx]
        refine rt_cV (ci := 2) mX2_finishes kX0_tellsApart_39 okX2_finishes (isE_s hkb) rfl rfl rfl rfl ?_
        refine finishes_specN hkb hB hx.2 ?_
        cases hfB : finB B K[i].2 with
        | true =>
          refine rt_if_ne rfl (fun _ => ?_) (fun hc => absurd hc (by decide))
          exact next (by unfold apart; rw [hfA, hfB]; rfl)
        | false =>
          refine rt_if_ne rfl (fun hc => absurd rfl hc) (fun _ => ?_)
          refine rt_run 1 rfl ?_
          have : apart A B K[i] = true := by unfold apart; rw [hfA, hfB]; rfl
          rw [hany, hdrop, this, Bool.true_or] at h
          exact rt_zret rfl rfl (Or.inr rfl) h
  refine rt_run 2 rfl ?_
  exact loop (K.length - fr) fr none none (Or.inr trivial) (by omega) rfl

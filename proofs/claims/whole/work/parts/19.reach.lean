/-! an expression as what its bits say; Reach.spreads -/
/-- which places follow which (0 is the beginning), which bear a sign, which can be last, how many there are -/
abbrev AE : Type := (Nat → Nat → Bool) × (Nat → Nat → Bool) × (Nat → Bool) × Nat
def AEwf (A : AE) : Prop := A.2.2.2 ≤ 24 ∧ (∀ p i, A.1 p i = true → p ≤ A.2.2.2 ∧ 1 ≤ i ∧ i ≤ A.2.2.2) ∧ (∀ s i, A.2.1 s i = true → 1 ≤ i ∧ i ≤ A.2.2.2) ∧ ∀ i, A.2.2.1 i = true → i ≤ A.2.2.2
def ExIs (τ : Ty) (k : Nat) (A : AE) : Prop := gF τ k 3 = nI A.2.2.2 ∧ (∀ p, p < 25 → ∀ i, i < 32 → bt (gI τ (k + 1) p) i = A.1 p i) ∧ (∀ s, s < 8 → ∀ i, i < 32 → bt (gI τ (k + 2) s) i = A.2.1 s i) ∧ (∀ i, i < 32 → bt (gF τ k 2) i = A.2.2.1 i) ∧ AEwf A
theorem ExIs.off {ks : List Nat} {τ τ' : Ty} {k : Nat} {A : AE} (h : ExIs τ k A) (ho : Off ks τ τ') (h1 : k ∉ ks ∧ k + 1 ∉ ks ∧ k + 2 ∉ ks) : ExIs τ' k A := by
  refine ⟨by rw [(ho.1 k h1.1).2.2]; exact h.1, fun p hp i hi => ?_, fun s hs i hi => ?_, fun i hi => ?_, h.2.2.2.2⟩
  · rw [(ho.1 _ h1.2.1).1]; exact h.2.1 p hp i hi
  · rw [(ho.1 _ h1.2.2).1]; exact h.2.2.1 s hs i hi
  · rw [(ho.1 k h1.1).2.2]; exact h.2.2.2.1 i hi
theorem StIs.off {ks : List Nat} {τ τ' : Ty} {k : Nat} {L : SL} (h : StIs τ k L) (ho : Off ks τ τ') (h1 : k ∉ ks ∧ k + 1 ∉ ks ∧ k + 2 ∉ ks ∧ k + 3 ∉ ks ∧ k + 4 ∉ ks) : StIs τ' k L := by
  refine ⟨by rw [(ho.1 k h1.1).2.2]; exact h.1, fun i q hq => ?_⟩
  rw [(ho.1 _ h1.2.1).1, (ho.1 _ h1.2.2.1).1, (ho.1 _ h1.2.2.2.1).1, (ho.1 _ h1.2.2.2.2).1]
  exact h.2 i q hq
/-- the places behind a set -/
def nxt (A : AE) (S : Nat → Bool) (i : Nat) : Bool := (List.range 25).any (fun p => S p && A.1 p i)
theorem any_ext {n m : Nat} {f g : Nat → Bool} (hnm : n ≤ m) (h1 : ∀ p, p < n → f p = g p) (h2 : ∀ p, n ≤ p → p < m → g p = false) : (List.range n).any f = (List.range m).any g := by
  rw [Bool.eq_iff_iff]
  simp only [List.any_eq_true, List.mem_range]
  constructor
  · rintro ⟨p, hp, hf⟩
    exact ⟨p, by omega, by rw [← h1 p hp]; exact hf⟩
  · rintro ⟨p, hp, hg⟩
    by_cases hpn : p < n
    · exact ⟨p, hpn, by rw [h1 p hpn]; exact hg⟩
    · rw [h2 p (by omega) hp] at hg; cases hg
theorem behind_bt {τ : Ty} {k : Nat} {A : AE} {set : Int32} {S : Nat → Bool} (hE : ExIs τ k A) (hS : ∀ i, i < 32 → bt set i = S i) {i : Nat} (hi : i < 32) : bt (orL (gI τ (k + 1)) set (A.2.2.2 + 1)) i = nxt A S i := by
  have hn := hE.2.2.2.2.1
  rw [orL_bt]
  refine any_ext (by omega) (fun p hp => ?_) (fun p hp hp2 => ?_)
  · rw [hS p (by omega), hE.2.1 p (by omega) i hi]
  · cases hf : A.1 p i with
    | false => simp
    | true => have := (hE.2.2.2.2.2.1 p i hf).1; omega
theorem behind_specA {k : Nat} {A : AE} {set : Int32} {S : Nat → Bool} {τ : Ty} {Q : Option Value → Ty → Prop} (hk : isE k) (hE : ExIs τ k A) (hS : ∀ i, i < 32 → bt set i = S i) (h : ∀ r : Int32, (∀ i, i < 32 → bt r i = nxt A S i) → Q (some (.int r)) τ) : RT mX2_behind none 0 [some (.ref k), some (.int set), none, none] [] τ Q :=
  behind_spec hk hE.1 hE.2.2.2.2.1 (h _ (fun _ hi => behind_bt hE hS hi))
def BitsAt (τ : Ty) (k : Nat) (S : Nat → Nat → Bool) : Prop := ∀ v, v < 10 → ∀ i, i < 32 → bt (gI τ k v) i = S v i
def StOk (L : SL) : Prop := L.length ≤ 60 ∧ ∀ q ∈ L, q.1 < 10 ∧ q.2.1 < 8 ∧ q.2.2.1 < 10
/-- where one step leads to from what is at each vertex -/
def hit (L : SL) (A : AE) (fr : Nat → Nat → Bool) (w q : Nat) : Bool := L.any (fun st => decide (st.2.2.1 = w) && nxt A (fr st.1) q && A.2.1 st.2.1 q)
theorem hit_take {L : SL} {A : AE} {fr : Nat → Nat → Bool} {i : Nat} {st : Nat × Nat × Nat × Nat} (h : L[i]? = some st) (w q : Nat) : hit (L.take (i + 1)) A fr w q = (hit (L.take i) A fr w q || (decide (st.2.2.1 = w) && nxt A (fr st.1) q && A.2.1 st.2.1 q)) := by
  unfold hit
  rw [List.take_add_one, h, List.any_append]
  simp
theorem nxt_zero {A : AE} {S : Nat → Bool} (h : ∀ p, p < 25 → S p = false) (i : Nat) : nxt A S i = false := by
  unfold nxt
  rw [Bool.eq_false_iff]
  intro hh
  obtain ⟨p, hp, h2⟩ := List.any_eq_true.mp hh
  rw [h p (List.mem_range.mp hp)] at h2
  cases h2
theorem BitsAt.up {τ : Ty} {k j : Nat} {x : Int32} {S S' : Nat → Nat → Bool} (h : BitsAt τ k S) (h1 : ∀ i, i < 32 → bt x i = S' j i) (h2 : ∀ v, v ≠ j → S' v = S v) : BitsAt (sI τ k j x) k S' := by
  intro v hv i hi
  rw [gI_sI, if_pos rfl]
  by_cases hvj : v = j
  · subst hvj; rw [pk_us]; exact h1 i hi
  · rw [pk_un hvj, h2 v hvj]; exact h v hv i hi
theorem BitsAt.ne {τ : Ty} {k k' j : Nat} {x : Int32} {S : Nat → Nat → Bool} (h : BitsAt τ k S) (hne : k ≠ k') : BitsAt (sI τ k' j x) k S := by
  intro v hv i hi
  rw [gI_sI, if_neg hne]
  exact h v hv i hi
theorem BitsAt.off {ks : List Nat} {τ τ' : Ty} {k : Nat} {S : Nat → Nat → Bool} (h : BitsAt τ k S) (ho : Off ks τ τ') (hk : k ∉ ks) : BitsAt τ' k S := by
  intro v hv i hi
  rw [(ho.1 k hk).1]
  exact h v hv i hi
theorem offE {k : Nat} (hk : isE k) : k ∉ [31, 32, 33] ∧ k + 1 ∉ [31, 32, 33] ∧ k + 2 ∉ [31, 32, 33] := by rcases hk with rfl | rfl | rfl | rfl | rfl <;> decide
theorem offS {k : Nat} (hk : isS k) : k ∉ [31, 32, 33] ∧ k + 1 ∉ [31, 32, 33] ∧ k + 2 ∉ [31, 32, 33] ∧ k + 3 ∉ [31, 32, 33] ∧ k + 4 ∉ [31, 32, 33] := by rcases hk with rfl | rfl | rfl <;> decide
theorem spreads_spec {ke ks : Nat} {A : AE} {L : SL} {sn fr : Nat → Nat → Bool} {τ : Ty} {Q : Option Value → Ty → Prop} (hke : isE ke) (hks : isS ks) (hE : ExIs τ ke A) (hS : StIs τ ks L) (hL : StOk L) (hsn : BitsAt τ 31 sn) (hfr : BitsAt τ 32 fr)
    (h : ∀ τ' (r : Int32), Off [31, 32, 33] τ τ' → BitsAt τ' 31 (fun w q => sn w q || (hit L A fr w q && !sn w q)) → BitsAt τ' 32 (fun w q => hit L A fr w q && !sn w q) → ((r = 1 ∧ ∃ v, v < 10 ∧ ∃ i, i < 32 ∧ (hit L A fr v i && !sn v i) = true) ∨ (r = 0 ∧ ∀ v, v < 10 → ∀ i, i < 32 → (hit L A fr v i && !sn v i) = false)) → Q (some (.int r)) τ') :
    RT mX3_spreads none 0 [some (.ref 30), some (.ref ke), some (.ref ks), none, none, none, none] [] τ Q := by
  obtain ⟨s0, s1, s2, s3, s4, b0, b1, b2, b3, q38⟩ := isS_f hks
  obtain ⟨f0, f1, f2, f3, f4, a0, a1, h38⟩ := isE_f hke
  have loop2 : ∀ d i τ' (r : Int32) (x5 x6 : Option Value), i + d = L.length → Off [31, 32, 33] τ τ' → BitsAt τ' 33 (fun v q => nxt A (fr v) q) → BitsAt τ' 31 (fun w q => sn w q || (hit (L.take i) A fr w q && !sn w q)) → BitsAt τ' 32 (fun w q => hit (L.take i) A fr w q && !sn w q) → ((r = 1 ∧ ∃ v, v < 10 ∧ ∃ j, j < 32 ∧ (hit (L.take i) A fr v j && !sn v j) = true) ∨ (r = 0 ∧ ∀ v, v < 10 → ∀ j, j < 32 → (hit (L.take i) A fr v j && !sn v j) = false)) →
      RT mX3_spreads none 55 [some (.ref 30), some (.ref ke), some (.ref ks), some (.int r), some (.int (nI i)), x5, x6] [] τ' Q := by
    intro d
    induction d with
    | zero =>
      intro i τ' r x5 x6 hi hO hgo hse hfe hr
      have hS' := hS.off hO (offS hks)
      have hl := hL.1
      refine rt_run 2 rfl ?_
      refine rt_getI rfl s4 ?_
      refine rt_ge i L.length rfl (by omega) (by omega) (fun _ => ?_) (fun _ => by omega) rfl hS'.1
      refine rt_run 1 rfl ?_
      rw [List.take_of_length_le (by omega)] at hse hfe hr
      exact rt_zret rfl rfl (by rcases hr with hr | hr; exact Or.inr hr.1; exact Or.inl hr.1) (h τ' r hO hse hfe hr)
    | succ d ih =>
      intro i τ' r x5 x6 hi hO hgo hse hfe hr
      have hS' := hS.off hO (offS hks)
      have hE' := hE.off hO (offE hke)
      have hl := hL.1
      refine rt_run 2 rfl ?_
      refine rt_getI rfl s4 ?_
      refine rt_ge i L.length rfl (by omega) (by omega) (fun _ => by omega) (fun hlt => ?_) rfl hS'.1
      have hq : L[i]? = some L[i] := List.getElem?_eq_getElem hlt
      obtain ⟨g1, g2, g3, g4⟩ := hS'.2 i _ hq
      obtain ⟨c1, c2, c3⟩ := hL.2 _ (List.getElem_mem hlt)
      refine rt_run 1 rfl ?_
      refine rt_getQ rfl s2 q38 ?_
      refine rt_run 1 rfl ?_
      refine rt_ld i rfl b2 (by omega) ?_
      rw [g3]
      refine rt_run 3 rfl ?_
      refine rt_run 1 rfl ?_
      refine rt_getQ rfl s0 q38 ?_
      refine rt_run 1 rfl ?_
      refine rt_ld i rfl b0 (by omega) ?_
      refine rt_ld L[i].1 rfl (n := 10) rfl c1 ?_ g1
      refine rt_run 1 rfl ?_
      refine rt_getQ rfl f1 h38 ?_
      refine rt_run 1 rfl ?_
      refine rt_getQ rfl s1 q38 ?_
      refine rt_run 1 rfl ?_
      refine rt_ld i rfl b1 (by omega) ?_
      refine rt_ld L[i].2.1 rfl a1 c2 ?_ g2
      refine rt_run 4 rfl ?_
      refine rt_ld L[i].2.2.1 rfl (n := 10) rfl c3 ?_
      refine rt_run 5 rfl ?_
      generalize hcame : gI τ' 33 L[i].1 &&& gI τ' (ke + 2) L[i].2.1 &&& (gI τ' 31 L[i].2.2.1 ^^^ -1) = came
      have hcb : ∀ q, q < 32 → bt came q = (nxt A (fr L[i].1) q && A.2.1 L[i].2.1 q && !(sn L[i].2.2.1 q || (hit (L.take i) A fr L[i].2.2.1 q && !sn L[i].2.2.1 q))) := by
        intro q hq32
        rw [← hcame, b_and, b_and, b_not hq32, hgo _ c1 q hq32, hE'.2.2.1 _ c2 q hq32, hse _ c3 q hq32]
      refine rt_if_eq rfl (fun hc => ?_) (fun hc => ?_)
      · have hz : ∀ w q, q < 32 → (hit (L.take (i + 1)) A fr w q && !sn w q) = (hit (L.take i) A fr w q && !sn w q) := by
          intro w q hq32
          rw [hit_take hq]
          by_cases hw : L[i].2.2.1 = w
          · have := hcb q hq32
            rw [hc, b_0, hw] at this
            simp only [hw, decide_true, Bool.true_and]
            revert this
            cases nxt A (fr L[i].1) q <;> cases A.2.1 L[i].2.1 q <;> cases sn w q <;> cases hit (L.take i) A fr w q <;> simp
          · simp [hw]
        refine rt_run 2 rfl ?_
        rw [← nI_succ]
        refine ih (i + 1) τ' r _ _ (by omega) hO hgo (fun v hv q hq32 => ?_) (fun v hv q hq32 => ?_) ?_
        · dsimp only; rw [hz v q hq32]; exact hse v hv q hq32
        · dsimp only; rw [hz v q hq32]; exact hfe v hv q hq32
        · rcases hr with ⟨h1, v, hv, j, hj, h2⟩ | ⟨h1, h2⟩
          · exact Or.inl ⟨h1, v, hv, j, hj, by rw [hz v j hj]; exact h2⟩
          · exact Or.inr ⟨h1, fun v hv j hj => by rw [hz v j hj]; exact h2 v hv j hj⟩
      · have hz : ∀ w q, w ≠ L[i].2.2.1 → (hit (L.take (i + 1)) A fr w q && !sn w q) = (hit (L.take i) A fr w q && !sn w q) := by
          intro w q hw
          rw [hit_take hq]
          have : ¬ L[i].2.2.1 = w := fun e => hw e.symm
          simp [this]
        have hb1 : ∀ q, q < 32 → bt (gI τ' 31 L[i].2.2.1 ||| came) q = (sn L[i].2.2.1 q || (hit (L.take (i + 1)) A fr L[i].2.2.1 q && !sn L[i].2.2.1 q)) := by
          intro q hq32
          rw [b_or, hcb q hq32, hse _ c3 q hq32, hit_take hq]
          simp only [decide_true, Bool.true_and]
          cases nxt A (fr L[i].1) q <;> cases A.2.1 L[i].2.1 q <;> cases sn L[i].2.2.1 q <;> cases hit (L.take i) A fr L[i].2.2.1 q <;> simp
        have hb2 : ∀ q, q < 32 → bt (gI τ' 32 L[i].2.2.1 ||| came) q = (hit (L.take (i + 1)) A fr L[i].2.2.1 q && !sn L[i].2.2.1 q) := by
          intro q hq32
          rw [b_or, hcb q hq32, hfe _ c3 q hq32, hit_take hq]
          simp only [decide_true, Bool.true_and]
          cases nxt A (fr L[i].1) q <;> cases A.2.1 L[i].2.1 q <;> cases sn L[i].2.2.1 q <;> cases hit (L.take i) A fr L[i].2.2.1 q <;> simp
        refine rt_run 4 rfl ?_
        refine rt_ld L[i].2.2.1 rfl (n := 10) rfl c3 ?_
        refine rt_run 2 rfl ?_
        refine rt_st L[i].2.2.1 rfl (n := 10) rfl c3 ?_
        refine rt_run 4 rfl ?_
        refine rt_ld L[i].2.2.1 rfl (n := 10) rfl c3 ?_
        refine rt_run 2 rfl ?_
        refine rt_st L[i].2.2.1 rfl (n := 10) rfl c3 ?_
        refine rt_run 4 rfl ?_
        rw [← nI_succ]
        refine ih (i + 1) _ 1 _ _ (by omega) ((hO.sI (by simp) _ _).sI (by simp) _ _) ((hgo.ne (by decide)).ne (by decide)) ?_ ?_ ?_
        · refine BitsAt.ne ?_ (by decide)
          refine hse.up hb1 (fun v hv => ?_)
          funext q
          rw [hz v q hv]
        · refine (hfe.ne (by decide)).up hb2 (fun v hv => ?_)
          funext q
          rw [hz v q hv]
        · left
          refine ⟨rfl, L[i].2.2.1, c3, ?_⟩
          have : ∃ q, q < 32 ∧ bt came q = true := by
            by_cases hh : ∃ q, q < 32 ∧ bt came q = true
            · exact hh
            · exfalso
              refine hc (b_zero.mpr (fun q hq32 => ?_))
              cases hb : bt came q with
              | false => rfl
              | true => exact absurd ⟨q, hq32, hb⟩ hh
          obtain ⟨q, hq32, hb⟩ := this
          refine ⟨q, hq32, ?_⟩
          rw [← hb2 q hq32, b_or, hb, Bool.or_true]
  have loop1 : ∀ d v τ', v + d = 10 → Off [31, 32, 33] τ τ' → gI τ' 31 = gI τ 31 → (∀ u, u < v → ∀ i, i < 32 → bt (gI τ' 33 u) i = nxt A (fr u) i) → (∀ u, u < v → gI τ' 32 u = 0) → (∀ u, v ≤ u → gI τ' 32 u = gI τ 32 u) →
      RT mX3_spreads none 2 [some (.ref 30), some (.ref ke), some (.ref ks), some (.int (nI v)), none, none, none] [] τ' Q := by
    intro d
    induction d with
    | zero =>
      intro v τ' hv hO h31 hgo h0 hrest
      refine rt_run 2 rfl ?_
      refine rt_ge v 10 rfl (by omega) (by omega) (fun _ => ?_) (fun _ => by omega)
      refine rt_run 4 rfl ?_
      refine loop2 L.length 0 τ' 0 none none (by omega) hO (fun u hu i hi => hgo u (by omega) i hi) (fun u hu i hi => ?_) (fun u hu i hi => ?_) (Or.inr ⟨rfl, fun u hu i hi => ?_⟩)
      · rw [h31]; rw [hsn u hu i hi]; simp [hit]
      · rw [h0 u (by omega), b_0]; simp [hit]
      · simp [hit]
    | succ d ih =>
      intro v τ' hv hO h31 hgo h0 hrest
      have hE' := hE.off hO (offE hke)
      refine rt_run 2 rfl ?_
      refine rt_ge v 10 rfl (by omega) (by omega) (fun _ => by omega) (fun _ => ?_)
      refine rt_run 6 rfl ?_
      refine rt_ld v rfl (n := 10) rfl (by omega) ?_
      have hfv : gI τ' 32 v = gI τ 32 v := hrest v (Nat.le_refl _)
      have fin : ∀ x : Int32, (∀ i, i < 32 → bt x i = nxt A (fr v) i) → RT mX3_spreads none 36 [some (.ref 30), some (.ref ke), some (.ref ks), some (.int (nI v)), none, none, none] [.int x, .int (nI v), .ref 33] τ' Q := by
        intro x hx
        refine rt_st v rfl (n := 10) rfl (by omega) ?_
        refine rt_run 4 rfl ?_
        refine rt_st v rfl (n := 10) rfl (by omega) ?_
        refine rt_run 2 rfl ?_
        rw [← nI_succ]
        refine ih (v + 1) _ (by omega) ((hO.sI (by simp) _ _).sI (by simp) _ _) h31 (fun u hu i hi => ?_) (fun u hu => ?_) (fun u hu => ?_)
        · rw [gI_sI, if_neg (by decide), gI_sI, if_pos rfl]
          by_cases huv : u = v
          · subst huv; rw [pk_us]; exact hx i hi
          · rw [pk_un huv]; exact hgo u (by omega) i hi
        · rw [gI_sI, if_pos rfl]
          by_cases huv : u = v
          · subst huv; rw [pk_us]
          · rw [pk_un huv]; exact h0 u (by omega)
        · rw [gI_sI, if_pos rfl, pk_un (by omega)]
          exact hrest u (by omega)
      refine rt_if_ne rfl (fun hc => ?_) (fun hc => ?_)
      · refine rt_run 4 rfl ?_
        refine rt_ld v rfl (n := 10) rfl (by omega) ?_
        refine rt_cV (ci := 2) mX2_behind kX3_spreads_33 okX2_behind (isE_s hke) rfl rfl rfl rfl ?_
        refine behind_specA (S := fr v) hke hE' (fun i hi => by rw [hfv]; exact hfr v (by omega) i hi) (fun x hx => ?_)
        exact fin x hx
      · refine rt_run 2 rfl ?_
        refine fin 0 (fun i hi => ?_)
        rw [b_0, nxt_zero]
        intro p hp
        rw [← hfr v (by omega) p (by omega), ← hfv, hc, b_0]
  refine rt_run 2 rfl ?_
  exact loop1 10 0 τ (by omega) (Off.rf _ _) rfl (fun u hu => by omega) (fun u hu => by omega) (fun u _ => rfl)

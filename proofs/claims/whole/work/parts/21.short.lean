/-! the shortest routes, from their ends; Shortest.widens, lengthOf -/
/-- n steps lead from a place at a vertex to an end at v -/
def Bk (L : SL) (A : AE) (v : Nat) : Nat → Nat → Nat → Prop
  | 0, w, p => w = v ∧ A.2.2.1 p = true
  | n + 1, w, p => ∃ st ∈ L, st.1 = w ∧ ∃ q, A.1 p q = true ∧ A.2.1 st.2.1 q = true ∧ Bk L A v n st.2.2.1 q
theorem Bk_lt {L : SL} {A : AE} {v m w p : Nat} (hL : StOk L) (hA : AEwf A) (hv : v < 10) (h : Bk L A v m w p) : w < 10 ∧ p < 25 := by
  have hn := hA.1
  cases m with
  | zero => obtain ⟨rfl, h2⟩ := h; have := hA.2.2.2 p h2; exact ⟨hv, by omega⟩
  | succ m =>
    obtain ⟨st, hst, rfl, q, h1, -⟩ := h
    have h3 := (hL.2 st hst).1
    have h4 := (hA.2.1 p q h1).1
    exact ⟨h3, by omega⟩
theorem ahL_bt (f : Nat → Int32) (s : Int32) (m : Nat) (hm : m ≤ 32) {i : Nat} (hi : i < 32) : bt (ahL f s m) i = (decide (i < m) && decide (¬ f i &&& s = 0)) := by
  induction m with
  | zero => simp [ahL, b_0]
  | succ m ih =>
    unfold ahL
    by_cases hz : f m &&& s = 0
    · rw [if_pos hz, ih (by omega)]
      by_cases him : i = m
      · subst him; simp [hz]
      · have : (i < m + 1) ↔ i < m := by omega
        simp [this]
    · rw [if_neg hz, b_or, ih (by omega), b_bit (by omega) hi]
      by_cases him : i = m
      · subst him; simp [hz]
      · have : (i < m + 1) ↔ i < m := by omega
        simp [this, him]
/-- the places from which one comes to a set -/
def ahd (A : AE) (S : Nat → Bool) (p : Nat) : Bool := (List.range 32).any (fun q => A.1 p q && S q)
theorem andNz {x y : Int32} : decide (¬ x &&& y = 0) = (List.range 32).any (fun q => bt x q && bt y q) := by
  rw [Bool.eq_iff_iff, decide_eq_true_iff, List.any_eq_true]
  constructor
  · intro h
    by_cases hh : ∃ q, q < 32 ∧ bt (x &&& y) q = true
    · obtain ⟨q, hq, hb⟩ := hh
      rw [b_and] at hb
      exact ⟨q, List.mem_range.mpr hq, hb⟩
    · exfalso
      refine h (b_zero.mpr (fun q hq => ?_))
      cases hb : bt (x &&& y) q with
      | false => rfl
      | true => exact absurd ⟨q, hq, hb⟩ hh
  · rintro ⟨q, hq, hb⟩ h0
    have := b_zero.mp h0 q (List.mem_range.mp hq)
    rw [b_and] at this
    rw [this] at hb
    cases hb
theorem ahead_bt {τ : Ty} {k : Nat} {A : AE} {set : Int32} {S : Nat → Bool} (hE : ExIs τ k A) (hS : ∀ i, i < 32 → bt set i = S i) {i : Nat} (hi : i < 32) : bt (ahL (gI τ (k + 1)) set (A.2.2.2 + 1)) i = ahd A S i := by
  have hn := hE.2.2.2.2.1
  rw [ahL_bt _ _ _ (by omega) hi, andNz]
  by_cases hin : i < A.2.2.2 + 1
  · simp only [hin, decide_true, Bool.true_and]
    unfold ahd
    refine any_ext (Nat.le_refl _) (fun q hq => ?_) (fun q h1 h2 => by omega)
    rw [hE.2.1 i (by omega) q hq, hS q hq]
  · simp only [hin, decide_false, Bool.false_and]
    symm
    rw [Bool.eq_false_iff]
    intro hh
    obtain ⟨q, hq, hb⟩ := List.any_eq_true.mp hh
    rw [Bool.and_eq_true] at hb
    have := (hE.2.2.2.2.2.1 i q hb.1).1
    omega
def bhit (L : SL) (A : AE) (lf : Nat → Nat → Bool) (w p : Nat) : Bool := L.any (fun st => decide (st.1 = w) && ahd A (fun q => lf st.2.2.1 q && A.2.1 st.2.1 q) p)
theorem bhit_take {L : SL} {A : AE} {lf : Nat → Nat → Bool} {i : Nat} {st : Nat × Nat × Nat × Nat} (h : L[i]? = some st) (w p : Nat) : bhit (L.take (i + 1)) A lf w p = (bhit (L.take i) A lf w p || (decide (st.1 = w) && ahd A (fun q => lf st.2.2.1 q && A.2.1 st.2.1 q) p)) := by
  unfold bhit
  rw [List.take_add_one, h, List.any_append]
  simp
theorem bhit_iff {L : SL} {A : AE} {lf : Nat → Nat → Bool} {w p : Nat} : bhit L A lf w p = true ↔ ∃ st ∈ L, st.1 = w ∧ ∃ q, q < 32 ∧ A.1 p q = true ∧ lf st.2.2.1 q = true ∧ A.2.1 st.2.1 q = true := by
  unfold bhit ahd
  simp only [List.any_eq_true, Bool.and_eq_true, decide_eq_true_eq, List.mem_range]
def RowAt (τ : Ty) (n : Nat) (S : Nat → Nat → Bool) : Prop := ∀ v, v < 10 → ∀ i, i < 32 → bt (gI τ 35 (n * 10 + v)) i = S v i
theorem offE5 {k : Nat} (hk : isE k) : k ∉ [35, 36] ∧ k + 1 ∉ [35, 36] ∧ k + 2 ∉ [35, 36] := by rcases hk with rfl | rfl | rfl | rfl | rfl <;> decide
theorem offS5 {k : Nat} (hk : isS k) : k ∉ [35, 36] ∧ k + 1 ∉ [35, 36] ∧ k + 2 ∉ [35, 36] ∧ k + 3 ∉ [35, 36] ∧ k + 4 ∉ [35, 36] := by rcases hk with rfl | rfl | rfl <;> decide
theorem widens5_spec {ke ks n : Nat} {A : AE} {L : SL} {sn lf : Nat → Nat → Bool} {τ : Ty} {Q : Option Value → Ty → Prop} (hke : isE ke) (hks : isS ks) (hE : ExIs τ ke A) (hS : StIs τ ks L) (hL : StOk L) (hn : n < 250) (hsn : BitsAt τ 36 sn) (hlf : RowAt τ n lf)
    (h : ∀ τ' (r : Int32), Off [35, 36] τ τ' → (∀ j, j < (n + 1) * 10 → gI τ' 35 j = gI τ 35 j) → BitsAt τ' 36 (fun w q => sn w q || (bhit L A lf w q && !sn w q)) → RowAt τ' (n + 1) (fun w q => bhit L A lf w q && !sn w q) → ((r = 1 ∧ ∃ v, v < 10 ∧ ∃ i, i < 32 ∧ (bhit L A lf v i && !sn v i) = true) ∨ (r = 0 ∧ ∀ v, v < 10 → ∀ i, i < 32 → (bhit L A lf v i && !sn v i) = false)) → Q (some (.int r)) τ') :
    RT mX5_widens none 0 [some (.ref 34), some (.ref ke), some (.ref ks), some (.int (nI n)), none, none, none, none, none, none, none] [] τ Q := by
  obtain ⟨s0, s1, s2, s3, s4, b0, b1, b2, b3, q38⟩ := isS_f hks
  obtain ⟨f0, f1, f2, f3, f4, a0, a1, h38⟩ := isE_f hke
  have loop2 : ∀ d i τ' (r : Int32) (x8 x9 x10 : Option Value), i + d = L.length → Off [35, 36] τ τ' → (∀ j, j < (n + 1) * 10 → gI τ' 35 j = gI τ 35 j) → BitsAt τ' 36 (fun w q => sn w q || (bhit (L.take i) A lf w q && !sn w q)) → RowAt τ' (n + 1) (fun w q => bhit (L.take i) A lf w q && !sn w q) → ((r = 1 ∧ ∃ v, v < 10 ∧ ∃ j, j < 32 ∧ (bhit (L.take i) A lf v j && !sn v j) = true) ∨ (r = 0 ∧ ∀ v, v < 10 → ∀ j, j < 32 → (bhit (L.take i) A lf v j && !sn v j) = false)) →
      RT mX5_widens none 46 [some (.ref 34), some (.ref ke), some (.ref ks), some (.int (nI n)), some (.int (nI (n * 10))), some (.int (nI (n * 10 + 10))), some (.int r), some (.int (nI i)), x8, x9, x10] [] τ' Q := by
    intro d
    induction d with
    | zero =>
      intro i τ' r x8 x9 x10 hi hO hlo hse hro hr
      have hS' := hS.off hO (offS5 hks)
      have hl := hL.1
      refine rt_run 2 rfl ?_
      refine rt_getI rfl s4 ?_
      refine rt_ge i L.length rfl (by omega) (by omega) (fun _ => ?_) (fun _ => by omega) rfl hS'.1
      refine rt_run 1 rfl ?_
      rw [List.take_of_length_le (by omega)] at hse hro hr
      exact rt_zret rfl rfl (by rcases hr with hr | hr; exact Or.inr hr.1; exact Or.inl hr.1) (h τ' r hO hlo hse hro hr)
    | succ d ih =>
      intro i τ' r x8 x9 x10 hi hO hlo hse hro hr
      have hS' := hS.off hO (offS5 hks)
      have hE' := hE.off hO (offE5 hke)
      have hl := hL.1
      refine rt_run 2 rfl ?_
      refine rt_getI rfl s4 ?_
      refine rt_ge i L.length rfl (by omega) (by omega) (fun _ => by omega) (fun hlt => ?_) rfl hS'.1
      have hq : L[i]? = some L[i] := List.getElem?_eq_getElem hlt
      obtain ⟨g1, g2, g3, g4⟩ := hS'.2 i _ hq
      obtain ⟨c1, c2, c3⟩ := hL.2 _ (List.getElem_mem hlt)
      refine rt_run 4 rfl ?_
      refine rt_getQ rfl s2 q38 ?_
      refine rt_run 1 rfl ?_
      refine rt_ld i rfl b2 (by omega) ?_
      rw [g3]
      refine rt_run 1 rfl ?_
      refine rt_ld (n * 10 + L[i].2.2.1) rfl (n := 2510) rfl (by omega) ?_ (by rw [nI_add])
      refine rt_run 1 rfl ?_
      refine rt_getQ rfl f1 h38 ?_
      refine rt_run 1 rfl ?_
      refine rt_getQ rfl s1 q38 ?_
      refine rt_run 1 rfl ?_
      refine rt_ld i rfl b1 (by omega) ?_
      refine rt_ld L[i].2.1 rfl a1 c2 ?_ g2
      refine rt_run 3 rfl ?_
      refine rt_getQ rfl s0 q38 ?_
      refine rt_run 1 rfl ?_
      refine rt_ld i rfl b0 (by omega) ?_
      rw [g1]
      refine rt_run 2 rfl ?_
      generalize hinto : gI τ' 35 (n * 10 + L[i].2.2.1) &&& gI τ' (ke + 2) L[i].2.1 = into
      have hib : ∀ q, q < 32 → bt into q = (lf L[i].2.2.1 q && A.2.1 L[i].2.1 q) := by
        intro q hq32
        rw [← hinto, b_and, hlo _ (by omega), hlf _ c3 q hq32, hE'.2.2.1 _ c2 q hq32]
      have rest : ∀ came : Int32, (∀ q, q < 32 → bt came q = (ahd A (fun q => lf L[i].2.2.1 q && A.2.1 L[i].2.1 q) q && !(sn L[i].1 q || (bhit (L.take i) A lf L[i].1 q && !sn L[i].1 q)))) →
          RT mX5_widens none 119 [some (.ref 34), some (.ref ke), some (.ref ks), some (.int (nI n)), some (.int (nI (n * 10))), some (.int (nI (n * 10 + 10))), some (.int r), some (.int (nI i)), some (.int into), some (.int (nI L[i].1)), x10] [.int came] τ' Q := by
        intro came hcb
        refine rt_run 2 rfl ?_
        refine rt_if_eq rfl (fun hc => ?_) (fun hc => ?_)
        · have hz : ∀ w q, q < 32 → (bhit (L.take (i + 1)) A lf w q && !sn w q) = (bhit (L.take i) A lf w q && !sn w q) := by
            intro w q hq32
            rw [bhit_take hq]
            by_cases hw : L[i].1 = w
            · have := hcb q hq32
              rw [hc, b_0, hw] at this
              simp only [hw, decide_true, Bool.true_and]
              revert this
              cases ahd A (fun q => lf L[i].2.2.1 q && A.2.1 L[i].2.1 q) q <;> cases sn w q <;> cases bhit (L.take i) A lf w q <;> simp
            · simp [hw]
          refine rt_run 2 rfl ?_
          rw [← nI_succ]
          refine ih (i + 1) τ' r _ _ _ (by omega) hO hlo (fun v hv q hq32 => ?_) (fun v hv q hq32 => ?_) ?_
          · dsimp only; rw [hz v q hq32]; exact hse v hv q hq32
          · dsimp only; rw [hz v q hq32]; exact hro v hv q hq32
          · rcases hr with ⟨h1, v, hv, j, hj, h2⟩ | ⟨h1, h2⟩
            · exact Or.inl ⟨h1, v, hv, j, hj, by rw [hz v j hj]; exact h2⟩
            · exact Or.inr ⟨h1, fun v hv j hj => by rw [hz v j hj]; exact h2 v hv j hj⟩
        · have hz : ∀ w q, w ≠ L[i].1 → (bhit (L.take (i + 1)) A lf w q && !sn w q) = (bhit (L.take i) A lf w q && !sn w q) := by
            intro w q hw
            rw [bhit_take hq]
            have : ¬ L[i].1 = w := fun e => hw e.symm
            simp [this]
          have hb1 : ∀ q, q < 32 → bt (gI τ' 36 L[i].1 ||| came) q = (sn L[i].1 q || (bhit (L.take (i + 1)) A lf L[i].1 q && !sn L[i].1 q)) := by
            intro q hq32
            rw [b_or, hcb q hq32, hse _ c1 q hq32, bhit_take hq]
            simp only [decide_true, Bool.true_and]
            cases ahd A (fun q => lf L[i].2.2.1 q && A.2.1 L[i].2.1 q) q <;> cases sn L[i].1 q <;> cases bhit (L.take i) A lf L[i].1 q <;> simp
          have hb2 : ∀ q, q < 32 → bt (gI τ' 35 ((n + 1) * 10 + L[i].1) ||| came) q = (bhit (L.take (i + 1)) A lf L[i].1 q && !sn L[i].1 q) := by
            intro q hq32
            rw [b_or, hcb q hq32, hro _ c1 q hq32, bhit_take hq]
            simp only [decide_true, Bool.true_and]
            cases ahd A (fun q => lf L[i].2.2.1 q && A.2.1 L[i].2.1 q) q <;> cases sn L[i].1 q <;> cases bhit (L.take i) A lf L[i].1 q <;> simp
          have hix : nI (n * 10 + 10) + nI L[i].1 = nI ((n + 1) * 10 + L[i].1) := by rw [nI_add]; congr 1; omega
          refine rt_run 4 rfl ?_
          refine rt_ld L[i].1 rfl (n := 10) rfl c1 ?_
          refine rt_run 2 rfl ?_
          refine rt_st L[i].1 rfl (n := 10) rfl c1 ?_
          refine rt_run 6 rfl ?_
          refine rt_ld ((n + 1) * 10 + L[i].1) rfl (n := 2510) rfl (by omega) ?_ hix
          refine rt_run 2 rfl ?_
          refine rt_st ((n + 1) * 10 + L[i].1) rfl (n := 2510) rfl (by omega) ?_ hix
          refine rt_run 4 rfl ?_
          rw [← nI_succ]
          refine ih (i + 1) _ 1 _ _ _ (by omega) ((hO.sI (by simp) _ _).sI (by simp) _ _) (fun j hj => ?_) ?_ ?_ ?_
          · rw [gI_sI, if_pos rfl, pk_un (by omega)]
            exact hlo j hj
          · refine BitsAt.ne ?_ (by decide)
            refine hse.up hb1 (fun v hv => ?_)
            funext q
            rw [hz v q hv]
          · intro v hv q hq32
            rw [gI_sI, if_pos rfl]
            by_cases hvj : v = L[i].1
            · subst hvj; rw [pk_us]; exact hb2 q hq32
            · rw [pk_un (by omega)]
              dsimp only
              rw [hz v q hvj]
              exact hro v hv q hq32
          · left
            refine ⟨rfl, L[i].1, c1, ?_⟩
            have : ∃ q, q < 32 ∧ bt came q = true := by
              by_cases hh : ∃ q, q < 32 ∧ bt came q = true
              · exact hh
              · exfalso
                refine hc (b_zero.mpr (fun q hq32 => ?_))
                cases hb : bt came q with
                | false => rfl
                | true => exact absurd ⟨q, hq32, hb⟩ hh
            obtain ⟨q, hq32, hb⟩ := this
            refine ⟨q, hq32, ?_⟩
            rw [← hb2 q hq32, b_or, hb, Bool.or_true]
      refine rt_if_ne rfl (fun hc => ?_) (fun hc => ?_)
      · refine rt_run 2 rfl ?_
        refine rt_cV (ci := 2) mX2_aheadOf kX5_widens_106 okX2_aheadOf (isE_s hke) rfl rfl rfl rfl ?_
        refine aheadOf_spec hke hE'.1 hE'.2.2.2.2.1 ?_
        refine rt_run 3 rfl ?_
        refine rt_ld L[i].1 rfl (n := 10) rfl c1 ?_
        refine rt_run 3 rfl ?_
        refine rest _ (fun q hq32 => ?_)
        rw [b_and, b_not hq32, ahead_bt hE' hib hq32, hse _ c1 q hq32]
      · refine rt_run 2 rfl ?_
        refine rest 0 (fun q hq32 => ?_)
        rw [b_0]
        have : ahd A (fun q => lf L[i].2.2.1 q && A.2.1 L[i].2.1 q) q = false := by
          rw [Bool.eq_false_iff]
          intro hh
          obtain ⟨x, hx, hb⟩ := List.any_eq_true.mp hh
          dsimp only at hb
          rw [← hib x (List.mem_range.mp hx), hc, b_0] at hb
          simp at hb
        rw [this]; rfl
  have loop1 : ∀ d v τ', v + d = 10 → Off [35, 36] τ τ' → (∀ j, j < (n + 1) * 10 → gI τ' 35 j = gI τ 35 j) → gI τ' 36 = gI τ 36 → (∀ u, u < v → gI τ' 35 ((n + 1) * 10 + u) = 0) →
      RT mX5_widens none 16 [some (.ref 34), some (.ref ke), some (.ref ks), some (.int (nI n)), some (.int (nI (n * 10))), some (.int (nI (n * 10 + 10))), some (.int (nI v)), none, none, none, none] [] τ' Q := by
    intro d
    induction d with
    | zero =>
      intro v τ' hv hO hlo h36 h0
      refine rt_run 2 rfl ?_
      refine rt_ge v 10 rfl (by omega) (by omega) (fun _ => ?_) (fun _ => by omega)
      refine rt_run 4 rfl ?_
      refine loop2 L.length 0 τ' 0 none none none (by omega) hO hlo (fun u hu i hi => ?_) (fun u hu i hi => ?_) (Or.inr ⟨rfl, fun u hu i hi => ?_⟩)
      · rw [h36]; rw [hsn u hu i hi]; simp [bhit]
      · rw [h0 u (by omega), b_0]; simp [bhit]
      · simp [bhit]
    | succ d ih =>
      intro v τ' hv hO hlo h36 h0
      refine rt_run 2 rfl ?_
      refine rt_ge v 10 rfl (by omega) (by omega) (fun _ => by omega) (fun _ => ?_)
      refine rt_run 6 rfl ?_
      refine rt_st ((n + 1) * 10 + v) rfl (n := 2510) rfl (by omega) ?_ (by rw [nI_add]; congr 1; omega)
      refine rt_run 2 rfl ?_
      rw [← nI_succ]
      refine ih (v + 1) _ (by omega) (hO.sI (by simp) _ _) (fun j hj => ?_) h36 (fun u hu => ?_)
      · rw [gI_sI, if_pos rfl, pk_un (by omega)]
        exact hlo j hj
      · rw [gI_sI, if_pos rfl]
        by_cases huv : u = v
        · subst huv; rw [pk_us]
        · rw [pk_un (by omega)]; exact h0 u (by omega)
  refine rt_run 10 rfl ?_
  have := loop1 10 0 τ (by omega) (Off.rf _ _) (fun _ _ => rfl) rfl (fun u hu => by omega)
  have e1 : nI n * 10 = nI (n * 10) := by rw [← pk_mul]; rfl
  have e2 : nI (n * 10) + 10 = nI (n * 10 + 10) := by rw [← nI_add]; rfl
  rw [e1, e2]
  exact this

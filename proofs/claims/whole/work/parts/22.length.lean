/-! levels from the end; Shortest.lengthOf -/
def Lev (L : SL) (A : AE) (v n w p : Nat) : Prop := Bk L A v n w p ∧ ∀ m, m < n → ¬ Bk L A v m w p
noncomputable def levB (L : SL) (A : AE) (v n w p : Nat) : Bool := @decide (Lev L A v n w p) (Classical.propDecidable _)
noncomputable def seeB (L : SL) (A : AE) (v n w p : Nat) : Bool := @decide (∃ m, m ≤ n ∧ Bk L A v m w p) (Classical.propDecidable _)
theorem levB_iff {L : SL} {A : AE} {v n w p : Nat} : levB L A v n w p = true ↔ Lev L A v n w p := @decide_eq_true_iff _ (Classical.propDecidable _)
theorem seeB_iff {L : SL} {A : AE} {v n w p : Nat} : seeB L A v n w p = true ↔ ∃ m, m ≤ n ∧ Bk L A v m w p := @decide_eq_true_iff _ (Classical.propDecidable _)
theorem lev_next {L : SL} {A : AE} {v n : Nat} (hA : AEwf A) (w p : Nat) : (bhit L A (levB L A v n) w p && !seeB L A v n w p) = levB L A v (n + 1) w p := by
  rw [Bool.eq_iff_iff, Bool.and_eq_true, levB_iff, bhit_iff]
  constructor
  · rintro ⟨⟨st, h1, h2, q, hq, h3, h4, h5⟩, h6⟩
    refine ⟨⟨st, h1, h2, q, h3, h5, (levB_iff.mp h4).1⟩, fun m hm hb => ?_⟩
    have : seeB L A v n w p = true := seeB_iff.mpr ⟨m, by omega, hb⟩
    rw [this] at h6
    cases h6
  · rintro ⟨⟨st, h1, h2, q, h3, h5, h4⟩, h6⟩
    refine ⟨⟨st, h1, h2, q, ?_, h3, levB_iff.mpr ⟨h4, fun m hm hb => ?_⟩, h5⟩, ?_⟩
    · have h7 := (hA.2.2.1 _ _ h5).2
      have h8 := hA.1
      omega
    · exact h6 (m + 1) (by omega) ⟨st, h1, h2, q, h3, h5, hb⟩
    · cases hs : seeB L A v n w p with
      | false => rfl
      | true =>
        obtain ⟨m, hm, hb⟩ := seeB_iff.mp hs
        exact absurd hb (h6 m (by omega))
theorem see_next {L : SL} {A : AE} {v n : Nat} (w p : Nat) : (seeB L A v n w p || levB L A v (n + 1) w p) = seeB L A v (n + 1) w p := by
  rw [Bool.eq_iff_iff, Bool.or_eq_true, seeB_iff, seeB_iff, levB_iff]
  constructor
  · rintro (⟨m, hm, hb⟩ | h)
    · exact ⟨m, by omega, hb⟩
    · exact ⟨n + 1, Nat.le_refl _, h.1⟩
  · rintro ⟨m, hm, hb⟩
    by_cases hh : ∃ m', m' ≤ n ∧ Bk L A v m' w p
    · exact Or.inl hh
    · have e : m = n + 1 := by
        by_cases hmn : m ≤ n
        · exact absurd ⟨m, hmn, hb⟩ hh
        · omega
      subst e
      exact Or.inr ⟨hb, fun m' hm' hb' => hh ⟨m', by omega, hb'⟩⟩
theorem Bk_closed {L : SL} {A : AE} {v n : Nat} (h : ∀ w p, ¬ Lev L A v (n + 1) w p) (m w p : Nat) (hb : Bk L A v m w p) : ∃ m', m' ≤ n ∧ Bk L A v m' w p := by
  induction m generalizing w p with
  | zero => exact ⟨0, Nat.zero_le _, hb⟩
  | succ m ih =>
    obtain ⟨st, h1, h2, q, h3, h5, h4⟩ := hb
    obtain ⟨m', hm', hb'⟩ := ih _ _ h4
    have hb2 : Bk L A v (m' + 1) w p := ⟨st, h1, h2, q, h3, h5, hb'⟩
    by_cases hmn : m' + 1 ≤ n
    · exact ⟨m' + 1, hmn, hb2⟩
    · by_cases hh : ∃ m'', m'' ≤ n ∧ Bk L A v m'' w p
      · exact hh
      · exfalso
        have e : m' + 1 = n + 1 := by omega
        rw [e] at hb2
        exact h w p ⟨hb2, fun m'' hm'' hb'' => hh ⟨m'', by omega, hb''⟩⟩
theorem BitsAt.ext {τ : Ty} {k : Nat} {S S' : Nat → Nat → Bool} (h : BitsAt τ k S) (he : ∀ w q, S w q = S' w q) : BitsAt τ k S' := fun v hv i hi => by rw [← he]; exact h v hv i hi
theorem RowAt.ext {τ : Ty} {n : Nat} {S S' : Nat → Nat → Bool} (h : RowAt τ n S) (he : ∀ w q, S w q = S' w q) : RowAt τ n S' := fun v hv i hi => by rw [← he]; exact h v hv i hi
theorem lengthOf_spec {ke ks u v : Nat} {A : AE} {L : SL} {τ : Ty} {Q : Option Value → Ty → Prop} (hke : isE ke) (hks : isS ks) (hE : ExIs τ ke A) (hS : StIs τ ks L) (hL : StOk L) (hu : u < 10) (hv : v < 10)
    (h1 : ∀ τ' n, Off [35, 36] τ τ' → n < 250 → Lev L A v n u 0 → (∀ j, j ≤ n → RowAt τ' j (levB L A v j)) → Q (some (.int (nI n))) τ') (h2 : ∀ τ', Off [35, 36] τ τ' → (∀ m, ¬ Bk L A v m u 0) → Q (some (.int (-1))) τ') :
    RT mX5_lengthOf none 0 [some (.ref 34), some (.ref ke), some (.ref ks), some (.int (nI u)), some (.int (nI v)), none] [] τ Q := by
  obtain ⟨f0, f1, f2, f3, f4, a0, a1, h38⟩ := isE_f hke
  have hA := hE.2.2.2.2
  have loop : ∀ d n τ', n + d = 250 → Off [35, 36] τ τ' → BitsAt τ' 36 (seeB L A v n) → (∀ j, j ≤ n → RowAt τ' j (levB L A v j)) → (n = 0 ∨ n + 1 ≤ cntS (seeB L A v n)) → (∀ m, m < n → ¬ Bk L A v m u 0) →
      RT mX5_lengthOf none 57 [some (.ref 34), some (.ref ke), some (.ref ks), some (.int (nI u)), some (.int (nI v)), some (.int (nI n))] [] τ' Q := by
    intro d
    induction d with
    | zero =>
      intro n τ' hn _ _ _ hc _
      have := cntS_le (seeB L A v n)
      omega
    | succ d ih =>
      intro n τ' hn hO hse hro hc hmin
      have hE' := hE.off hO (offE5 hke)
      have hS' := hS.off hO (offS5 hks)
      refine rt_run 2 rfl ?_
      refine rt_ge n 250 rfl (by omega) (by omega) (fun _ => by omega) (fun _ => ?_)
      refine rt_run 3 rfl ?_
      refine rt_ld u rfl (n := 10) rfl hu ?_
      refine rt_run 2 rfl ?_
      refine rt_if_eq rfl (fun hz => ?_) (fun hz => ?_)
      · have hz0 : seeB L A v n u 0 = false := by
          rw [← hse u hu 0 (by decide)]
          exact b_and1.mp hz
        have hn0 : ∀ m, m ≤ n → ¬ Bk L A v m u 0 := by
          intro m hm hb
          have : seeB L A v n u 0 = true := seeB_iff.mpr ⟨m, hm, hb⟩
          rw [this] at hz0
          cases hz0
        refine rt_run 4 rfl ?_
        refine rt_cV (ci := 5) mX5_widens kX5_lengthOf_84 okX5_widens rfl rfl rfl rfl rfl ?_
        refine widens5_spec hke hks hE' hS' hL (by omega) hse (hro n (Nat.le_refl _)) (fun τ'' r hO2 hlo hs2 hr2 hr => ?_)
        have hs3 : BitsAt τ'' 36 (seeB L A v (n + 1)) := hs2.ext (fun w q => by rw [lev_next hA, see_next])
        have hr3 : RowAt τ'' (n + 1) (levB L A v (n + 1)) := hr2.ext (fun w q => lev_next hA w q)
        rcases hr with ⟨rfl, w, hw, i, hi, hb⟩ | ⟨rfl, hzz⟩
        · refine rt_if_ne rfl (fun _ => ?_) (fun hc => absurd hc (by decide))
          refine rt_run 2 rfl ?_
          rw [← nI_succ]
          have hlev : Lev L A v (n + 1) w i := levB_iff.mp (by rw [← lev_next hA]; exact hb)
          refine ih (n + 1) τ'' (by omega) (hO.tr hO2) hs3 (fun j hj => ?_) (Or.inr ?_) (fun m hm => hn0 m (by omega))
          · by_cases hjn : j = n + 1
            · subst hjn; exact hr3
            · intro x hx q hq
              rw [hlo _ (by omega)]
              exact hro j (by omega) x hx q hq
          · have hi25 := (Bk_lt hL hA hv hlev.1).2
            have hlt : cntS (seeB L A v n) < cntS (seeB L A v (n + 1)) := by
              refine countP_lt (fun x _ hx => by rw [← see_next, hx, Bool.true_or]) (prs_mem hw hi25) ?_ ?_
              · dsimp only
                rw [Bool.eq_false_iff]
                intro hh
                obtain ⟨m, hm, hbk⟩ := seeB_iff.mp hh
                exact hlev.2 m (by omega) hbk
              · exact seeB_iff.mpr ⟨n + 1, Nat.le_refl _, hlev.1⟩
            rcases hc with rfl | hc
            · have : 0 < cntS (seeB L A v 0) := by
                obtain ⟨st, a1, -, q, -, a3, a4⟩ := hlev.1
                have hl4 := Bk_lt hL hA hv a4
                exact List.countP_pos_iff.mpr ⟨(st.2.2.1, q), prs_mem hl4.1 hl4.2, seeB_iff.mpr ⟨0, Nat.le_refl _, a4⟩⟩
              omega
            · omega
        · refine rt_if_ne rfl (fun hc => absurd rfl hc) (fun _ => ?_)
          refine rt_run 1 rfl ?_
          refine rt_iret rfl rfl (h2 τ'' (hO.tr hO2) (fun m hb => ?_))
          obtain ⟨m', hm', hb'⟩ := Bk_closed (n := n) (fun w p hl => by
            have hl4 := Bk_lt hL hA hv hl.1
            have := hzz w hl4.1 p (by omega)
            rw [lev_next hA, levB_iff.mpr hl] at this
            cases this) m u 0 hb
          exact hn0 m' hm' hb'
      · refine rt_run 1 rfl ?_
        have hz0 : seeB L A v n u 0 = true := by
          rw [← hse u hu 0 (by decide)]
          cases hb : bt (gI τ' 36 u) 0 with
          | true => rfl
          | false => exact absurd (b_and1.mpr hb) hz
        obtain ⟨m, hm, hb⟩ := seeB_iff.mp hz0
        have e : m = n := by
          by_cases hmn : m < n
          · exact absurd hb (hmin m hmn)
          · omega
        subst e
        exact rt_iret rfl rfl (h1 τ' m hO (by omega) ⟨hb, hmin⟩ hro)
  have loop0 : ∀ d i τ', i + d = 10 → Off [35, 36] τ τ' → (∀ j, j < 10 → gI τ' 36 j = 0) → (∀ j, j < i → gI τ' 35 j = 0) → RT mX5_lengthOf none 11 [some (.ref 34), some (.ref ke), some (.ref ks), some (.int (nI u)), some (.int (nI v)), some (.int (nI i))] [] τ' Q := by
    intro d
    induction d with
    | zero =>
      intro i τ' hi hO h36 h35
      refine rt_run 2 rfl ?_
      refine rt_ge i 10 rfl (by omega) (by omega) (fun _ => ?_) (fun _ => by omega)
      have hE' := hE.off hO (offE5 hke)
      refine rt_run 4 rfl ?_
      refine rt_getI rfl f2 ?_
      refine rt_st v rfl (n := 10) rfl hv ?_
      refine rt_run 4 rfl ?_
      refine rt_getI rfl f2 ?_
      refine rt_st v rfl (n := 2510) rfl (by omega) ?_
      refine rt_run 2 rfl ?_
      have hla : ∀ w p, (A.2.2.1 p && decide (w = v)) = levB L A v 0 w p := by
        intro w p
        rw [Bool.eq_iff_iff, Bool.and_eq_true, decide_eq_true_eq, levB_iff]
        exact ⟨fun hh => ⟨⟨hh.2, hh.1⟩, fun m hm => by omega⟩, fun hh => ⟨hh.1.2, hh.1.1⟩⟩
      have hla2 : ∀ w p, (A.2.2.1 p && decide (w = v)) = seeB L A v 0 w p := by
        intro w p
        rw [Bool.eq_iff_iff, Bool.and_eq_true, decide_eq_true_eq, seeB_iff]
        refine ⟨fun hh => ⟨0, Nat.le_refl _, hh.2, hh.1⟩, fun hh => ?_⟩
        obtain ⟨m, hm, hb⟩ := hh
        have : m = 0 := by omega
        subst this
        exact ⟨hb.2, hb.1⟩
      refine loop 250 0 _ (by omega) ((hO.sI (by simp) _ _).sI (by simp) _ _) ?_ ?_ (Or.inl rfl) (fun m hm => by omega)
      · refine BitsAt.ext (S := fun w p => A.2.2.1 p && decide (w = v)) (fun w hw q hq => ?_) hla2
        show bt (upd (gI τ' 36) v (gF τ' ke 2) w) q = _
        by_cases hwv : w = v
        · subst hwv; rw [pk_us, hE'.2.2.2.1 q hq]; simp
        · rw [pk_un hwv, h36 w hw, b_0]; simp [hwv]
      · intro j hj
        have : j = 0 := by omega
        subst this
        refine RowAt.ext (S := fun w p => A.2.2.1 p && decide (w = v)) (fun w hw q hq => ?_) hla
        show bt (upd (gI τ' 35) v (gF τ' ke 2) (0 * 10 + w)) q = _
        rw [Nat.zero_mul, Nat.zero_add]
        by_cases hwv : w = v
        · subst hwv; rw [pk_us, hE'.2.2.2.1 q hq]; simp
        · rw [pk_un hwv, h35 w (by omega), b_0]; simp [hwv]
    | succ d ih =>
      intro i τ' hi hO h36 h35
      refine rt_run 2 rfl ?_
      refine rt_ge i 10 rfl (by omega) (by omega) (fun _ => by omega) (fun _ => ?_)
      refine rt_run 4 rfl ?_
      refine rt_st i rfl (n := 2510) rfl (by omega) ?_
      refine rt_run 2 rfl ?_
      rw [← nI_succ]
      refine ih (i + 1) _ (by omega) (hO.sI (by simp) _ _) h36 (fun j hj => ?_)
      rw [gI_sI, if_pos rfl]
      by_cases hji : j = i
      · subst hji; rw [pk_us]
      · rw [pk_un hji]; exact h35 j (by omega)
  refine rt_run 3 rfl ?_
  refine rt_cS mJ7_fill_53178 kX5_lengthOf_5 okJ7_fill_53178 rfl rfl ?_
  refine fill_spec (n := 10) rfl (fun f hf => ?_)
  refine rt_run 2 rfl ?_
  exact loop0 10 0 _ (by omega) ((Off.rf _ _).sA (by simp) _) hf (fun j hj => by omega)

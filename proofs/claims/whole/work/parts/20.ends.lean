/-! what can be reached; Reach.endsFrom -/
/-- a route of n steps leads from the beginning at u to a place at a vertex -/
def Rch (L : SL) (A : AE) (u : Nat) : Nat → Nat → Nat → Prop
  | 0, w, q => w = u ∧ q = 0
  | n + 1, w, q => ∃ st ∈ L, st.2.2.1 = w ∧ (∃ p, Rch L A u n st.1 p ∧ A.1 p q = true) ∧ A.2.1 st.2.1 q = true
def Ans (L : SL) (A : AE) (u v : Nat) : Prop := ∃ m q, Rch L A u m v q ∧ A.2.2.1 q = true
noncomputable def ansB (L : SL) (A : AE) (u v : Nat) : Bool := @decide (Ans L A u v) (Classical.propDecidable _)
theorem ansB_iff {L : SL} {A : AE} {u v : Nat} : ansB L A u v = true ↔ Ans L A u v := by
  unfold ansB
  exact @decide_eq_true_iff _ (Classical.propDecidable _)
/-- bits of the vertices that hold -/
def vb (P : Nat → Bool) : Nat → Int32
  | 0 => 0
  | v + 1 => if P v = true then vb P v ||| (1 <<< (nI v &&& 31)) else vb P v
theorem vb_bt (P : Nat → Bool) (n : Nat) (hn : n ≤ 32) {i : Nat} (hi : i < 32) : bt (vb P n) i = (decide (i < n) && P i) := by
  induction n with
  | zero => simp [vb, b_0]
  | succ n ih =>
    unfold vb
    by_cases hP : P n = true
    · rw [if_pos hP, b_or, ih (by omega), b_bit (by omega) hi]
      by_cases hin : i = n
      · subst hin; simp [hP]
      · have : (i < n + 1) ↔ i < n := by omega
        simp [hin, this]
    · rw [if_neg hP, ih (by omega)]
      by_cases hin : i = n
      · subst hin
        have : P i = false := by cases h : P i; rfl; exact absurd h hP
        simp [this]
      · have : (i < n + 1) ↔ i < n := by omega
        simp [this]
theorem vb_ext {P P' : Nat → Bool} {n : Nat} (h : ∀ v, v < n → P v = P' v) : vb P n = vb P' n := by
  induction n with
  | zero => rfl
  | succ n ih =>
    unfold vb
    rw [h n (by omega), ih (fun v hv => h v (by omega))]
theorem Rch_lt {L : SL} {A : AE} {u m w q : Nat} (hL : StOk L) (hA : AEwf A) (hu : u < 10) (h : Rch L A u m w q) : w < 10 ∧ q < 25 := by
  cases m with
  | zero => obtain ⟨rfl, rfl⟩ := h; exact ⟨hu, by omega⟩
  | succ m =>
    obtain ⟨st, hst, rfl, -, hb⟩ := h
    have h1 := (hL.2 st hst).2.2
    have h2 := (hA.2.2.1 _ _ hb).2
    have := hA.1
    exact ⟨h1, by omega⟩
theorem hit_iff {L : SL} {A : AE} {fr : Nat → Nat → Bool} {w q : Nat} : hit L A fr w q = true ↔ ∃ st ∈ L, st.2.2.1 = w ∧ (∃ p, p < 25 ∧ fr st.1 p = true ∧ A.1 p q = true) ∧ A.2.1 st.2.1 q = true := by
  unfold hit nxt
  simp only [List.any_eq_true, Bool.and_eq_true, decide_eq_true_eq, List.mem_range]
  constructor
  · rintro ⟨st, h1, ⟨h2, p, hp, h3, h4⟩, h5⟩
    exact ⟨st, h1, h2, ⟨p, hp, h3, h4⟩, h5⟩
  · rintro ⟨st, h1, h2, ⟨p, hp, h3, h4⟩, h5⟩
    exact ⟨st, h1, ⟨h2, p, hp, h3, h4⟩, h5⟩
/-- what a search knows between two rounds -/
def SInv (L : SL) (A : AE) (u : Nat) (sn fr : Nat → Nat → Bool) : Prop :=
  (∀ w q, sn w q = true → ∃ m, Rch L A u m w q) ∧ (∀ w q, fr w q = true → sn w q = true) ∧ sn u 0 = true ∧ ∀ v p, sn v p = true → fr v p = false → ∀ st ∈ L, st.1 = v → ∀ q, A.1 p q = true → A.2.1 st.2.1 q = true → sn st.2.2.1 q = true
theorem SInv.next {L : SL} {A : AE} {u : Nat} {sn fr : Nat → Nat → Bool} (hL : StOk L) (hA : AEwf A) (hu : u < 10) (h : SInv L A u sn fr) : SInv L A u (fun w q => sn w q || (hit L A fr w q && !sn w q)) (fun w q => hit L A fr w q && !sn w q) := by
  obtain ⟨h1, h2, h3, h4⟩ := h
  have hh : ∀ w q, hit L A fr w q = true → ∃ m, Rch L A u m w q := by
    intro w q hw
    obtain ⟨st, a1, a2, ⟨p, a3, a4, a5⟩, a6⟩ := hit_iff.mp hw
    obtain ⟨m, hm⟩ := h1 _ _ (h2 _ _ a4)
    exact ⟨m + 1, st, a1, a2, ⟨p, hm, a5⟩, a6⟩
  refine ⟨fun w q hw => ?_, fun w q hw => ?_, ?_, fun v p hv hf st hst e1 q e2 e3 => ?_⟩
  · simp only [Bool.or_eq_true, Bool.and_eq_true] at hw
    rcases hw with hw | hw
    · exact h1 w q hw
    · exact hh w q hw.1
  · simp only [Bool.or_eq_true]
    exact Or.inr hw
  · simp [h3]
  · have hsv : sn v p = true := by
      cases hs : sn v p with
      | true => rfl
      | false =>
        simp only [hs, Bool.false_or] at hv
        simp only [hs] at hf
        rw [hv] at hf
        cases hf
    cases hfv : fr v p with
    | false =>
      have := h4 v p hsv hfv st hst e1 q e2 e3
      simp [this]
    | true =>
      have hp : p < 25 := by
        obtain ⟨m, hm⟩ := h1 v p hsv
        exact (Rch_lt hL hA hu hm).2
      have : hit L A fr st.2.2.1 q = true := hit_iff.mpr ⟨st, hst, rfl, ⟨p, hp, by rw [e1]; exact hfv, e2⟩, e3⟩
      simp only [this, Bool.true_and]
      cases sn st.2.2.1 q <;> rfl
theorem SInv.all {L : SL} {A : AE} {u : Nat} {sn fr : Nat → Nat → Bool} (h : SInv L A u sn fr) (hz : ∀ w q, fr w q = false) (w q : Nat) : sn w q = true ↔ ∃ m, Rch L A u m w q := by
  refine ⟨h.1 w q, ?_⟩
  rintro ⟨m, hm⟩
  induction m generalizing w q with
  | zero => obtain ⟨rfl, rfl⟩ := hm; exact h.2.2.1
  | succ m ih =>
    obtain ⟨st, hst, rfl, ⟨p, hp, e2⟩, e3⟩ := hm
    exact h.2.2.2 st.1 p (ih _ _ hp) (hz _ _) st hst rfl q e2 e3
def prs : List (Nat × Nat) := (List.range 10).flatMap (fun w => (List.range 25).map (fun q => (w, q)))
theorem prs_len : prs.length = 250 := by decide +kernel
theorem prs_mem {w q : Nat} (hw : w < 10) (hq : q < 25) : (w, q) ∈ prs := by
  unfold prs
  rw [List.mem_flatMap]
  exact ⟨w, List.mem_range.mpr hw, List.mem_map.mpr ⟨q, List.mem_range.mpr hq, rfl⟩⟩
def cntS (sn : Nat → Nat → Bool) : Nat := prs.countP (fun x => sn x.1 x.2)
theorem cntS_le (sn : Nat → Nat → Bool) : cntS sn ≤ 250 := by
  rw [← prs_len]
  exact List.countP_le_length
theorem countP_lt {α : Type} {f g : α → Bool} {l : List α} (h : ∀ x ∈ l, f x = true → g x = true) {x : α} (hx : x ∈ l) (h1 : f x = false) (h2 : g x = true) : l.countP f < l.countP g := by
  induction l with
  | nil => cases hx
  | cons a l ih =>
    rw [List.countP_cons, List.countP_cons]
    have hle : l.countP f ≤ l.countP g := List.countP_mono_left (fun y hy => h y (List.mem_cons_of_mem _ hy))
    rcases List.mem_cons.mp hx with rfl | hx
    · rw [h1, h2]; simp; omega
    · have := ih (fun y hy => h y (List.mem_cons_of_mem _ hy)) hx
      have ha := h a List.mem_cons_self
      cases hf : f a with
      | false => simp; omega
      | true => rw [ha hf]; simp; omega
theorem endsFrom_spec {ke ks u : Nat} {A : AE} {L : SL} {τ : Ty} {Q : Option Value → Ty → Prop} (hke : isE ke) (hks : isS ks) (hE : ExIs τ ke A) (hS : StIs τ ks L) (hL : StOk L) (hu : u < 10)
    (h : ∀ τ', Off [31, 32, 33] τ τ' → Q (some (.int (vb (ansB L A u) 10))) τ') : RT mX3_endsFrom none 0 [some (.ref 30), some (.ref ke), some (.ref ks), some (.int (nI u)), none, none, none] [] τ Q := by
  have hA := hE.2.2.2.2
  have fin : ∀ τ' (sn : Nat → Nat → Bool) (x4 : Int32) (x5 : Int32), Off [31, 32, 33] τ τ' → BitsAt τ' 31 sn → (∀ w, w < 10 → ∀ q, q < 32 → (sn w q = true ↔ ∃ m, Rch L A u m w q)) → RT mX3_endsFrom none 63 [some (.ref 30), some (.ref ke), some (.ref ks), some (.int (nI u)), some (.int x4), some (.int x5), none] [] τ' Q := by
    intro τ' sn x4 x5 hO hsn hch
    have hE' := hE.off hO (offE hke)
    have loop : ∀ d v, v + d = 10 → RT mX3_endsFrom none 69 [some (.ref 30), some (.ref ke), some (.ref ks), some (.int (nI u)), some (.int x4), some (.int (vb (ansB L A u) v)), some (.int (nI v))] [] τ' Q := by
      intro d
      induction d with
      | zero =>
        intro v hv
        refine rt_run 2 rfl ?_
        refine rt_ge v 10 rfl (by omega) (by omega) (fun _ => ?_) (fun _ => by omega)
        refine rt_run 1 rfl ?_
        rw [show v = 10 by omega]
        exact rt_iret rfl rfl (h τ' hO)
      | succ d ih =>
        intro v hv
        refine rt_run 2 rfl ?_
        refine rt_ge v 10 rfl (by omega) (by omega) (fun _ => by omega) (fun _ => ?_)
        refine rt_run 4 rfl ?_
        refine rt_ld v rfl (n := 10) rfl (by omega) ?_
        refine rt_cV (ci := 2) mX2_finishes kX3_endsFrom_84 okX2_finishes (isE_s hke) rfl rfl rfl rfl ?_
        refine finishes_spec hke ?_
        have hn := ih (v + 1) (by omega)
        rw [nI_succ] at hn
        by_cases hz : gI τ' 31 v &&& gF τ' ke 2 = 0
        · rw [if_pos hz]
          refine rt_if_eq rfl (fun _ => ?_) (fun hc => absurd rfl hc)
          refine rt_run 2 rfl ?_
          rw [show vb (ansB L A u) (v + 1) = vb (ansB L A u) v by
            have : ansB L A u v = false := by
              rw [Bool.eq_false_iff]
              intro hans
              obtain ⟨m, q, h1, h2⟩ := ansB_iff.mp hans
              have hq := (Rch_lt hL hA hu h1).2
              have := b_zero.mp hz q (by omega)
              rw [b_and, hsn v (by omega) q (by omega), hE'.2.2.2.1 q (by omega), h2, (hch v (by omega) q (by omega)).mpr ⟨m, h1⟩] at this
              cases this
            simp only [vb, this]; simp] at hn
          exact hn
        · rw [if_neg hz]
          refine rt_if_eq rfl (fun hc => absurd hc (by decide)) (fun _ => ?_)
          refine rt_run 8 rfl ?_
          rw [show vb (ansB L A u) (v + 1) = vb (ansB L A u) v ||| (1 <<< (nI v &&& 31)) by
            have : ansB L A u v = true := by
              rw [ansB_iff]
              by_cases hh : ∃ q, q < 32 ∧ bt (gI τ' 31 v &&& gF τ' ke 2) q = true
              · obtain ⟨q, hq, hb⟩ := hh
                rw [b_and, hsn v (by omega) q hq, hE'.2.2.2.1 q hq, Bool.and_eq_true] at hb
                obtain ⟨m, hm⟩ := (hch v (by omega) q hq).mp hb.1
                exact ⟨m, q, hm, hb.2⟩
              · exfalso
                refine hz (b_zero.mpr (fun q hq => ?_))
                cases hb : bt (gI τ' 31 v &&& gF τ' ke 2) q with
                | false => rfl
                | true => exact absurd ⟨q, hq, hb⟩ hh
            simp only [vb, this]; simp] at hn
          exact hn
    refine rt_run 4 rfl ?_
    exact loop 10 0 (by omega)
  have loop : ∀ d n τ' (sn fr : Nat → Nat → Bool), n + d = 251 → Off [31, 32, 33] τ τ' → BitsAt τ' 31 sn → BitsAt τ' 32 fr → SInv L A u sn fr → n + 1 ≤ cntS sn → RT mX3_endsFrom none 36 [some (.ref 30), some (.ref ke), some (.ref ks), some (.int (nI u)), some (.int 1), some (.int (nI n)), none] [] τ' Q := by
    intro d
    induction d with
    | zero =>
      intro n τ' sn fr hn _ _ _ _ hc
      have := cntS_le sn
      omega
    | succ d ih =>
      intro n τ' sn fr hn hO hsn hfr hI hc
      have hE' := hE.off hO (offE hke)
      have hS' := hS.off hO (offS hks)
      refine rt_run 1 rfl ?_
      refine rt_if_eq rfl (fun hc => absurd hc (by decide)) (fun _ => ?_)
      refine rt_run 2 rfl ?_
      refine rt_gt n 250 rfl (by omega) (by omega) (fun _ => by omega) (fun _ => ?_)
      refine rt_run 3 rfl ?_
      refine rt_cV (ci := 3) mX3_spreads kX3_endsFrom_52 okX3_spreads rfl rfl rfl rfl rfl ?_
      refine spreads_spec hke hks hE' hS' hL hsn hfr (fun τ'' r hO2 hs2 hf2 hr => ?_)
      refine rt_run 3 rfl ?_
      have hI2 := hI.next hL hA hu
      rw [← nI_succ]
      rcases hr with ⟨rfl, v, hv, i, hi, hb⟩ | ⟨rfl, hz⟩
      · refine ih (n + 1) τ'' _ _ (by omega) (hO.tr hO2) hs2 hf2 hI2 ?_
        have hi25 : i < 25 := by
          obtain ⟨m, hm⟩ := hI2.1 v i (by simp only [hb, Bool.or_true])
          exact (Rch_lt hL hA hu hm).2
        have : cntS sn < cntS (fun w q => sn w q || (hit L A fr w q && !sn w q)) := by
          refine countP_lt (fun x _ hx => by simp only [hx, Bool.true_or]) (prs_mem hv hi25) ?_ ?_
          · rw [Bool.and_eq_true] at hb
            simpa using hb.2
          · simp only [hb, Bool.or_true]
        omega
      · refine rt_run 1 rfl ?_
        refine rt_if_eq rfl (fun _ => ?_) (fun hc => absurd rfl hc)
        refine fin τ'' _ _ _ (hO.tr hO2) hs2 (fun w hw q hq => ?_)
        refine hI2.all (fun w q => ?_) w q
        by_cases hw : w < 10 ∧ q < 32
        · exact hz w hw.1 q hw.2
        · cases hh : hit L A fr w q with
          | false => rfl
          | true =>
            exfalso
            obtain ⟨st, a1, a2, -, a6⟩ := hit_iff.mp hh
            have h1 := (hL.2 st a1).2.2
            have h2 := (hA.2.2.1 _ _ a6).2
            have := hA.1
            exact hw ⟨by omega, by omega⟩
  refine rt_run 3 rfl ?_
  refine rt_cS mJ7_fill_53178 kX3_endsFrom_5 okJ7_fill_53178 rfl rfl ?_
  refine fill_spec (n := 10) rfl (fun f hf => ?_)
  refine rt_run 3 rfl ?_
  refine rt_cS mJ7_fill_53178 kX3_endsFrom_13 okJ7_fill_53178 rfl rfl ?_
  refine fill_spec (n := 10) rfl (fun g hg => ?_)
  refine rt_run 4 rfl ?_
  refine rt_st u rfl (n := 10) rfl hu ?_
  refine rt_run 4 rfl ?_
  refine rt_st u rfl (n := 10) rfl hu ?_
  refine rt_run 4 rfl ?_
  have hbits : ∀ f : Nat → Int32, (∀ j, j < 10 → f j = 0) → ∀ v, v < 10 → ∀ i, i < 32 → bt (upd f u 1 v) i = decide (v = u ∧ i = 0) := by
    intro f hf v hv i hi
    by_cases hvu : v = u
    · subst hvu; rw [pk_us, b_one hi]; simp
    · rw [pk_un hvu, hf v hv, b_0]; simp [hvu]
  refine loop 251 0 _ (fun w q => decide (w = u ∧ q = 0)) (fun w q => decide (w = u ∧ q = 0)) (by omega) ((((Off.rf _ _).sA (by simp) _).sA (by simp) _).sI (by simp) _ _ |>.sI (by simp) _ _) ?_ ?_ ⟨?_, fun _ _ hh => hh, by simp, ?_⟩ ?_
  · intro v hv i hi
    have e : gI (sI (sI (sA (sA τ 31 f) 32 g) 31 u 1) 32 u 1) 31 = upd f u 1 := rfl
    rw [e]; exact hbits f hf v hv i hi
  · intro v hv i hi
    have e : gI (sI (sI (sA (sA τ 31 f) 32 g) 31 u 1) 32 u 1) 32 = upd g u 1 := rfl
    rw [e]; exact hbits g hg v hv i hi
  · intro w q hh
    have hh : w = u ∧ q = 0 := of_decide_eq_true hh
    exact ⟨0, hh⟩
  · intro v p h1 h2
    rw [h1] at h2
    cases h2
  · have : 0 < cntS (fun w q => decide (w = u ∧ q = 0)) := List.countP_pos_iff.mpr ⟨(u, 0), prs_mem hu (by omega), by simp⟩
    omega

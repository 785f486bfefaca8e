/-! the first of the shortest routes; Shortest.firstStep, trace -/
theorem Rch_Bk {L : SL} {A : AE} {u v k m w p : Nat} (h1 : Rch L A u k w p) (h2 : Bk L A v m w p) : Bk L A v (k + m) u 0 := by
  induction k generalizing m w p with
  | zero => obtain ⟨rfl, rfl⟩ := h1; rw [Nat.zero_add]; exact h2
  | succ k ih =>
    obtain ⟨st, a1, rfl, ⟨p', a3, a4⟩, a5⟩ := h1
    have := ih (m := m + 1) a3 ⟨st, a1, rfl, p, a4, a5, h2⟩
    rw [show k + 1 + m = k + (m + 1) by omega]
    exact this
/-- step i leads on: from a, with places of S, so that r steps are left behind it -/
def Cnd (L : SL) (A : AE) (v a : Nat) (S : Nat → Bool) (r i : Nat) : Prop := ∃ st, L[i]? = some st ∧ st.1 = a ∧ ∃ q, nxt A S q = true ∧ A.2.1 st.2.1 q = true ∧ Bk L A v r st.2.2.1 q
noncomputable def cndB (L : SL) (A : AE) (v a : Nat) (S : Nat → Bool) (r i : Nat) : Bool := @decide (Cnd L A v a S r i) (Classical.propDecidable _)
theorem cndB_iff {L : SL} {A : AE} {v a : Nat} {S : Nat → Bool} {r i : Nat} : cndB L A v a S r i = true ↔ Cnd L A v a S r i := @decide_eq_true_iff _ (Classical.propDecidable _)
noncomputable def fstI (L : SL) (A : AE) (v a : Nat) (S : Nat → Bool) (r : Nat) : Option Nat := (List.range L.length).find? (fun i => cndB L A v a S r i)
theorem fstI_some {L : SL} {A : AE} {v a : Nat} {S : Nat → Bool} {r i : Nat} (hi : i < L.length) (h1 : Cnd L A v a S r i) (h2 : ∀ j, j < i → ¬ Cnd L A v a S r j) : fstI L A v a S r = some i := by
  unfold fstI
  rw [List.find?_range_eq_some]
  refine ⟨cndB_iff.mpr h1, List.mem_range.mpr hi, fun j hj => ?_⟩
  cases hb : cndB L A v a S r j with
  | false => rfl
  | true => exact absurd (cndB_iff.mp hb) (h2 j hj)
/-- the steps of the first route with r steps left -/
noncomputable def gp (L : SL) (A : AE) (v : Nat) : Nat → Nat → (Nat → Bool) → List Nat
  | 0, _, _ => []
  | r + 1, a, S => match fstI L A v a S r with
    | none => []
    | some i => match L[i]? with
      | none => []
      | some st => i :: gp L A v r st.2.2.1 (fun q => nxt A S q && A.2.1 st.2.1 q)
theorem gp_s {L : SL} {A : AE} {v r a i : Nat} {S : Nat → Bool} {st : Nat × Nat × Nat × Nat} (h1 : fstI L A v a S r = some i) (h2 : L[i]? = some st) : gp L A v (r + 1) a S = i :: gp L A v r st.2.2.1 (fun q => nxt A S q && A.2.1 st.2.1 q) := by
  simp only [gp, h1, h2]
def δ0 : Nat → Bool := fun q => decide (q = 0)
theorem nxt_iff {A : AE} {S : Nat → Bool} {q : Nat} : nxt A S q = true ↔ ∃ p, p < 25 ∧ S p = true ∧ A.1 p q = true := by
  unfold nxt
  simp only [List.any_eq_true, Bool.and_eq_true, List.mem_range]
def CndL (L : SL) (A : AE) (v a : Nat) (S : Nat → Bool) (r i : Nat) : Prop := ∃ st, L[i]? = some st ∧ st.1 = a ∧ ∃ q, nxt A S q = true ∧ A.2.1 st.2.1 q = true ∧ Lev L A v r st.2.2.1 q
theorem firstStep_spec {ke ks a r v : Nat} {set : Int32} {S : Nat → Bool} {A : AE} {L : SL} {τ : Ty} {Q : Option Value → Ty → Prop} (hke : isE ke) (hks : isS ks) (hE : ExIs τ ke A) (hS : StIs τ ks L) (hL : StOk L) (ha : a < 10) (hr : r < 250) (hset : ∀ i, i < 32 → bt set i = S i) (hrow : RowAt τ r (levB L A v r))
    (h1 : ∀ i, i < L.length → CndL L A v a S r i → (∀ j, j < i → ¬ CndL L A v a S r j) → Q (some (.int (nI i))) τ) (h2 : (∀ j, ¬ CndL L A v a S r j) → Q (some (.int (-1))) τ) :
    RT mX5_firstStep none 0 [some (.ref 34), some (.ref ke), some (.ref ks), some (.int (nI a)), some (.int set), some (.int (nI (r * 10))), none, none] [] τ Q := by
  obtain ⟨s0, s1, s2, s3, s4, b0, b1, b2, b3, q38⟩ := isS_f hks
  obtain ⟨f0, f1, f2, f3, f4, a0, a1, h38⟩ := isE_f hke
  have hA := hE.2.2.2.2
  refine rt_run 2 rfl ?_
  refine rt_cV (ci := 2) mX2_behind kX5_firstStep_3 okX2_behind (isE_s hke) rfl rfl rfl rfl ?_
  refine behind_specA (S := S) hke hE hset (fun g hg => ?_)
  have loop : ∀ d i, i + d = L.length → (∀ j, j < i → ¬ CndL L A v a S r j) → RT mX5_firstStep none 11 [some (.ref 34), some (.ref ke), some (.ref ks), some (.int (nI a)), some (.int set), some (.int (nI (r * 10))), some (.int g), some (.int (nI i))] [] τ Q := by
    intro d
    induction d with
    | zero =>
      intro i hi hn
      have hl := hL.1
      refine rt_run 2 rfl ?_
      refine rt_getI rfl s4 ?_
      refine rt_ge i L.length rfl (by omega) (by omega) (fun _ => ?_) (fun _ => by omega) rfl hS.1
      refine rt_run 1 rfl ?_
      refine rt_iret rfl rfl (h2 (fun j hc => ?_))
      obtain ⟨st, hst, -⟩ := id hc
      have := (List.getElem?_eq_some_iff.mp hst).1
      exact hn j (by omega) hc
    | succ d ih =>
      intro i hi hn
      have hl := hL.1
      refine rt_run 2 rfl ?_
      refine rt_getI rfl s4 ?_
      refine rt_ge i L.length rfl (by omega) (by omega) (fun _ => by omega) (fun hlt => ?_) rfl hS.1
      have hq : L[i]? = some L[i] := List.getElem?_eq_getElem hlt
      obtain ⟨g1, g2, g3, g4⟩ := hS.2 i _ hq
      obtain ⟨c1, c2, c3⟩ := hL.2 _ (List.getElem_mem hlt)
      have next : ¬ CndL L A v a S r i → RT mX5_firstStep none 68 [some (.ref 34), some (.ref ke), some (.ref ks), some (.int (nI a)), some (.int set), some (.int (nI (r * 10))), some (.int g), some (.int (nI i))] [] τ Q := by
        intro hne
        refine rt_run 2 rfl ?_
        rw [← nI_succ]
        exact ih (i + 1) (by omega) (fun j hj => by
          by_cases hji : j = i
          · subst hji; exact hne
          · exact hn j (by omega))
      refine rt_run 1 rfl ?_
      refine rt_getQ rfl s0 q38 ?_
      refine rt_run 1 rfl ?_
      refine rt_ld i rfl b0 (by omega) ?_
      refine rt_run 1 rfl ?_
      refine rt_ne L[i].1 a rfl (by omega) (by omega) (fun hc => next (fun hh => ?_)) (fun e1 => ?_) g1
      · obtain ⟨st, e, e2, -⟩ := hh
        rw [hq] at e
        cases e
        exact hc e2
      refine rt_run 2 rfl ?_
      refine rt_getQ rfl f1 h38 ?_
      refine rt_run 1 rfl ?_
      refine rt_getQ rfl s1 q38 ?_
      refine rt_run 1 rfl ?_
      refine rt_ld i rfl b1 (by omega) ?_
      refine rt_ld L[i].2.1 rfl a1 c2 ?_ g2
      refine rt_run 5 rfl ?_
      refine rt_getQ rfl s2 q38 ?_
      refine rt_run 1 rfl ?_
      refine rt_ld i rfl b2 (by omega) ?_
      rw [g3]
      refine rt_run 1 rfl ?_
      refine rt_ld (r * 10 + L[i].2.2.1) rfl (n := 2510) rfl (by omega) ?_ (by rw [nI_add])
      refine rt_run 1 rfl ?_
      have hbits : ∀ q, q < 32 → bt (g &&& gI τ (ke + 2) L[i].2.1 &&& gI τ 35 (r * 10 + L[i].2.2.1)) q = (nxt A S q && A.2.1 L[i].2.1 q && levB L A v r L[i].2.2.1 q) := by
        intro q hq32
        rw [b_and, b_and, hg q hq32, hE.2.2.1 _ c2 q hq32, hrow _ c3 q hq32]
      refine rt_if_eq rfl (fun hc => next (fun hh => ?_)) (fun hc => ?_)
      · obtain ⟨st, e, -, q, h3, h4, h5⟩ := hh
        rw [hq] at e
        cases e
        have h6 := (hA.2.2.1 _ _ h4).2
        have h7 := hA.1
        have := b_zero.mp hc q (by omega)
        rw [hbits q (by omega), h3, h4, levB_iff.mpr h5] at this
        cases this
      · refine rt_run 1 rfl ?_
        refine rt_iret rfl rfl (h1 i hlt ⟨L[i], hq, e1, ?_⟩ hn)
        by_cases hh : ∃ q, q < 32 ∧ bt (g &&& gI τ (ke + 2) L[i].2.1 &&& gI τ 35 (r * 10 + L[i].2.2.1)) q = true
        · obtain ⟨q, hq32, hb⟩ := hh
          rw [hbits q hq32, Bool.and_eq_true, Bool.and_eq_true] at hb
          exact ⟨q, hb.1.1, hb.1.2, levB_iff.mp hb.2⟩
        · exfalso
          refine hc (b_zero.mpr (fun q hq32 => ?_))
          cases hb : bt (g &&& gI τ (ke + 2) L[i].2.1 &&& gI τ 35 (r * 10 + L[i].2.2.1)) q with
          | false => rfl
          | true => exact absurd ⟨q, hq32, hb⟩ hh
  refine rt_run 3 rfl ?_
  exact loop L.length 0 (by omega) (fun j hj => by omega)
theorem offE7 {k : Nat} (hk : isE k) : k ∉ [35, 36, 37] ∧ k + 1 ∉ [35, 36, 37] ∧ k + 2 ∉ [35, 36, 37] := by rcases hk with rfl | rfl | rfl | rfl | rfl <;> decide
theorem offS7 {k : Nat} (hk : isS k) : k ∉ [35, 36, 37] ∧ k + 1 ∉ [35, 36, 37] ∧ k + 2 ∉ [35, 36, 37] ∧ k + 3 ∉ [35, 36, 37] ∧ k + 4 ∉ [35, 36, 37] := by rcases hk with rfl | rfl | rfl <;> decide
theorem trace_spec {ke ks u v : Nat} {A : AE} {L : SL} {τ : Ty} {Q : Option Value → Ty → Prop} (hke : isE ke) (hks : isS ks) (hE : ExIs τ ke A) (hS : StIs τ ks L) (hL : StOk L) (hu : u < 10) (hv : v < 10)
    (h1 : ∀ τ' n, Off [35, 36, 37] τ τ' → n < 250 → Lev L A v n u 0 → (gp L A v n u δ0).length = n → (∀ j i, (gp L A v n u δ0)[j]? = some i → gI τ' 37 j = nI i ∧ i < L.length) → Q (some (.int (nI n))) τ') (h2 : ∀ τ', Off [35, 36, 37] τ τ' → (∀ m, ¬ Bk L A v m u 0) → Q (some (.int (-1))) τ') :
    RT mX5_trace none 0 [some (.ref 34), some (.ref ke), some (.ref ks), some (.int (nI u)), some (.int (nI v)), none, none, none, none, none] [] τ Q := by
  obtain ⟨s0, s1, s2, s3, s4, b0, b1, b2, b3, q38⟩ := isS_f hks
  have hA := hE.2.2.2.2
  refine rt_run 5 rfl ?_
  refine rt_cV (ci := 5) mX5_lengthOf kX5_trace_6 okX5_lengthOf rfl rfl rfl rfl rfl ?_
  refine lengthOf_spec hke hks hE hS hL hu hv (fun τ1 n hO1 hn hlev hrows => ?_) (fun τ1 hO1 hno => ?_)
  · have loop : ∀ d k τ' (a : Nat) (set : Int32) (S : Nat → Bool) (pre : List Nat) (x9 : Option Value), k + d = n → Off [37] τ1 τ' → a < 10 → (∀ i, i < 32 → bt set i = S i) → pre.length = k → gp L A v n u δ0 = pre ++ gp L A v d a S → (∀ j i, pre[j]? = some i → gI τ' 37 j = nI i ∧ i < L.length) → (∀ p, S p = true → Rch L A u k a p) → (∃ p, S p = true ∧ Bk L A v d a p) →
        RT mX5_trace none 20 [some (.ref 34), some (.ref ke), some (.ref ks), some (.int (nI u)), some (.int (nI v)), some (.int (nI n)), some (.int (nI a)), some (.int set), some (.int (nI k)), x9] [] τ' Q := by
      intro d
      induction d with
      | zero =>
        intro k τ' a set S pre x9 hk hO ha hset hpre hgp hpath hrch hex
        refine rt_run 2 rfl ?_
        refine rt_ge k n rfl (by omega) (by omega) (fun _ => ?_) (fun _ => by omega)
        refine rt_run 1 rfl ?_
        have hgp' : gp L A v n u δ0 = pre := by rw [hgp]; simp [gp]
        refine rt_iret rfl rfl (h1 τ' n ((hO1.up (by simp)).tr (hO.up (by simp))) hn hlev (by rw [hgp']; omega) (fun j i hji => ?_))
        rw [hgp'] at hji
        exact hpath j i hji
      | succ d ih =>
        intro k τ' a set S pre x9 hk hO ha hset hpre hgp hpath hrch hex
        have hO' : Off [35, 36, 37] τ τ' := (hO1.up (by simp)).tr (hO.up (by simp))
        have hE' := hE.off hO' (offE7 hke)
        have hS' := hS.off hO' (offS7 hks)
        refine rt_run 2 rfl ?_
        refine rt_ge k n rfl (by omega) (by omega) (fun _ => by omega) (fun _ => ?_)
        refine rt_run 12 rfl ?_
        rw [show (nI n - nI k - 1) * 10 = nI (d * 10) by
          rw [pk_sub (by omega), show n - k = d + 1 by omega, nI_pred, ← pk_mul]; rfl]
        have hiff : ∀ i, CndL L A v a S d i ↔ Cnd L A v a S d i := by
          intro i
          constructor
          · rintro ⟨st, e1, e2, q, e3, e4, e5⟩
            exact ⟨st, e1, e2, q, e3, e4, e5.1⟩
          · rintro ⟨st, e1, e2, q, e3, e4, e5⟩
            refine ⟨st, e1, e2, q, e3, e4, e5, fun m hm hb => ?_⟩
            obtain ⟨p, -, hp, hpq⟩ := nxt_iff.mp e3
            have hr := hrch p hp
            rw [← e2] at hr
            have : Rch L A u (k + 1) st.2.2.1 q := ⟨st, List.mem_of_getElem? e1, rfl, ⟨p, hr, hpq⟩, e4⟩
            exact hlev.2 (k + 1 + m) (by omega) (Rch_Bk this hb)
        refine rt_cV (ci := 5) mX5_firstStep kX5_trace_44 okX5_firstStep rfl rfl rfl rfl rfl ?_
        refine firstStep_spec (v := v) hke hks hE' hS' hL ha (by omega) hset (fun w hw q hq => by rw [(hO.1 35 (by decide)).1]; exact hrows d (by omega) w hw q hq) (fun i hi hc hn2 => ?_) (fun hno => ?_)
        · have hfst := fstI_some hi ((hiff i).mp hc) (fun j hj hh => hn2 j hj ((hiff j).mpr hh))
          have hq : L[i]? = some L[i] := List.getElem?_eq_getElem hi
          obtain ⟨g1, g2, g3, g4⟩ := hS'.2 i _ hq
          obtain ⟨c1, c2, c3⟩ := hL.2 _ (List.getElem_mem hi)
          have hl := hL.1
          refine rt_run 3 rfl ?_
          refine rt_ic_ne rfl (fun _ => ?_) (fun hc => ?_)
          · refine rt_run 4 rfl ?_
            refine rt_st k rfl (n := 250) rfl (by omega) ?_
            refine rt_run 3 rfl ?_
            refine rt_getQ rfl s1 q38 ?_
            refine rt_run 1 rfl ?_
            refine rt_ld i rfl b1 (by omega) ?_
            have hs2 : ∀ {τ0 : Ty} (x : Int32), gI (sI τ0 37 k x) (ks + 2) = gI τ0 (ks + 2) := by
              intro τ0 x
              rw [gI_sI, if_neg (by rcases hks with rfl | rfl | rfl <;> decide)]
            have hs3 : ∀ {τ0 : Ty} (x : Int32), gI (sI τ0 37 k x) (ks + 3) = gI τ0 (ks + 3) := by
              intro τ0 x
              rw [gI_sI, if_neg (by rcases hks with rfl | rfl | rfl <;> decide)]
            rw [hs2, g2]
            have hOk : Off [37] τ' (sI τ' 37 k (nI i)) := (Off.rf _ _).sI (by simp) _ _
            have hE2 := hE'.off (hOk.up (ks' := [35, 36, 37]) (by simp)) (offE7 hke)
            refine rt_cV (ci := 2) mX2_after kX5_trace_76 okX2_after (isE_s hke) rfl rfl rfl rfl ?_
            refine after_spec hke hE2.1 hE2.2.2.2.2.1 c2 ?_
            refine rt_run 2 rfl ?_
            refine rt_getQ rfl s2 q38 ?_
            refine rt_run 1 rfl ?_
            refine rt_ld i rfl b2 (by omega) ?_
            rw [hs3, g3]
            refine rt_run 3 rfl ?_
            rw [← nI_succ]
            refine ih (k + 1) _ L[i].2.2.1 _ (fun q => nxt A S q && A.2.1 L[i].2.1 q) (pre ++ [i]) _ (by omega) (hO.tr hOk) c3 (fun q hq32 => ?_) (by rw [List.length_append, hpre]; rfl) ?_ (fun j x hjx => ?_) (fun p hp => ?_) ?_
            · rw [b_and, behind_bt hE2 hset hq32, hE2.2.2.1 _ c2 q hq32]
            · rw [hgp, gp_s hfst hq, List.append_assoc]; rfl
            · rcases getApp hjx with ⟨hj, hjx⟩ | ⟨rfl, rfl⟩
              · obtain ⟨e1, e2⟩ := hpath j x hjx
                refine ⟨?_, e2⟩
                rw [gI_sI, if_pos rfl, pk_un (by omega)]
                exact e1
              · refine ⟨?_, hi⟩
                rw [gI_sI, if_pos rfl, hpre, pk_us]
            · rw [Bool.and_eq_true] at hp
              obtain ⟨p', -, hp', hpq⟩ := nxt_iff.mp hp.1
              obtain ⟨st, e1, e2, -⟩ := hc
              rw [hq] at e1
              cases e1
              exact ⟨L[i], List.getElem_mem hi, rfl, ⟨p', by rw [e2]; exact hrch p' hp', hpq⟩, hp.2⟩
            · obtain ⟨st, e1, e2, q, e3, e4, e5⟩ := hc
              rw [hq] at e1
              cases e1
              exact ⟨q, by rw [e3, e4]; rfl, e5.1⟩
          · exfalso
            have h9 : (nI i).toInt = (i : Int) := nI_toInt (by omega)
            rw [hc] at h9
            have h10 : (-1 : Int32).toInt = -1 := by decide
            omega
        · exfalso
          obtain ⟨p, hp, st, e1, e2, q, e3, e4, e5⟩ := hex
          obtain ⟨i, hi⟩ := List.getElem?_of_mem e1
          refine hno i ((hiff i).mpr ⟨st, hi, e2, q, nxt_iff.mpr ⟨p, ?_, hp, e3⟩, e4, e5⟩)
          exact (Rch_lt hL hA hu (hrch p hp)).2
    refine rt_run 7 rfl ?_
    refine loop n 0 τ1 u 1 δ0 [] none (by omega) (Off.rf _ _) hu (fun i hi => by rw [b_one hi]; rfl) rfl rfl (fun j i hji => by simp at hji) (fun p hp => ⟨rfl, of_decide_eq_true hp⟩) ⟨0, rfl, hlev.1⟩
  · refine rt_run 9 rfl ?_
    refine rt_ic_ge rfl (fun _ => ?_) (fun hc => absurd (by decide) hc)
    refine rt_run 1 rfl ?_
    exact rt_iret rfl rfl (h2 τ1 (hO1.up (by simp)) hno)

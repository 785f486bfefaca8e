/-! the reference's spreads, farOf, endsOf -/
theorem MEd.of {ks fs : List Nat} {τ τ' : Ty} {G : Gr} (h : MEd τ G) (ho : OfM ks fs τ τ') (h1 : 64 ∉ ks ∧ 1 ∉ fs) : MEd τ' G := by
  unfold MEd at *
  rw [ho.2.2.1 1 h1.2, (ho.1 64 h1.1).1]
  exact h
theorem MEx.of {ks fs : List Nat} {τ τ' : Ty} {x : Nat} {A : AE} (h : MEx τ x A) (ho : OfM ks fs τ τ') (h1 : 68 ∉ ks ∧ 69 ∉ ks ∧ 70 ∉ ks) : MEx τ' x A := by
  unfold MEx at *
  rw [(ho.1 68 h1.1).1, (ho.1 69 h1.2.1).1, (ho.1 70 h1.2.2).1]
  exact h
theorem MXs.of {ks fs : List Nat} {τ τ' : Ty} {X : Nat → Option AE} (h : MXs τ X) (ho : OfM ks fs τ τ') (h1 : 67 ∉ ks ∧ 68 ∉ ks ∧ 69 ∉ ks ∧ 70 ∉ ks) : MXs τ' X := by
  intro x hx
  have := h x hx
  cases hX : X x with
  | none =>
    rw [hX] at this
    dsimp only at this ⊢
    rw [(ho.1 67 h1.1).1]
    exact this
  | some A =>
    rw [hX] at this
    dsimp only at this ⊢
    exact ⟨by rw [(ho.1 67 h1.1).1]; exact this.1, this.2.of ho h1.2⟩
theorem MEd.ok {τ : Ty} {G : Gr} (h : MEd τ G) (w : Option Nat) : StOk (stL G w) := stL_ok h.2.2.1 h.2.2.2 w
theorem hit_app (L M : SL) (A : AE) (fr : Nat → Nat → Bool) (v q : Nat) : hit (L ++ M) A fr v q = (hit L A fr v q || hit M A fr v q) := List.any_append
theorem hit_s {G : Gr} {w : Option Nat} {e : Nat} {q : Nat × Nat × Nat} (A : AE) (fr : Nat → Nat → Bool) (hq : G[e]? = some q) (hw : w ≠ some e) (v i : Nat) : hit (fwdN G w (e + 1) ++ bwdN G w (e + 1)) A fr v i = (hit (fwdN G w e ++ bwdN G w e) A fr v i || (decide (q.2.2 = v) && nxt A (fr q.1) i && A.2.1 q.2.1 i) || (decide (q.1 = v) && nxt A (fr q.2.2) i && A.2.1 (q.2.1 + 4) i)) := by
  have e1 : fwdN G w (e + 1) = fwdN G w e ++ [(q.1, q.2.1, q.2.2, e)] := by
    show fwdN G w e ++ _ = _
    rw [hq]
    dsimp only
    rw [if_neg hw]
  have e2 : bwdN G w (e + 1) = bwdN G w e ++ [(q.2.2, q.2.1 + 4, q.1, e)] := by
    show bwdN G w e ++ _ = _
    rw [hq]
    dsimp only
    rw [if_neg hw]
  rw [e1, e2, hit_app, hit_app, hit_app, hit_app]
  have e3 : ∀ st : Nat × Nat × Nat × Nat, hit [st] A fr v i = (decide (st.2.2.1 = v) && nxt A (fr st.1) i && A.2.1 st.2.1 i) := by
    intro st
    unfold hit
    rw [List.any_cons, List.any_nil, Bool.or_false]
  rw [e3, e3]
  dsimp only
  generalize hit (fwdN G w e) A fr v i = b1
  generalize hit (bwdN G w e) A fr v i = b2
  generalize (decide (q.2.2 = v) && nxt A (fr q.1) i && A.2.1 q.2.1 i) = b3
  generalize (decide (q.1 = v) && nxt A (fr q.2.2) i && A.2.1 (q.2.1 + 4) i) = b4
  cases b1 <;> cases b2 <;> cases b3 <;> cases b4 <;> rfl
theorem hit_s0 {G : Gr} {w : Option Nat} {e : Nat} (A : AE) (fr : Nat → Nat → Bool) (hw : w = some e) : fwdN G w (e + 1) = fwdN G w e ∧ bwdN G w (e + 1) = bwdN G w e := by
  constructor
  · show fwdN G w e ++ _ = _
    cases hg : G[e]? with
    | none => simp
    | some q => simp [hw]
  · show bwdN G w e ++ _ = _
    cases hg : G[e]? with
    | none => simp
    | some q => simp [hw]
section MdFar
variable {τ : Ty} {Q : Option Value → Ty → Prop} {G : Gr} {A : AE} {x : Nat} {w : Option Nat}
theorem mspreads_spec {fr : Nat → Nat → Bool} (hx : x < 4) (hG : MEd τ G) (hw : gF τ 63 32 = wI w) (hw2 : ∀ e, w = some e → e < 100) (hE : MEx τ x A) (hfr : ∀ v, v < 10 → MB (gI τ 78 v) (fr v))
    (h : ∀ τ', OfM [79] [] τ τ' → (∀ v, v < 10 → MB (gI τ' 79 v) (hit (stL G w) A fr v)) → Q none τ') : RT mX11_spreads none 0 [some (.ref 63), some (.int (nI x)), none] [] τ Q := by
  have hlen := hG.2.2.1
  have loop2 : ∀ d e τ', e + d = G.length → OfM [79] [] τ τ' → (∀ v, v < 10 → MB (gI τ' 79 v) (hit (fwdN G w e ++ bwdN G w e) A fr v)) → RT mX11_spreads none 23 [some (.ref 63), some (.int (nI x)), some (.int (nI e))] [] τ' Q := by
    intro d
    induction d with
    | zero =>
      intro e τ' he hO hl
      have : e = G.length := by omega
      subst this
      refine rt_run 3 rfl ?_
      refine rt_ge G.length G.length rfl (by omega) (by omega) (fun _ => ?_) (fun _ => by omega) rfl (hG.of hO (by decide)).1
      exact rt_vret rfl rfl (h τ' hO hl)
    | succ d ih =>
      intro e τ' he hO hl
      have hG' := hG.of hO (by decide)
      have hE' := hE.of hO (by decide)
      refine rt_run 3 rfl ?_
      refine rt_ge e G.length rfl (by omega) (by omega) (fun _ => by omega) (fun hlt => ?_) rfl hG'.1
      have hq : G[e]? = some G[e] := List.getElem?_eq_getElem hlt
      obtain ⟨b1, b2, b3⟩ := hG.2.2.2 _ (List.getElem_mem hlt)
      generalize G[e] = q at hq b1 b2 b3
      have ewl : gF τ' 63 32 = wI w := by rw [hO.2.2.1 32 (by decide)]; exact hw
      refine rt_run 3 rfl ?_
      rw [ewl]
      refine rt_ic_eq rfl (fun hc => ?_) (fun hc => ?_)
      · have hwe : w = some e := (wI_eq hw2 (by omega)).mp hc
        refine rt_run 2 rfl ?_
        rw [← nI_succ]
        refine ih (e + 1) τ' (by omega) hO ?_
        obtain ⟨e1, e2⟩ := hit_s0 (G := G) A fr hwe
        rw [e1, e2]
        exact hl
      · have hwe : w ≠ some e := fun g => hc ((wI_eq hw2 (by omega)).mpr g)
        refine rt_run 4 rfl ?_
        refine rt_cV (ci := 11) mX11_toOf kX11_spreads_45 okX11_toOf rfl rfl rfl rfl rfl ?_
        refine toOf_spec hG' hlt (fun q' eq => ?_)
        rw [hq] at eq
        cases eq
        refine rt_run 1 rfl ?_
        refine rt_ld q.2.2 rfl (n := 10) rfl b3 ?_
        refine rt_run 6 rfl ?_
        refine rt_cV (ci := 11) mX11_fromOf kX11_spreads_58 okX11_fromOf rfl rfl rfl rfl rfl ?_
        refine fromOf_spec hG' hlt (fun q' eq => ?_)
        rw [hq] at eq
        cases eq
        refine rt_ld q.1 rfl (n := 10) rfl b1 ?_
        refine rt_run 2 rfl ?_
        refine rt_cV (ci := 11) mX11_letterOf kX11_spreads_64 okX11_letterOf rfl rfl rfl rfl rfl ?_
        refine letterOf_spec hG' hlt (fun q' eq => ?_)
        rw [hq] at eq
        cases eq
        refine rt_cV (ci := 11) mX11_goes kX11_spreads_67 okX11_goes rfl rfl rfl rfl rfl ?_
        refine goes_spec (S := fr q.1) hx (by omega) hE' (by rw [(hO.1 78 (by decide)).1]; exact hfr q.1 b1) (fun r hr => ?_)
        refine rt_run 1 rfl ?_
        refine rt_st q.2.2 rfl (n := 10) rfl b3 ?_
        have hO1 : OfM [79] [] τ (sI τ' 79 q.2.2 (gI τ' 79 q.2.2 ||| r)) := hO.sI (by simp) _ _
        have hl1 : ∀ v, v < 10 → MB (gI (sI τ' 79 q.2.2 (gI τ' 79 q.2.2 ||| r)) 79 v) (fun i => hit (fwdN G w e ++ bwdN G w e) A fr v i || (decide (q.2.2 = v) && nxt A (fr q.1) i && A.2.1 q.2.1 i)) := by
          intro v hv j hj
          rw [gI_sI, if_pos rfl]
          by_cases hvq : v = q.2.2
          · subst hvq
            rw [pk_us, b_or, hl _ hv j hj, hr j hj]
            simp
          · rw [pk_un hvq, hl v hv j hj]
            have : ¬ q.2.2 = v := fun g => hvq g.symm
            simp [this]
        have hG1 := hG.of hO1 (by decide)
        have hE1 := hE.of hO1 (by decide)
        generalize sI τ' 79 q.2.2 (gI τ' 79 q.2.2 ||| r) = τ1 at hO1 hl1 hG1 hE1
        refine rt_run 4 rfl ?_
        refine rt_cV (ci := 11) mX11_fromOf kX11_spreads_78 okX11_fromOf rfl rfl rfl rfl rfl ?_
        refine fromOf_spec hG1 hlt (fun q' eq => ?_)
        rw [hq] at eq
        cases eq
        refine rt_run 1 rfl ?_
        refine rt_ld q.1 rfl (n := 10) rfl b1 ?_
        refine rt_run 6 rfl ?_
        refine rt_cV (ci := 11) mX11_toOf kX11_spreads_91 okX11_toOf rfl rfl rfl rfl rfl ?_
        refine toOf_spec hG1 hlt (fun q' eq => ?_)
        rw [hq] at eq
        cases eq
        refine rt_ld q.2.2 rfl (n := 10) rfl b3 ?_
        refine rt_run 2 rfl ?_
        refine rt_cV (ci := 11) mX11_letterOf kX11_spreads_97 okX11_letterOf rfl rfl rfl rfl rfl ?_
        refine letterOf_spec hG1 hlt (fun q' eq => ?_)
        rw [hq] at eq
        cases eq
        refine rt_run 2 rfl ?_
        rw [show nI q.2.1 + 4 = nI (q.2.1 + 4) from nI_add q.2.1 4]
        refine rt_cV (ci := 11) mX11_goes kX11_spreads_102 okX11_goes rfl rfl rfl rfl rfl ?_
        refine goes_spec (S := fr q.2.2) hx (by omega) hE1 (by rw [(hO1.1 78 (by decide)).1]; exact hfr q.2.2 b3) (fun r2 hr2 => ?_)
        refine rt_run 1 rfl ?_
        refine rt_st q.1 rfl (n := 10) rfl b1 ?_
        refine rt_run 2 rfl ?_
        rw [← nI_succ]
        refine ih (e + 1) _ (by omega) (hO1.sI (by simp) _ _) (fun v hv j hj => ?_)
        rw [hit_s A fr hq hwe, gI_sI, if_pos rfl]
        by_cases hvq : v = q.1
        · subst hvq
          rw [pk_us, b_or, hl1 _ hv j hj, hr2 j hj]
          simp
        · rw [pk_un hvq, hl1 v hv j hj]
          have : ¬ q.1 = v := fun g => hvq g.symm
          simp [this]
  have loop1 : ∀ d v τ', v + d = 10 → OfM [79] [] τ τ' → (∀ u, u < v → gI τ' 79 u = 0) → RT mX11_spreads none 2 [some (.ref 63), some (.int (nI x)), some (.int (nI v))] [] τ' Q := by
    intro d
    induction d with
    | zero =>
      intro v τ' hv hO hz
      refine rt_run 2 rfl ?_
      refine rt_ge v 10 rfl (by omega) (by omega) (fun _ => ?_) (fun _ => by omega)
      refine rt_run 2 rfl ?_
      refine loop2 G.length 0 τ' (by omega) hO (fun u hu j hj => ?_)
      rw [hz u (by omega), b_0]
      rfl
    | succ d ih =>
      intro v τ' hv hO hz
      refine rt_run 2 rfl ?_
      refine rt_ge v 10 rfl (by omega) (by omega) (fun _ => by omega) (fun _ => ?_)
      refine rt_run 4 rfl ?_
      refine rt_st v rfl (n := 10) rfl (by omega) ?_
      refine rt_run 2 rfl ?_
      rw [← nI_succ]
      refine ih (v + 1) _ (by omega) (hO.sI (by simp) _ _) (fun u hu => ?_)
      rw [gI_sI, if_pos rfl]
      by_cases huv : u = v
      · subst huv; rw [pk_us]
      · rw [pk_un huv]; exact hz u (by omega)
  refine rt_run 2 rfl ?_
  exact loop1 10 0 τ rfl (OfM.rf _ _ _) (fun u hu => by omega)
end MdFar
noncomputable def dB (P : Prop) : Bool := @decide P (Classical.propDecidable _)
theorem dB_iff {P : Prop} : dB P = true ↔ P := @decide_eq_true_iff _ (Classical.propDecidable _)
def SnP (L : SL) (A : AE) (u n w q : Nat) : Prop := ∃ m, m ≤ n ∧ Rch L A u m w q
def FrP (L : SL) (A : AE) (u n w q : Nat) : Prop := Rch L A u n w q ∧ ∀ m, m < n → ¬ Rch L A u m w q
noncomputable def frB (L : SL) (A : AE) (u n w q : Nat) : Bool := dB (FrP L A u n w q)
noncomputable def snB (L : SL) (A : AE) (u n w q : Nat) : Bool := dB (SnP L A u n w q)
theorem hit_fr {L : SL} {A : AE} {u n w q : Nat} (h : hit L A (frB L A u n) w q = true) : Rch L A u (n + 1) w q := by
  obtain ⟨st, h1, h2, ⟨p, h3, h4, h5⟩, h6⟩ := hit_iff.mp h
  exact ⟨st, h1, h2, ⟨p, (dB_iff.mp h4).1, h5⟩, h6⟩
theorem fr_hit {L : SL} {A : AE} {u n w q : Nat} (hL : StOk L) (hA : AEwf A) (hu : u < 10) (h : FrP L A u (n + 1) w q) : hit L A (frB L A u n) w q = true := by
  obtain ⟨⟨st, h1, h2, ⟨p, h3, h4⟩, h5⟩, h6⟩ := h
  refine hit_iff.mpr ⟨st, h1, h2, ⟨p, (Rch_lt hL hA hu h3).2, dB_iff.mpr ⟨h3, fun m hm hr => ?_⟩, h4⟩, h5⟩
  exact h6 (m + 1) (by omega) ⟨st, h1, h2, ⟨p, hr, h4⟩, h5⟩
theorem fr_next {L : SL} {A : AE} {u n : Nat} (hL : StOk L) (hA : AEwf A) (hu : u < 10) (w q : Nat) : frB L A u (n + 1) w q = (hit L A (frB L A u n) w q && !snB L A u n w q) := by
  rw [Bool.eq_iff_iff, Bool.and_eq_true, Bool.not_eq_true', Bool.eq_false_iff]
  unfold frB snB
  rw [dB_iff, Ne, dB_iff]
  constructor
  · intro h
    refine ⟨fr_hit hL hA hu h, ?_⟩
    rintro ⟨m, hm, hr⟩
    exact h.2 m (by omega) hr
  · rintro ⟨h1, h2⟩
    exact ⟨hit_fr h1, fun m hm hr => h2 ⟨m, by omega, hr⟩⟩
theorem sn_next {L : SL} {A : AE} {u n : Nat} (hL : StOk L) (hA : AEwf A) (hu : u < 10) (w q : Nat) : snB L A u (n + 1) w q = (snB L A u n w q || hit L A (frB L A u n) w q) := by
  rw [Bool.eq_iff_iff, Bool.or_eq_true]
  unfold snB
  rw [dB_iff, dB_iff]
  constructor
  · rintro ⟨m, hm, hr⟩
    by_cases hs : SnP L A u n w q
    · exact Or.inl hs
    · right
      have hmn : m = n + 1 := by
        by_cases g : m = n + 1
        · exact g
        · exact absurd ⟨m, by omega, hr⟩ hs
      subst hmn
      exact fr_hit hL hA hu ⟨hr, fun m' hm' hr' => hs ⟨m', by omega, hr'⟩⟩
  · rintro (⟨m, hm, hr⟩ | h)
    · exact ⟨m, by omega, hr⟩
    · exact ⟨n + 1, Nat.le_refl _, hit_fr h⟩
theorem sn_all {L : SL} {A : AE} {u n : Nat} (h : ∀ w q, ¬ FrP L A u (n + 1) w q) {m w q : Nat} (hr : Rch L A u m w q) : SnP L A u n w q := by
  induction m generalizing w q with
  | zero => exact ⟨0, Nat.zero_le _, hr⟩
  | succ m ih =>
    obtain ⟨st, h1, h2, ⟨p, h3, h4⟩, h5⟩ := hr
    obtain ⟨m', hm', hr'⟩ := ih h3
    have hr2 : Rch L A u (m' + 1) w q := ⟨st, h1, h2, ⟨p, hr', h4⟩, h5⟩
    by_cases hs : SnP L A u n w q
    · exact hs
    · exfalso
      have : m' + 1 = n + 1 := by
        by_cases g : m' + 1 ≤ n
        · exact absurd ⟨m' + 1, g, hr2⟩ hs
        · omega
      rw [this] at hr2
      exact h w q ⟨hr2, fun k hk hk2 => hs ⟨k, by omega, hk2⟩⟩
section MdFar2
variable {τ : Ty} {Q : Option Value → Ty → Prop} {G : Gr} {A : AE} {x u : Nat} {w : Option Nat}
theorem farOf_spec {v : Option Nat} (hx : x < 4) (hu : u < 10) (hv : ∀ y, v = some y → y < 10) (hG : MEd τ G) (hw : gF τ 63 32 = wI w) (hw2 : ∀ e, w = some e → e < 100) (hE : MEx τ x A)
    (h1 : ∀ y, v = some y → ∀ τ', OfM [78, 79, 80] [] τ τ' → Q (some (.int (wI (farO (stL G w) A u y)))) τ')
    (h2 : v = none → ∀ τ', OfM [78, 79, 80] [] τ τ' → (∀ y, y < 10 → MB (gI τ' 80 y) (fun q => dB (∃ m, Rch (stL G w) A u m y q))) → Q (some (.int (-1))) τ') :
    RT mX11_farOf none 0 [some (.ref 63), some (.int (nI x)), some (.int (nI u)), some (.int (wI v)), none, none, none] [] τ Q := by
  have hL := hG.ok w
  have hA := hE.2.2.2
  have main : ∀ d n τ' (x5 x6 : Option Value), n + d = 251 → OfM [78, 79, 80] [] τ τ' → (∀ y, y < 10 → MB (gI τ' 78 y) (frB (stL G w) A u n y)) → (∀ y, y < 10 → MB (gI τ' 80 y) (snB (stL G w) A u n y)) → n + 1 ≤ cntS (snB (stL G w) A u n) → (∀ y, v = some y → ∀ m q, m < n → Rch (stL G w) A u m y q → A.2.2.1 q = false) →
      RT mX11_farOf none 52 [some (.ref 63), some (.int (nI x)), some (.int (nI u)), some (.int (wI v)), some (.int (nI n)), x5, x6] [] τ' Q := by
    intro d
    induction d with
    | zero =>
      intro n τ' x5 x6 hn _ _ _ hc _
      have := cntS_le (snB (stL G w) A u n)
      omega
    | succ d ih =>
      intro n τ' x5 x6 hn hO hfr hsn hc hprev
      have hG' := hG.of hO (by decide)
      have hE' := hE.of hO (by decide)
      have hw' : gF τ' 63 32 = wI w := by rw [hO.2.2.1 32 (by decide)]; exact hw
      -- one level more
      have go : (∀ y, v = some y → ∀ m q, m < n + 1 → Rch (stL G w) A u m y q → A.2.2.1 q = false) → RT mX11_farOf none 83 [some (.ref 63), some (.int (nI x)), some (.int (nI u)), some (.int (wI v)), some (.int (nI n)), x5, x6] [] τ' Q := by
        intro hprev1
        refine rt_run 2 rfl ?_
        refine rt_cV (ci := 11) mX11_spreads kX11_farOf_85 okX11_spreads rfl rfl rfl rfl rfl ?_
        refine mspreads_spec (fr := frB (stL G w) A u n) hx hG' hw' hw2 hE' hfr (fun τ1 hO1 hl1 => ?_)
        have hOa : OfM [78, 79, 80] [] τ τ1 := hO.tr (hO1.up (by simp) (by simp))
        have fin : ∀ d2 y τ2 (more : Bool), y + d2 = 10 → OfM [78, 79, 80] [] τ τ2 → gI τ2 79 = gI τ1 79 → (∀ z, z < y → MB (gI τ2 78 z) (frB (stL G w) A u (n + 1) z) ∧ MB (gI τ2 80 z) (snB (stL G w) A u (n + 1) z)) → (∀ z, y ≤ z → z < 10 → MB (gI τ2 80 z) (snB (stL G w) A u n z)) → (more = true ↔ ∃ z q, z < y ∧ FrP (stL G w) A u (n + 1) z q) →
            RT mX11_farOf none 94 [some (.ref 63), some (.int (nI x)), some (.int (nI u)), some (.int (wI v)), some (.int (nI n)), some (.int (b01 more)), some (.int (nI y))] [] τ2 Q := by
          intro d2
          induction d2 with
          | zero =>
            intro y τ2 more hy hO2 h79 hdone hrest hmore
            have : y = 10 := by omega
            subst this
            refine rt_run 2 rfl ?_
            refine rt_ge 10 10 rfl (by omega) (by omega) (fun _ => ?_) (fun _ => by omega)
            refine rt_run 1 rfl ?_
            cases more with
            | false =>
              refine rt_if_ne rfl (fun hc => absurd rfl hc) (fun _ => ?_)
              refine rt_run 1 rfl ?_
              have hnone : ∀ z q, ¬ FrP (stL G w) A u (n + 1) z q := by
                intro z q hf
                have := (Rch_lt hL hA hu hf.1).1
                have := hmore.mpr ⟨z, q, by omega, hf⟩
                cases this
              cases hvv : v with
              | some y =>
                have hno : farO (stL G w) A u y = none := by
                  refine farO_no (fun m hb => ?_)
                  obtain ⟨q, r1, r2⟩ := Rch_run (k := 0) (w := u) (p := 0) ⟨rfl, rfl⟩ hb
                  obtain ⟨m', hm', hr'⟩ := sn_all hnone r1
                  rw [hprev1 y hvv m' q (by omega) hr'] at r2
                  cases r2
                have := h1 y hvv τ2 hO2
                rw [hno] at this
                exact rt_iret rfl rfl this
              | none =>
                refine rt_iret rfl rfl (h2 hvv τ2 hO2 (fun y hy j hj => ?_))
                rw [(hdone y hy).2 j hj, Bool.eq_iff_iff]
                unfold snB
                rw [dB_iff, dB_iff]
                constructor
                · rintro ⟨m, hm, hr⟩
                  exact ⟨m, hr⟩
                · rintro ⟨m, hr⟩
                  obtain ⟨m', hm', hr'⟩ := sn_all hnone hr
                  exact ⟨m', by omega, hr'⟩
            | true =>
              refine rt_if_ne rfl (fun _ => ?_) (fun hc => absurd hc (by decide))
              refine rt_run 2 rfl ?_
              rw [← nI_succ]
              obtain ⟨z, q, hz, hf⟩ := hmore.mp rfl
              refine ih (n + 1) τ2 _ _ (by omega) hO2 (fun y hy => (hdone y hy).1) (fun y hy => (hdone y hy).2) ?_ hprev1
              have hzq := Rch_lt hL hA hu hf.1
              have : cntS (snB (stL G w) A u n) < cntS (snB (stL G w) A u (n + 1)) := by
                refine countP_lt (fun p _ hp => ?_) (prs_mem hzq.1 hzq.2) ?_ ?_
                · rw [sn_next hL hA hu, hp]; rfl
                · rw [Bool.eq_false_iff]
                  intro hs
                  obtain ⟨m, hm, hr⟩ := dB_iff.mp hs
                  exact hf.2 m (by omega) hr
                · exact dB_iff.mpr ⟨n + 1, Nat.le_refl _, hf.1⟩
              omega
          | succ d2 ih2 =>
            intro y τ2 more hy hO2 h79 hdone hrest hmore
            refine rt_run 2 rfl ?_
            refine rt_ge y 10 rfl (by omega) (by omega) (fun _ => by omega) (fun _ => ?_)
            have hy10 : y < 10 := by omega
            have hly : MB (gI τ2 79 y) (hit (stL G w) A (frB (stL G w) A u n) y) := by rw [h79]; exact hl1 y hy10
            have hsy := hrest y (Nat.le_refl _) hy10
            refine rt_run 6 rfl ?_
            refine rt_ld y rfl (n := 10) rfl hy10 ?_
            refine rt_run 3 rfl ?_
            refine rt_ld y rfl (n := 10) rfl hy10 ?_
            refine rt_run 3 rfl ?_
            refine rt_st y rfl (n := 10) rfl hy10 ?_
            refine rt_run 4 rfl ?_
            refine rt_ld y rfl (n := 10) rfl hy10 ?_
            refine rt_run 3 rfl ?_
            refine rt_ld y rfl (n := 10) rfl hy10 ?_
            refine rt_run 1 rfl ?_
            refine rt_st y rfl (n := 10) rfl hy10 ?_
            have hnb : MB (gI τ2 79 y &&& (gI τ2 80 y ^^^ -1)) (frB (stL G w) A u (n + 1) y) := by
              intro j hj
              rw [b_and, b_not hj, hly j hj, hsy j hj, fr_next hL hA hu]
            have hns : MB (gI τ2 80 y ||| gI τ2 79 y) (snB (stL G w) A u (n + 1) y) := by
              intro j hj
              rw [b_or, hly j hj, hsy j hj, sn_next hL hA hu]
            have e78 : gI (sI (sI τ2 78 y (gI τ2 79 y &&& (gI τ2 80 y ^^^ -1))) 80 y (gI τ2 80 y ||| gI τ2 79 y)) 78 = upd (gI τ2 78) y (gI τ2 79 y &&& (gI τ2 80 y ^^^ -1)) := rfl
            have e80 : gI (sI (sI τ2 78 y (gI τ2 79 y &&& (gI τ2 80 y ^^^ -1))) 80 y (gI τ2 80 y ||| gI τ2 79 y)) 80 = upd (gI τ2 80) y (gI τ2 80 y ||| gI τ2 79 y) := rfl
            have e79 : gI (sI (sI τ2 78 y (gI τ2 79 y &&& (gI τ2 80 y ^^^ -1))) 80 y (gI τ2 80 y ||| gI τ2 79 y)) 79 = gI τ2 79 := rfl
            have hO3 : OfM [78, 79, 80] [] τ (sI (sI τ2 78 y (gI τ2 79 y &&& (gI τ2 80 y ^^^ -1))) 80 y (gI τ2 80 y ||| gI τ2 79 y)) := (hO2.sI (by simp) _ _).sI (by simp) _ _
            have next : ∀ more', (more' = true ↔ ∃ z q, z < y + 1 ∧ FrP (stL G w) A u (n + 1) z q) → RT mX11_farOf none 94 [some (.ref 63), some (.int (nI x)), some (.int (nI u)), some (.int (wI v)), some (.int (nI n)), some (.int (b01 more')), some (.int (nI y + 1))] [] (sI (sI τ2 78 y (gI τ2 79 y &&& (gI τ2 80 y ^^^ -1))) 80 y (gI τ2 80 y ||| gI τ2 79 y)) Q := by
              intro more' hm'
              rw [← nI_succ]
              refine ih2 (y + 1) _ more' (by omega) hO3 (by rw [e79]; exact h79) (fun z hz => ?_) (fun z hz hz10 => ?_) hm'
              · rw [e78, e80]
                by_cases hzy : z = y
                · subst hzy
                  rw [pk_us, pk_us]
                  exact ⟨hnb, hns⟩
                · rw [pk_un hzy, pk_un hzy]
                  exact hdone z (by omega)
              · rw [e80, pk_un (by omega)]
                exact hrest z (by omega) hz10
            have yes : (∃ z q, z < y + 1 ∧ FrP (stL G w) A u (n + 1) z q) → ∀ z5, RT mX11_farOf none 157 [some (.ref 63), some (.int (nI x)), some (.int (nI u)), some (.int (wI v)), some (.int (nI n)), some (.int z5), some (.int (nI y))] [] (sI (sI τ2 78 y (gI τ2 79 y &&& (gI τ2 80 y ^^^ -1))) 80 y (gI τ2 80 y ||| gI τ2 79 y)) Q := by
              intro hex z5
              refine rt_run 2 rfl ?_
              refine rt_run 3 rfl ?_
              exact next true ⟨fun _ => hex, fun _ => rfl⟩
            refine rt_run 1 rfl ?_
            cases more with
            | true =>
              obtain ⟨z, q, hz, hf⟩ := hmore.mp rfl
              exact rt_if_ne rfl (fun _ => yes ⟨z, q, by omega, hf⟩ _) (fun hc => absurd hc (by decide))
            | false =>
              have hnm : ∀ z q, z < y → ¬ FrP (stL G w) A u (n + 1) z q := by
                intro z q hz hf
                have := hmore.mpr ⟨z, q, hz, hf⟩
                cases this
              refine rt_if_ne rfl (fun hc => absurd rfl hc) (fun _ => ?_)
              refine rt_run 3 rfl ?_
              refine rt_ld y rfl (n := 10) rfl hy10 ?_
              have ey : gI (sI (sI τ2 78 y (gI τ2 79 y &&& (gI τ2 80 y ^^^ -1))) 80 y (gI τ2 80 y ||| gI τ2 79 y)) 78 y = gI τ2 79 y &&& (gI τ2 80 y ^^^ -1) := by rw [e78, pk_us]
              refine rt_if_eq rfl (fun hz0 => ?_) (fun hz0 => ?_)
              · have hz : gI τ2 79 y &&& (gI τ2 80 y ^^^ -1) = 0 := ey.symm.trans hz0
                refine rt_run 1 rfl ?_
                refine rt_run 3 rfl ?_
                refine next false ⟨(fun hc => by cases hc), ?_⟩
                rintro ⟨z, q, hz1, hf⟩
                exfalso
                by_cases hzy : z = y
                · subst hzy
                  have hq := (Rch_lt hL hA hu hf.1).2
                  obtain ⟨g1, g2⟩ := qm_pm hq
                  have := hnb (pmI q) (by omega)
                  rw [hz, b_0, g1] at this
                  rw [show frB (stL G w) A u (n + 1) z q = true from dB_iff.mpr hf] at this
                  cases this
                · exact hnm z q (by omega) hf
              · have hz : ¬ gI τ2 79 y &&& (gI τ2 80 y ^^^ -1) = 0 := fun g => hz0 (ey.trans g)
                refine yes ?_ _
                by_cases hh : ∃ j, j < 32 ∧ bt (gI τ2 79 y &&& (gI τ2 80 y ^^^ -1)) j = true
                · obtain ⟨j, hj, hb⟩ := hh
                  rw [hnb j hj] at hb
                  exact ⟨y, qm j, by omega, dB_iff.mp hb⟩
                · exfalso
                  refine hz (b_zero.mpr (fun j hj => ?_))
                  cases hb : bt (gI τ2 79 y &&& (gI τ2 80 y ^^^ -1)) j with
                  | false => rfl
                  | true => exact absurd ⟨j, hj, hb⟩ hh
        refine rt_run 4 rfl ?_
        refine fin 10 0 τ1 false rfl hOa rfl (fun z hz => by omega) (fun z _ hz => ?_) ⟨fun hc => (by cases hc), ?_⟩
        · rw [(hO1.1 80 (by decide)).1]; exact hsn z hz
        · rintro ⟨z, q, hz, -⟩
          omega
      refine rt_run 2 rfl ?_
      refine rt_ge n 260 rfl (by omega) (by omega) (fun _ => by omega) (fun _ => ?_)
      refine rt_run 1 rfl ?_
      cases hvv : v with
      | none =>
        rw [hvv] at go
        refine rt_if_lt rfl (fun _ => ?_) (fun hc => absurd (show wI none < 0 by decide) hc)
        exact go (fun y hy => by cases hy)
      | some y =>
        rw [hvv] at go
        have hy := hv y hvv
        refine rt_if_lt rfl (fun hc => absurd hc (nI_pos (n := y) (by omega))) (fun _ => ?_)
        refine rt_run 3 rfl ?_
        refine rt_ld y rfl (n := 10) rfl hy ?_
        refine rt_run 3 rfl ?_
        refine rt_ld x rfl (n := 4) rfl hx ?_
        refine rt_run 1 rfl ?_
        have hbit : ∀ j, j < 32 → bt (gI τ' 78 y &&& gI τ' 70 x) j = (frB (stL G w) A u n y (qm j) && A.2.2.1 (qm j)) := by
          intro j hj
          rw [b_and, hfr y hy j hj, hE'.2.2.1 j hj]
        refine rt_if_eq rfl (fun hz => ?_) (fun hz => ?_)
        · refine go (fun y' hy' m q hm hr => ?_)
          cases hy'
          by_cases hmn : m < n
          · exact hprev y hvv m q hmn hr
          · have : m = n := by omega
            subst this
            cases hl : A.2.2.1 q with
            | false => rfl
            | true =>
              exfalso
              have hfq : FrP (stL G w) A u m y q := ⟨hr, fun m' hm' hr' => by rw [hprev y hvv m' q hm' hr'] at hl; cases hl⟩
              have hq := (Rch_lt hL hA hu hr).2
              obtain ⟨g1, g2⟩ := qm_pm hq
              have := hbit (pmI q) (by omega)
              rw [hz, b_0, g1, hl, show frB (stL G w) A u m y q = true from dB_iff.mpr hfq] at this
              cases this
        · refine rt_run 1 rfl ?_
          have hh : ∃ j, j < 32 ∧ bt (gI τ' 78 y &&& gI τ' 70 x) j = true := by
            by_cases hh : ∃ j, j < 32 ∧ bt (gI τ' 78 y &&& gI τ' 70 x) j = true
            · exact hh
            · exfalso
              refine hz (b_zero.mpr (fun j hj => ?_))
              cases hb : bt (gI τ' 78 y &&& gI τ' 70 x) j with
              | false => rfl
              | true => exact absurd ⟨j, hj, hb⟩ hh
          obtain ⟨j, hj, hb⟩ := hh
          rw [hbit j hj, Bool.and_eq_true] at hb
          have hlev : Lev (stL G w) A y n u 0 := by
            refine ⟨?_, fun m hm hb2 => ?_⟩
            · have := Rch_Bk (dB_iff.mp hb.1).1 (show Bk (stL G w) A y 0 y (qm j) from ⟨rfl, hb.2⟩)
              exact this
            · obtain ⟨q, r1, r2⟩ := Rch_run (k := 0) (w := u) (p := 0) ⟨rfl, rfl⟩ hb2
              rw [Nat.zero_add] at r1
              rw [hprev y hvv m q hm r1] at r2
              cases r2
          have := h1 y hvv τ' hO
          rw [farO_so hlev] at this
          exact rt_iret rfl rfl this
  have loop0 : ∀ d y τ', y + d = 10 → OfM [78, 79, 80] [] τ τ' → (∀ z, z < y → MB (gI τ' 78 z) (frB (stL G w) A u 0 z) ∧ MB (gI τ' 80 z) (snB (stL G w) A u 0 z)) → RT mX11_farOf none 3 [some (.ref 63), some (.int (nI x)), some (.int (nI u)), some (.int (wI v)), some (.int (nI y)), none, none] [] τ' Q := by
    intro d
    induction d with
    | zero =>
      intro y τ' hy hO hd
      refine rt_run 2 rfl ?_
      refine rt_ge y 10 rfl (by omega) (by omega) (fun _ => ?_) (fun _ => by omega)
      refine rt_run 2 rfl ?_
      refine main 251 0 τ' none none rfl hO (fun z hz => (hd z (by omega)).1) (fun z hz => (hd z (by omega)).2) ?_ (fun y hy m q hm => by omega)
      have : 0 < cntS (snB (stL G w) A u 0) := List.countP_pos_iff.mpr ⟨(u, 0), prs_mem hu (by omega), dB_iff.mpr ⟨0, Nat.le_refl _, rfl, rfl⟩⟩
      omega
    | succ d ih =>
      intro y τ' hy hO hd
      have e0 : ∀ q, frB (stL G w) A u 0 y q = decide (y = u ∧ q = 0) := by
        intro q
        rw [Bool.eq_iff_iff, decide_eq_true_iff]
        unfold frB
        rw [dB_iff]
        exact ⟨fun h => h.1, fun h => ⟨h, fun m hm => by omega⟩⟩
      have e0' : ∀ q, snB (stL G w) A u 0 y q = decide (y = u ∧ q = 0) := by
        intro q
        rw [Bool.eq_iff_iff, decide_eq_true_iff]
        unfold snB
        rw [dB_iff]
        constructor
        · rintro ⟨m, hm, hr⟩
          have : m = 0 := by omega
          subst this
          exact hr
        · intro h
          exact ⟨0, Nat.le_refl _, h⟩
      have bits24 : ∀ j, j < 32 → bt (16777216 : Int32) j = decide (qm j = 0) := by decide +kernel
      have store : ∀ z : Int32, (∀ j, j < 32 → bt z j = decide (y = u ∧ qm j = 0)) → RT mX11_farOf none 28 [some (.ref 63), some (.int (nI x)), some (.int (nI u)), some (.int (wI v)), some (.int (nI y)), none, none] [.int z, .int (nI y), .ref 78] τ' Q := by
        intro z hz
        refine rt_st y rfl (n := 10) rfl (by omega) ?_
        refine rt_run 6 rfl ?_
        refine rt_ld y rfl (n := 10) rfl (by omega) ?_
        refine rt_st y rfl (n := 10) rfl (by omega) ?_
        refine rt_run 2 rfl ?_
        rw [← nI_succ]
        refine ih (y + 1) _ (by omega) ((hO.sI (by simp) _ _).sI (by simp) _ _) (fun s hs => ?_)
        have e78 : gI (sI (sI τ' 78 y z) 80 y (gI (sI τ' 78 y z) 78 y)) 78 = upd (gI τ' 78) y z := rfl
        have e80 : gI (sI (sI τ' 78 y z) 80 y (gI (sI τ' 78 y z) 78 y)) 80 = upd (gI τ' 80) y (upd (gI τ' 78) y z y) := rfl
        rw [e78, e80]
        by_cases hsy : s = y
        · subst hsy
          rw [pk_us, pk_us]
          exact ⟨fun j hj => by rw [e0, hz j hj], fun j hj => by rw [e0', hz j hj]⟩
        · rw [pk_un hsy, pk_un hsy]
          exact hd s (by omega)
      refine rt_run 2 rfl ?_
      refine rt_ge y 10 rfl (by omega) (by omega) (fun _ => by omega) (fun _ => ?_)
      refine rt_run 5 rfl ?_
      refine rt_ne y u rfl (by omega) (by omega) (fun hne => ?_) (fun heq => ?_)
      · refine rt_run 1 rfl ?_
        exact store 0 (fun j hj => by rw [b_0]; simp [hne])
      · refine rt_run 2 rfl ?_
        exact store _ (fun j hj => by rw [bits24 j hj]; simp [heq])
  refine rt_run 2 rfl ?_
  exact loop0 10 0 τ rfl (OfM.rf _ _ _) (fun z hz => by omega)
theorem endsOf_spec (hx : x < 4) (hu : u < 10) (hG : MEd τ G) (hw : gF τ 63 32 = wI w) (hw2 : ∀ e, w = some e → e < 100) (hE : MEx τ x A)
    (h : ∀ τ', OfM [78, 79, 80] [] τ τ' → Q (some (.int (vb (ansB (stL G w) A u) 10))) τ') : RT mX11_endsOf none 0 [some (.ref 63), some (.int (nI x)), some (.int (nI u)), none, none] [] τ Q := by
  refine rt_run 4 rfl ?_
  refine rt_cV (ci := 11) mX11_farOf kX11_endsOf_4 okX11_farOf rfl rfl rfl rfl rfl ?_
  refine farOf_spec (v := none) hx hu (fun y hy => by cases hy) hG hw hw2 hE (fun y hy => by cases hy) (fun _ τ1 hO1 hsn => ?_)
  have hE1 := hE.of hO1 (by decide)
  have hL := hG.ok w
  have loop : ∀ d v, v + d = 10 → RT mX11_endsOf none 13 [some (.ref 63), some (.int (nI x)), some (.int (nI u)), some (.int (vb (ansB (stL G w) A u) v)), some (.int (nI v))] [] τ1 Q := by
    intro d
    induction d with
    | zero =>
      intro v hv
      have : v = 10 := by omega
      subst this
      refine rt_run 2 rfl ?_
      refine rt_ge 10 10 rfl (by omega) (by omega) (fun _ => ?_) (fun _ => by omega)
      refine rt_run 1 rfl ?_
      exact rt_iret rfl rfl (h τ1 hO1)
    | succ d ih =>
      intro v hv
      refine rt_run 2 rfl ?_
      refine rt_ge v 10 rfl (by omega) (by omega) (fun _ => by omega) (fun _ => ?_)
      have hih := ih (v + 1) (by omega)
      rw [nI_succ] at hih
      unfold vb at hih
      refine rt_run 4 rfl ?_
      refine rt_ld v rfl (n := 10) rfl (by omega) ?_
      refine rt_run 3 rfl ?_
      refine rt_ld x rfl (n := 4) rfl hx ?_
      refine rt_run 1 rfl ?_
      have hbit : ∀ j, j < 32 → bt (gI τ1 80 v &&& gI τ1 70 x) j = (dB (∃ m, Rch (stL G w) A u m v (qm j)) && A.2.2.1 (qm j)) := by
        intro j hj
        rw [b_and, hsn v (by omega) j hj, hE1.2.2.1 j hj]
      refine rt_if_eq rfl (fun hz => ?_) (fun hz => ?_)
      · have : ansB (stL G w) A u v = false := by
          rw [Bool.eq_false_iff]
          intro ha
          obtain ⟨m, q, r1, r2⟩ := ansB_iff.mp ha
          have hq := (Rch_lt hL hE.2.2.2 hu r1).2
          obtain ⟨g1, g2⟩ := qm_pm hq
          have := hbit (pmI q) (by omega)
          rw [hz, b_0, g1, r2, dB_iff.mpr ⟨m, r1⟩] at this
          cases this
        rw [this, if_neg (by decide)] at hih
        refine rt_run 1 rfl ?_
        refine rt_run 4 rfl ?_
        rw [Int32.or_zero]
        exact hih
      · have : ansB (stL G w) A u v = true := by
          by_cases hh : ∃ j, j < 32 ∧ bt (gI τ1 80 v &&& gI τ1 70 x) j = true
          · obtain ⟨j, hj, hb⟩ := hh
            rw [hbit j hj, Bool.and_eq_true] at hb
            obtain ⟨m, hm⟩ := dB_iff.mp hb.1
            exact ansB_iff.mpr ⟨m, qm j, hm, hb.2⟩
          · exfalso
            refine hz (b_zero.mpr (fun j hj => ?_))
            cases hb : bt (gI τ1 80 v &&& gI τ1 70 x) j with
            | false => rfl
            | true => exact absurd ⟨j, hj, hb⟩ hh
        rw [this, if_pos rfl] at hih
        refine rt_run 4 rfl ?_
        refine rt_run 4 rfl ?_
        exact hih
  refine rt_run 5 rfl ?_
  exact loop 10 0 rfl
end MdFar2

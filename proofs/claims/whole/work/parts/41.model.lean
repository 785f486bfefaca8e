/-! the reference: its state beside the class's; its small methods -/
/-- the reference's bit j as a place: bit 24 is the beginning -/
def qm (j : Nat) : Nat := if j = 24 then 0 else j + 1
def MB (x : Int32) (S : Nat → Bool) : Prop := ∀ j, j < 32 → bt x j = S (qm j)
def MEd (τ : Ty) (G : Gr) : Prop := gF τ 63 1 = nI G.length ∧ (∀ i q, G[i]? = some q → gI τ 64 (3 * i) = nI q.1 ∧ gI τ 64 (3 * i + 1) = nI q.2.1 ∧ gI τ 64 (3 * i + 2) = nI q.2.2) ∧ G.length ≤ 30 ∧ ∀ q ∈ G, q.1 < 10 ∧ q.2.1 < 4 ∧ q.2.2 < 10
def MTx (τ : Ty) (T : List Nat) : Prop := gF τ 63 4 = nI T.length ∧ T.length ≤ 80 ∧ ∀ i b, T[i]? = some b → b < 128 ∧ gI τ 66 i = nI b
def MEx (τ : Ty) (x : Nat) (A : AE) : Prop := (∀ p, p < 25 → MB (gI τ 68 (25 * x + p)) (A.1 (qm p))) ∧ (∀ s, s < 8 → MB (gI τ 69 (8 * x + s)) (A.2.1 s)) ∧ MB (gI τ 70 x) A.2.2.1 ∧ AEwf A
def MXs (τ : Ty) (X : Nat → Option AE) : Prop := ∀ x, x < 4 → match X x with
  | none => gI τ 67 x = -1
  | some A => gI τ 67 x = nI A.2.2.2 ∧ MEx τ x A
def MS0 (τ : Ty) (a : AS) : Prop := gF τ 63 9 = wI (aW a) ∧ (∀ x, aW a = some x → x < 4 ∧ (aX a x).isSome = true) ∧ gF τ 63 11 = aC a ∧ gF τ 63 12 = aLo a
def MCt (τ : Ty) (a : AS) : Prop := gI τ 65 0 = aB a ∧ gI τ 65 1 = aN a ∧ gI τ 65 2 = aF a
/-- the state but for its standing answers -/
def MI1 (τ : Ty) (a : AS) : Prop := MEd τ (aG a) ∧ MTx τ (aT a) ∧ MXs τ (aX a) ∧ MS0 τ a ∧ MCt τ a ∧ gF τ 63 32 = -1
def MIs (τ : Ty) (a : AS) : Prop := MI1 τ a ∧ ∀ u, u < 10 → gI τ 71 u = rowI (aG a) (aX a) (aW a) u
/-- the class's cells are as they were -/
def OffD (τ τ' : Ty) : Prop := (∀ k, k < 63 → gI τ' k = gI τ k ∧ gL τ' k = gL τ k ∧ gF τ' k = gF τ k) ∧ gW τ' = gW τ
theorem OffD.rf (τ : Ty) : OffD τ τ := ⟨fun _ _ => ⟨rfl, rfl, rfl⟩, rfl⟩
theorem OffD.tr {τ τ' τ'' : Ty} (h : OffD τ τ') (h' : OffD τ' τ'') : OffD τ τ'' :=
  ⟨fun k hk => ⟨(h'.1 k hk).1.trans (h.1 k hk).1, (h'.1 k hk).2.1.trans (h.1 k hk).2.1, (h'.1 k hk).2.2.trans (h.1 k hk).2.2⟩, h'.2.trans h.2⟩
theorem Off.d {ks : List Nat} {τ τ' : Ty} (h : Off ks τ τ') (hs : ∀ k ∈ ks, 63 ≤ k) : OffD τ τ' := ⟨fun k hk => h.1 k (fun hin => by have := hs k hin; omega), h.2⟩
/-- only these cells have changed, and these fields of the reference -/
def OfM (ks fs : List Nat) (τ τ' : Ty) : Prop := (∀ k, k ∉ ks → gI τ' k = gI τ k ∧ gL τ' k = gL τ k) ∧ (∀ k, k ≠ 63 → gF τ' k = gF τ k) ∧ (∀ j, j ∉ fs → gF τ' 63 j = gF τ 63 j) ∧ gW τ' = gW τ
theorem OfM.rf (ks fs : List Nat) (τ : Ty) : OfM ks fs τ τ := ⟨fun _ _ => ⟨rfl, rfl⟩, fun _ _ => rfl, fun _ _ => rfl, rfl⟩
theorem OfM.tr {ks fs : List Nat} {τ τ' τ'' : Ty} (h : OfM ks fs τ τ') (h' : OfM ks fs τ' τ'') : OfM ks fs τ τ'' :=
  ⟨fun k hk => ⟨(h'.1 k hk).1.trans (h.1 k hk).1, (h'.1 k hk).2.trans (h.1 k hk).2⟩, fun k hk => (h'.2.1 k hk).trans (h.2.1 k hk), fun j hj => (h'.2.2.1 j hj).trans (h.2.2.1 j hj), h'.2.2.2.trans h.2.2.2⟩
theorem OfM.up {ks fs ks' fs' : List Nat} {τ τ' : Ty} (h : OfM ks fs τ τ') (h1 : ∀ k ∈ ks, k ∈ ks') (h2 : ∀ k ∈ fs, k ∈ fs') : OfM ks' fs' τ τ' :=
  ⟨fun k hk => h.1 k (fun g => hk (h1 k g)), h.2.1, fun j hj => h.2.2.1 j (fun g => hj (h2 j g)), h.2.2.2⟩
theorem OfM.d {ks fs : List Nat} {τ τ' : Ty} (h : OfM ks fs τ τ') (hs : ∀ k ∈ ks, 63 ≤ k) : OffD τ τ' :=
  ⟨fun k hk => ⟨(h.1 k (fun hin => by have := hs k hin; omega)).1, (h.1 k (fun hin => by have := hs k hin; omega)).2, h.2.1 k (by omega)⟩, h.2.2.2⟩
theorem OfM.sI {ks fs : List Nat} {τ τ' : Ty} {k : Nat} (h : OfM ks fs τ τ') (hk : k ∈ ks) (j : Nat) (x : Int32) : OfM ks fs τ (sI τ' k j x) := by
  refine ⟨fun k' hk' => ⟨?_, (h.1 k' hk').2⟩, h.2⟩
  rw [gI_sI, if_neg (show ¬ k' = k from fun e => hk' (e ▸ hk))]
  exact (h.1 k' hk').1
theorem OfM.sL {ks fs : List Nat} {τ τ' : Ty} {k : Nat} (h : OfM ks fs τ τ') (hk : k ∈ ks) (j : Nat) (x : Int64) : OfM ks fs τ (sL τ' k j x) := by
  refine ⟨fun k' hk' => ⟨(h.1 k' hk').1, ?_⟩, h.2⟩
  rw [gL_sL, if_neg (show ¬ k' = k from fun e => hk' (e ▸ hk))]
  exact (h.1 k' hk').2
theorem OfM.sF {ks fs : List Nat} {τ τ' : Ty} {j : Nat} (h : OfM ks fs τ τ') (hj : j ∈ fs) (x : Int32) : OfM ks fs τ (sF τ' 63 j x) := by
  refine ⟨h.1, fun k hk => ?_, fun j' hj' => ?_, h.2.2.2⟩
  · rw [gF_sF, if_neg hk]; exact h.2.1 k hk
  · rw [gF_sF, if_pos rfl, pk_un (show j' ≠ j from fun e => hj' (e ▸ hj))]; exact h.2.2.1 j' hj'
theorem qm_inj {i j : Nat} (h : qm i = qm j) (hi : i < 25) (hj : j < 25) : i = j := by
  unfold qm at h
  split at h <;> split at h <;> omega
def pmI (p : Nat) : Nat := if p = 0 then 24 else p - 1
theorem qm_pm {p : Nat} (hp : p < 25) : qm (pmI p) = p ∧ pmI p < 25 := by
  unfold qm pmI
  by_cases h : p = 0
  · subst h; exact ⟨rfl, by decide⟩
  · rw [if_neg h]
    exact ⟨by rw [if_neg (by omega)]; omega, by omega⟩
theorem qm_lt {j : Nat} (hj : j < 25) : qm j < 25 := by
  unfold qm
  split <;> omega
theorem qm_ge {j : Nat} (hj : 25 ≤ j) : 26 ≤ qm j := by
  unfold qm
  rw [if_neg (by omega)]
  omega
theorem any_qm (f : Nat → Bool) : (List.range 25).any (fun p => f (qm p)) = (List.range 25).any f := by
  rw [Bool.eq_iff_iff]
  simp only [List.any_eq_true, List.mem_range]
  constructor
  · rintro ⟨p, hp, h⟩
    exact ⟨qm p, qm_lt hp, h⟩
  · rintro ⟨p, hp, h⟩
    exact ⟨pmI p, (qm_pm hp).2, by rw [(qm_pm hp).1]; exact h⟩
section MdSmall
variable {τ : Ty} {Q : Option Value → Ty → Prop}
theorem in_gen {x lo hi : Int32} (h0 : (x < lo ∨ hi < x) → Q (some (.int 0)) τ) (h1 : ¬ x < lo → ¬ hi < x → Q (some (.int 1)) τ) : RT mX11_in none 0 [some (.int x), some (.int lo), some (.int hi)] [] τ Q := by
  have no : (x < lo ∨ hi < x) → RT mX11_in none 14 [some (.int x), some (.int lo), some (.int hi)] [] τ Q := by
    intro hh
    refine rt_run 1 rfl ?_
    exact rt_zret rfl rfl (Or.inl rfl) (h0 hh)
  refine rt_run 2 rfl ?_
  refine rt_ic_lt rfl (fun hc => no (Or.inl hc)) (fun hc => ?_)
  refine rt_run 2 rfl ?_
  refine rt_ic_gt rfl (fun hd => no (Or.inr hd)) (fun hd => ?_)
  refine rt_run 2 rfl ?_
  exact rt_zret rfl rfl (Or.inr rfl) (h1 hc hd)
theorem in_spec {x hi : Int32} (n : Nat) (hn : n < 2 ^ 31) (hh : hi = nI n - 1) (h0 : rn n x = none → Q (some (.int 0)) τ) (h1 : ∀ j, j < n → x = nI j → Q (some (.int 1)) τ) : RT mX11_in none 0 [some (.int x), some (.int 0), some (.int hi)] [] τ Q := by
  have ehi : hi.toInt = (n : Int) - 1 := by
    subst hh
    cases n with
    | zero => decide
    | succ n => rw [nI_pred, nI_toInt (by omega)]; omega
  refine in_gen (fun hc => h0 ?_) (fun hc hd => ?_)
  · refine rn_out ?_
    rcases hc with hc | hc
    · exact Or.inl hc
    · right
      rw [Int32.lt_iff_toInt_lt] at hc
      rw [Int32.le_iff_toInt_le, nI_toInt hn]
      omega
  · rcases pk_ix x (n := n) hn with g | g | ⟨j, hj, e⟩
    · exact absurd g hc
    · exfalso
      rw [Int32.lt_iff_toInt_lt] at hd
      rw [Int32.le_iff_toInt_le, nI_toInt hn] at g
      omega
    · exact h1 j hj e
theorem mVertex_spec {x : Int32} (h0 : rn 10 x = none → Q (some (.int 0)) τ) (h1 : ∀ j, j < 10 → x = nI j → Q (some (.int 1)) τ) : RT mX11_isVertex none 0 [some (.int x)] [] τ Q := by
  refine rt_run 3 rfl ?_
  refine rt_cS mX11_in kX11_isVertex_4 okX11_in rfl rfl ?_
  exact in_spec 10 (by decide) rfl (fun e => rt_zret rfl rfl (Or.inl rfl) (h0 e)) (fun j hj e => rt_zret rfl rfl (Or.inr rfl) (h1 j hj e))
theorem mOne_spec {x : Int32} (h0 : rn 4 x = none → Q (some (.int 0)) τ) (h1 : ∀ j, j < 4 → x = nI j → Q (some (.int 1)) τ) : RT mX11_isOne none 0 [some (.int x)] [] τ Q := by
  refine rt_run 3 rfl ?_
  refine rt_cS mX11_in kX11_isOne_3 okX11_in rfl rfl ?_
  exact in_spec 4 (by decide) rfl (fun e => rt_zret rfl rfl (Or.inl rfl) (h0 e)) (fun j hj e => rt_zret rfl rfl (Or.inr rfl) (h1 j hj e))
theorem refuses_gen {r : Int32} {i : Nat} (hi : i < 3) (hr : -2 - r = nI i) (h : Q (some (.int r)) (sI τ 65 i (gI τ 65 i + 1))) : RT mX11_refuses none 0 [some (.ref 63), some (.int r)] [] τ Q := by
  refine rt_run 6 rfl ?_
  refine rt_ld i rfl (n := 3) rfl hi ?_ hr
  refine rt_run 2 rfl ?_
  refine rt_st i rfl (n := 3) rfl hi ?_ hr
  refine rt_run 1 rfl ?_
  exact rt_iret rfl rfl h
/-- how many bits below n, as the reference adds them -/
def onI (x : Int32) : Int32 := smI (fun k => if bt x k = true then 1 else 0) 25
theorem ones_spec {x : Int32} (h : Q (some (.int (onI x))) τ) : RT mX11_ones none 0 [some (.int x), none, none] [] τ Q := by
  have loop : ∀ d k, k + d = 25 → RT mX11_ones none 4 [some (.int x), some (.int (smI (fun k => if bt x k = true then 1 else 0) k)), some (.int (nI k))] [] τ Q := by
    intro d
    induction d with
    | zero =>
      intro k hk
      have : k = 25 := by omega
      subst this
      refine rt_run 2 rfl ?_
      refine rt_ge 25 25 rfl (by omega) (by omega) (fun _ => ?_) (fun _ => by omega)
      refine rt_run 1 rfl ?_
      exact rt_iret rfl rfl h
    | succ d ih =>
      intro k hk
      refine rt_run 2 rfl ?_
      refine rt_ge k 25 rfl (by omega) (by omega) (fun _ => by omega) (fun _ => ?_)
      refine rt_run 10 rfl ?_
      have := ih (k + 1) (by omega)
      rw [show smI (fun k => if bt x k = true then 1 else 0) (k + 1) = smI (fun k => if bt x k = true then 1 else 0) k + (if bt x k = true then 1 else 0) from rfl, ← b_t1 (show k < 32 by omega), nI_succ] at this
      exact this
  refine rt_run 4 rfl ?_
  exact loop 25 0 rfl
variable {G : Gr}
theorem fromOf_spec {e : Nat} (hG : MEd τ G) (he : e < G.length) (h : ∀ q, G[e]? = some q → Q (some (.int (nI q.1))) τ) : RT mX11_fromOf none 0 [some (.ref 63), some (.int (nI e))] [] τ Q := by
  have hq : G[e]? = some G[e] := List.getElem?_eq_getElem he
  have hl := hG.2.2.1
  refine rt_run 5 rfl ?_
  refine rt_ld (3 * e) rfl (n := 90) rfl (by omega) ?_ (by rw [← pk_mul]; rfl)
  rw [(hG.2.1 e _ hq).1]
  exact rt_iret rfl rfl (h _ hq)
theorem letterOf_spec {e : Nat} (hG : MEd τ G) (he : e < G.length) (h : ∀ q, G[e]? = some q → Q (some (.int (nI q.2.1))) τ) : RT mX11_letterOf none 0 [some (.ref 63), some (.int (nI e))] [] τ Q := by
  have hq : G[e]? = some G[e] := List.getElem?_eq_getElem he
  have hl := hG.2.2.1
  refine rt_run 7 rfl ?_
  refine rt_ld (3 * e + 1) rfl (n := 90) rfl (by omega) ?_ (by rw [← nI_add, ← pk_mul]; rfl)
  rw [(hG.2.1 e _ hq).2.1]
  exact rt_iret rfl rfl (h _ hq)
theorem toOf_spec {e : Nat} (hG : MEd τ G) (he : e < G.length) (h : ∀ q, G[e]? = some q → Q (some (.int (nI q.2.2))) τ) : RT mX11_toOf none 0 [some (.ref 63), some (.int (nI e))] [] τ Q := by
  have hq : G[e]? = some G[e] := List.getElem?_eq_getElem he
  have hl := hG.2.2.1
  refine rt_run 7 rfl ?_
  refine rt_ld (3 * e + 2) rfl (n := 90) rfl (by omega) ?_ (by rw [← nI_add, ← pk_mul]; rfl)
  rw [(hG.2.1 e _ hq).2.2]
  exact rt_iret rfl rfl (h _ hq)
theorem isThere_spec {u l v : Nat} (hG : MEd τ G) (hu : u < 10) (hl : l < 4) (hv : v < 10) (h : Q (some (.int (b01 (decide ((u, l, v) ∈ G))))) τ) : RT mX11_isThere none 0 [some (.ref 63), some (.int (nI u)), some (.int (nI l)), some (.int (nI v)), none, none] [] τ Q := by
  have hlen := hG.2.2.1
  have loop : ∀ d i, i + d = G.length → RT mX11_isThere none 6 [some (.ref 63), some (.int (nI u)), some (.int (nI l)), some (.int (nI v)), some (.int (b01 (decide ((u, l, v) ∈ G.take i)))), some (.int (nI i))] [] τ Q := by
    intro d
    induction d with
    | zero =>
      intro i hi
      refine rt_run 3 rfl ?_
      refine rt_ge i G.length rfl (by omega) (by omega) (fun _ => ?_) (fun _ => by omega) rfl hG.1
      refine rt_run 1 rfl ?_
      rw [List.take_of_length_le (by omega)]
      refine rt_zret rfl rfl ?_ h
      cases decide ((u, l, v) ∈ G)
      · exact Or.inl rfl
      · exact Or.inr rfl
    | succ d ih =>
      intro i hi
      refine rt_run 3 rfl ?_
      refine rt_ge i G.length rfl (by omega) (by omega) (fun _ => by omega) (fun hlt => ?_) rfl hG.1
      have hq : G[i]? = some G[i] := List.getElem?_eq_getElem hlt
      have hb := hG.2.2.2 _ (List.getElem_mem hlt)
      have hmem : (u, l, v) ∈ G.take (i + 1) ↔ ((u, l, v) ∈ G.take i ∨ (u, l, v) = G[i]) := by
        rw [List.take_add_one, hq, List.mem_append]
        simp
      have hih := ih (i + 1) (by omega)
      have yes : ((u, l, v) ∈ G.take i ∨ (u, l, v) = G[i]) → ∀ z, RT mX11_isThere none 50 [some (.ref 63), some (.int (nI u)), some (.int (nI l)), some (.int (nI v)), some (.int z), some (.int (nI i))] [] τ Q := by
        intro hc z
        rw [decide_eq_true (hmem.mpr hc), nI_succ i] at hih
        refine rt_run 2 rfl ?_
        refine rt_run 3 rfl ?_
        exact hih
      have nope : ¬ ((u, l, v) ∈ G.take i ∨ (u, l, v) = G[i]) → ∀ z, RT mX11_isThere none 54 [some (.ref 63), some (.int (nI u)), some (.int (nI l)), some (.int (nI v)), some (.int z), some (.int (nI i))] [] τ Q := by
        intro hc z
        rw [decide_eq_false (fun g => hc (hmem.mp g)), nI_succ i] at hih
        refine rt_run 1 rfl ?_
        refine rt_run 3 rfl ?_
        exact hih
      refine rt_run 1 rfl ?_
      by_cases hm : (u, l, v) ∈ G.take i
      · rw [decide_eq_true hm]
        exact rt_if_ne rfl (fun _ => yes (Or.inl hm) _) (fun hc => absurd hc (by decide))
      rw [decide_eq_false hm]
      refine rt_if_ne rfl (fun hc => absurd rfl hc) (fun _ => ?_)
      refine rt_run 2 rfl ?_
      refine rt_cV (ci := 11) mX11_fromOf kX11_isThere_23 okX11_fromOf rfl rfl rfl rfl rfl ?_
      refine fromOf_spec hG hlt (fun q e1 => ?_)
      rw [hq] at e1
      cases e1
      refine rt_run 1 rfl ?_
      refine rt_ne G[i].1 u rfl (by omega) (by omega) (fun hne => nope ?_ _) (fun e1 => ?_)
      · rintro (g | g)
        · exact hm g
        · exact hne (by rw [← g])
      refine rt_run 2 rfl ?_
      refine rt_cV (ci := 11) mX11_letterOf kX11_isThere_33 okX11_letterOf rfl rfl rfl rfl rfl ?_
      refine letterOf_spec hG hlt (fun q e2 => ?_)
      rw [hq] at e2
      cases e2
      refine rt_run 1 rfl ?_
      refine rt_ne G[i].2.1 l rfl (by omega) (by omega) (fun hne => nope ?_ _) (fun e2 => ?_)
      · rintro (g | g)
        · exact hm g
        · exact hne (by rw [← g])
      refine rt_run 2 rfl ?_
      refine rt_cV (ci := 11) mX11_toOf kX11_isThere_43 okX11_toOf rfl rfl rfl rfl rfl ?_
      refine toOf_spec hG hlt (fun q e3 => ?_)
      rw [hq] at e3
      cases e3
      refine rt_run 1 rfl ?_
      refine rt_ne G[i].2.2 v rfl (by omega) (by omega) (fun hne => nope ?_ _) (fun e3 => yes (Or.inr ?_) _)
      · rintro (g | g)
        · exact hm g
        · exact hne (by rw [← g])
      · rw [← e1, ← e2, ← e3]
  refine rt_run 4 rfl ?_
  exact loop G.length 0 (by omega)
theorem adds_spec {u l v : Nat} (hG : MEd τ G) (hu : u < 10) (hl : l < 4) (hv : v < 10) (hlen : G.length < 30) (h : ∀ τ', OfM [64] [1] τ τ' → MEd τ' (G ++ [(u, l, v)]) → Q none τ') : RT mX11_adds none 0 [some (.ref 63), some (.int (nI u)), some (.int (nI l)), some (.int (nI v))] [] τ Q := by
  have hm := hG.1
  refine rt_run 7 rfl ?_
  refine rt_st (3 * G.length) rfl (n := 90) rfl (by omega) ?_ (by rw [hm, ← pk_mul]; rfl)
  refine rt_run 9 rfl ?_
  refine rt_st (3 * G.length + 1) rfl (n := 90) rfl (by omega) ?_ (by rw [show gF (sI τ 64 (3 * G.length) (nI u)) 63 1 = nI G.length from hm, ← nI_add, ← pk_mul]; rfl)
  refine rt_run 9 rfl ?_
  refine rt_st (3 * G.length + 2) rfl (n := 90) rfl (by omega) ?_ (by rw [show gF (sI (sI τ 64 (3 * G.length) (nI u)) 64 (3 * G.length + 1) (nI l)) 63 1 = nI G.length from hm, ← nI_add, ← pk_mul]; rfl)
  refine rt_run 6 rfl ?_
  refine rt_vret rfl rfl (h _ (((((OfM.rf _ _ _).sI (by simp) _ _).sI (by simp) _ _).sI (by simp) _ _).sF (by simp) _) ⟨?_, fun i q hq => ?_, by rw [List.length_append]; exact hlen, fun q hq => ?_⟩)
  · rw [gF_sF, if_pos rfl, pk_us, List.length_append]
    show gF τ 63 1 + 1 = nI (G.length + 1)
    rw [hm, ← nI_succ]
  · show upd (upd (upd (gI τ 64) _ _) _ _) _ _ _ = _ ∧ upd (upd (upd (gI τ 64) _ _) _ _) _ _ _ = _ ∧ upd (upd (upd (gI τ 64) _ _) _ _) _ _ _ = _
    rcases getApp hq with ⟨hi, hq⟩ | ⟨rfl, rfl⟩
    · rw [pk_un (by omega), pk_un (by omega), pk_un (by omega), pk_un (by omega), pk_un (by omega), pk_un (by omega), pk_un (by omega), pk_un (by omega), pk_un (by omega)]
      exact hG.2.1 i q hq
    · refine ⟨?_, ?_, ?_⟩
      · rw [pk_un (by omega), pk_un (by omega), pk_us]
      · rw [pk_un (by omega), pk_us]
      · rw [pk_us]
  · rcases List.mem_append.mp hq with hq | hq
    · exact hG.2.2.2 q hq
    · simp at hq
      subst hq
      exact ⟨hu, hl, hv⟩
variable {A : AE} {x : Nat}
theorem goes_spec {s : Nat} {set : Int32} {S : Nat → Bool} (hx : x < 4) (hs : s < 8) (hE : MEx τ x A) (hS : MB set S) (h : ∀ r : Int32, MB r (fun q => nxt A S q && A.2.1 s q) → Q (some (.int r)) τ) : RT mX11_goes none 0 [some (.ref 63), some (.int (nI x)), some (.int set), some (.int (nI s)), none, none] [] τ Q := by
  have loop : ∀ d p, p + d = 25 → RT mX11_goes none 6 [some (.ref 63), some (.int (nI x)), some (.int set), some (.int (nI s)), some (.int (orL (fun p => gI τ 68 (25 * x + p)) set p)), some (.int (nI p))] [] τ Q := by
    intro d
    induction d with
    | zero =>
      intro p hp
      have : p = 25 := by omega
      subst this
      refine rt_run 2 rfl ?_
      refine rt_ge 25 25 rfl (by omega) (by omega) (fun _ => ?_) (fun _ => by omega)
      refine rt_run 8 rfl ?_
      refine rt_ld (8 * x + s) rfl (n := 32) rfl (by omega) ?_ (by rw [← nI_add, ← pk_mul]; rfl)
      refine rt_run 1 rfl ?_
      refine rt_iret rfl rfl (h _ (fun j hj => ?_))
      rw [b_and, orL_bt, hE.2.1 s hs j hj]
      congr 1
      unfold nxt
      rw [← any_qm (fun p => S p && A.1 p (qm j))]
      refine any_ext (Nat.le_refl _) (fun p hp => ?_) (fun p h1 h2 => by omega)
      rw [hS p (by omega), hE.1 p hp j hj]
    | succ d ih =>
      intro p hp
      refine rt_run 2 rfl ?_
      refine rt_ge p 25 rfl (by omega) (by omega) (fun _ => by omega) (fun _ => ?_)
      refine rt_run 7 rfl ?_
      have hih := ih (p + 1) (by omega)
      rw [nI_succ] at hih
      rw [b_t1 (by omega)]
      unfold orL at hih
      cases hb : bt set p with
      | true =>
        rw [hb, if_pos rfl] at hih
        refine rt_ic_ne rfl (fun hc => absurd rfl hc) (fun _ => ?_)
        refine rt_run 7 rfl ?_
        refine rt_ld (25 * x + p) rfl (n := 100) rfl (by omega) ?_ (by rw [← nI_add, ← pk_mul]; rfl)
        refine rt_run 1 rfl ?_
        refine rt_run 4 rfl ?_
        exact hih
      | false =>
        rw [hb, if_neg (by decide)] at hih
        refine rt_ic_ne rfl (fun _ => ?_) (fun hc => absurd hc (by decide))
        refine rt_run 1 rfl ?_
        refine rt_run 4 rfl ?_
        rw [Int32.or_zero]
        exact hih
  refine rt_run 4 rfl ?_
  exact loop 25 0 rfl
def MBp (x : Int32) (P : Nat → Prop) : Prop := ∀ j, j < 32 → (bt x j = true ↔ P (qm j))
theorem comes_spec {s : Nat} {set : Int32} {P : Nat → Prop} (hx : x < 4) (hs : s < 8) (hE : MEx τ x A) (hS : MBp set P) (h : ∀ r : Int32, MBp r (fun p => ∃ q, A.1 p q = true ∧ A.2.1 s q = true ∧ P q) → Q (some (.int r)) τ) : RT mX11_comes none 0 [some (.ref 63), some (.int (nI x)), some (.int set), some (.int (nI s)), none, none, none] [] τ Q := by
  refine rt_run 8 rfl ?_
  refine rt_ld (8 * x + s) rfl (n := 32) rfl (by omega) ?_ (by rw [← nI_add, ← pk_mul]; rfl)
  refine rt_run 6 rfl ?_
  generalize hdue : set &&& gI τ 69 (8 * x + s) = due
  have hn := hE.2.2.2
  have loop : ∀ d p, p + d = 25 → RT mX11_comes none 21 [some (.ref 63), some (.int (nI x)), some (.int set), some (.int (nI s)), some (.int due), some (.int (ahL (fun p => gI τ 68 (25 * x + p)) due p)), some (.int (nI p))] [] τ Q := by
    intro d
    induction d with
    | zero =>
      intro p hp
      have : p = 25 := by omega
      subst this
      refine rt_run 2 rfl ?_
      refine rt_ge 25 25 rfl (by omega) (by omega) (fun _ => ?_) (fun _ => by omega)
      refine rt_run 1 rfl ?_
      refine rt_iret rfl rfl (h _ (fun j hj => ?_))
      rw [ahL_bt _ _ _ (by omega) hj, Bool.and_eq_true, decide_eq_true_iff]
      constructor
      · rintro ⟨hj25, h2⟩
        rw [andNz, List.any_eq_true] at h2
        obtain ⟨i, hi, h3⟩ := h2
        have hi := List.mem_range.mp hi
        rw [← hdue, b_and, Bool.and_eq_true, Bool.and_eq_true, hE.1 j hj25 i hi, hE.2.1 s hs i hi] at h3
        exact ⟨qm i, h3.1, h3.2.2, (hS i hi).mp h3.2.1⟩
      · rintro ⟨q, g1, g2, g3⟩
        have hq := hn.2.1 _ _ g1
        have hq24 : q ≤ 24 := by have := hn.1; omega
        have hj25 : j < 25 := by
          by_cases hh : j < 25
          · exact hh
          · have := qm_ge (j := j) (by omega)
            have := hn.1
            omega
        refine ⟨hj25, ?_⟩
        rw [andNz, List.any_eq_true]
        obtain ⟨e1, e2⟩ := qm_pm (p := q) (by omega)
        refine ⟨pmI q, List.mem_range.mpr (by omega), ?_⟩
        rw [← hdue, b_and, hE.1 j hj25 _ (by omega), hE.2.1 s hs _ (by omega), e1, g1, g2, (hS (pmI q) (by omega)).mpr (by rw [e1]; exact g3)]
        rfl
    | succ d ih =>
      intro p hp
      refine rt_run 2 rfl ?_
      refine rt_ge p 25 rfl (by omega) (by omega) (fun _ => by omega) (fun _ => ?_)
      have hih := ih (p + 1) (by omega)
      rw [nI_succ] at hih
      unfold ahL at hih
      refine rt_run 8 rfl ?_
      refine rt_ld (25 * x + p) rfl (n := 100) rfl (by omega) ?_ (by rw [← nI_add, ← pk_mul]; rfl)
      refine rt_run 2 rfl ?_
      refine rt_if_eq rfl (fun hz => ?_) (fun hz => ?_)
      · rw [if_pos hz] at hih
        refine rt_run 1 rfl ?_
        refine rt_run 4 rfl ?_
        rw [Int32.or_zero]
        exact hih
      · rw [if_neg hz] at hih
        refine rt_run 4 rfl ?_
        refine rt_run 4 rfl ?_
        exact hih
  exact loop 25 0 rfl
end MdSmall

/-! Steps and Edges: a graph as a list of edges, its steps as a list -/
abbrev Gr : Type := List (Nat × Nat × Nat)
abbrev SL : Type := List (Nat × Nat × Nat × Nat)
def EdIs (τ : Ty) (G : Gr) : Prop := gF τ 1 3 = nI G.length ∧ (∀ i q, G[i]? = some q → gI τ 2 i = nI q.1 ∧ gI τ 3 i = nI q.2.1 ∧ gI τ 4 i = nI q.2.2) ∧ G.length ≤ 30 ∧ ∀ q ∈ G, q.1 < 10 ∧ q.2.1 < 4 ∧ q.2.2 < 10
def StIs (τ : Ty) (k : Nat) (L : SL) : Prop := gF τ k 4 = nI L.length ∧ ∀ i q, L[i]? = some q → gI τ (k + 1) i = nI q.1 ∧ gI τ (k + 2) i = nI q.2.1 ∧ gI τ (k + 3) i = nI q.2.2.1 ∧ gI τ (k + 4) i = nI q.2.2.2
abbrev kS (k : Nat) : List Nat := [k, k + 1, k + 2, k + 3, k + 4]
theorem getApp {α : Type} {L : List α} {x : α} {i : Nat} {q : α} (h : (L ++ [x])[i]? = some q) : (i < L.length ∧ L[i]? = some q) ∨ (i = L.length ∧ q = x) := by
  by_cases hi : i < L.length
  · rw [List.getElem?_append_left hi] at h
    exact Or.inl ⟨hi, h⟩
  · rw [List.getElem?_append_right (by omega)] at h
    have hlt := (List.getElem?_eq_some_iff.mp h).1
    simp only [List.length_singleton] at hlt
    have e : i = L.length := by omega
    subst e
    rw [Nat.sub_self] at h
    cases h
    exact Or.inr ⟨rfl, rfl⟩
theorem sput_spec {k u s v e : Nat} {L : SL} {τ : Ty} {Q : Option Value → Ty → Prop} (hk : isS k) (hL : StIs τ k L) (hl : L.length < 60)
    (h : ∀ τ', Off (kS k) τ τ' → StIs τ' k (L ++ [(u, s, v, e)]) → Q none τ') : RT mX7_put none 0 [some (.ref k), some (.int (nI u)), some (.int (nI s)), some (.int (nI v)), some (.int (nI e))] [] τ Q := by
  obtain ⟨f0, f1, f2, f3, f4, a0, a1, a2, a3, h38⟩ := isS_f hk
  have hm := hL.1
  refine rt_run 1 rfl ?_
  refine rt_getI rfl f4 ?_
  refine rt_run 1 rfl ?_
  refine rt_lt L.length 60 rfl (by omega) (by omega) (fun _ => ?_) (fun _ => by omega)
  refine rt_run 1 rfl ?_
  refine rt_getQ rfl f0 h38 ?_
  refine rt_run 1 rfl ?_
  refine rt_getI rfl f4 ?_
  refine rt_run 1 rfl ?_
  refine rt_st L.length rfl a0 hl ?_ hm
  refine rt_run 1 rfl ?_
  refine rt_getQ rfl f1 h38 ?_
  refine rt_run 1 rfl ?_
  refine rt_getI rfl f4 ?_
  refine rt_run 1 rfl ?_
  refine rt_st L.length rfl a1 hl ?_ hm
  refine rt_run 1 rfl ?_
  refine rt_getQ rfl f2 h38 ?_
  refine rt_run 1 rfl ?_
  refine rt_getI rfl f4 ?_
  refine rt_run 1 rfl ?_
  refine rt_st L.length rfl a2 hl ?_ hm
  refine rt_run 1 rfl ?_
  refine rt_getQ rfl f3 h38 ?_
  refine rt_run 1 rfl ?_
  refine rt_getI rfl f4 ?_
  refine rt_run 1 rfl ?_
  refine rt_st L.length rfl a3 hl ?_ hm
  refine rt_run 2 rfl ?_
  refine rt_getI rfl f4 ?_
  refine rt_run 2 rfl ?_
  refine rt_putI rfl f4 rfl ?_
  refine rt_vret rfl rfl (h _ ?_ ?_)
  · exact (((((Off.rf _ _).sI (by simp) _ _).sI (by simp) _ _).sI (by simp) _ _).sI (by simp) _ _).sF (by simp) _ _
  · refine ⟨?_, fun i q hq => ?_⟩
    · rw [gF_sF, if_pos rfl, pk_us]
      show gF τ k 4 + 1 = _
      rw [hm, ← nI_succ, List.length_append]; rfl
    · rcases getApp hq with ⟨hi, hq⟩ | ⟨rfl, rfl⟩
      · obtain ⟨g1, g2, g3, g4⟩ := hL.2 i q hq
        have hne : i ≠ L.length := by omega
        simp [gI_sF, gI_sI, pk_un hne, g1, g2, g3, g4]
      · simp [gI_sF, gI_sI, pk_us]
theorem isEdge_spec {G : Gr} {x : Int32} {τ : Ty} {Q : Option Value → Ty → Prop} (hG : EdIs τ G) (h0 : (x < 0 ∨ nI G.length ≤ x) → Q (some (.int 0)) τ) (h1 : ∀ e, e < G.length → x = nI e → Q (some (.int 1)) τ) : RT mX1_isEdge none 0 [some (.ref 1), some (.int x)] [] τ Q := by
  have hm := hG.1
  have hl := hG.2.2.1
  refine rt_run 1 rfl ?_
  refine rt_if_lt rfl (fun hc => ?_) (fun hc => ?_)
  · refine rt_run 1 rfl ?_
    exact rt_zret rfl rfl (Or.inl rfl) (h0 (Or.inl hc))
  · refine rt_run 3 rfl ?_
    refine rt_ic_ge rfl (fun hd => ?_) (fun hd => ?_)
    · refine rt_run 1 rfl ?_
      rw [hm] at hd
      exact rt_zret rfl rfl (Or.inl rfl) (h0 (Or.inr hd))
    · refine rt_run 2 rfl ?_
      rw [hm] at hd
      rcases pk_ix x (n := G.length) (by omega) with h2 | h2 | ⟨j, hj, rfl⟩
      · exact absurd h2 hc
      · exact absurd h2 hd
      · exact rt_zret rfl rfl (Or.inr rfl) (h1 j hj rfl)
theorem has_spec {G : Gr} {u l v : Nat} {τ : Ty} {Q : Option Value → Ty → Prop} (hG : EdIs τ G) (hu : u < 10) (hl : l < 4) (hv : v < 10) (h0 : (u, l, v) ∉ G → Q (some (.int 0)) τ) (h1 : (u, l, v) ∈ G → Q (some (.int 1)) τ) : RT mX1_has none 0 [some (.ref 1), some (.int (nI u)), some (.int (nI l)), some (.int (nI v)), none] [] τ Q := by
  obtain ⟨hm, hG1, hG2, hG3⟩ := hG
  have loop : ∀ d i, i + d = G.length → (∀ j, j < i → G[j]? ≠ some (u, l, v)) → RT mX1_has none 3 [some (.ref 1), some (.int (nI u)), some (.int (nI l)), some (.int (nI v)), some (.int (nI i))] [] τ Q := by
    intro d
    induction d with
    | zero =>
      intro i hi hn
      refine rt_run 3 rfl ?_
      refine rt_ge i G.length rfl (by omega) (by omega) (fun _ => ?_) (fun _ => by omega)
      refine rt_run 1 rfl ?_
      refine rt_zret rfl rfl (Or.inl rfl) (h0 (fun hin => ?_))
      obtain ⟨j, hj⟩ := List.getElem?_of_mem hin
      exact hn j (by have := (List.getElem?_eq_some_iff.mp hj).1; omega) hj
    | succ d ih =>
      intro i hi hn
      refine rt_run 3 rfl ?_
      refine rt_ge i G.length rfl (by omega) (by omega) (fun _ => by omega) (fun hlt => ?_)
      have hq : G[i]? = some G[i] := List.getElem?_eq_getElem hlt
      obtain ⟨g1, g2, g3⟩ := hG1 i _ hq
      obtain ⟨b1, b2, b3⟩ := hG3 _ (List.getElem_mem hlt)
      have next : G[i]? ≠ some (u, l, v) → RT mX1_has none 47 [some (.ref 1), some (.int (nI u)), some (.int (nI l)), some (.int (nI v)), some (.int (nI i))] [] τ Q := by
        intro hne
        refine rt_run 2 rfl ?_
        have := ih (i + 1) (by omega) (fun j hj => by
          by_cases hji : j = i
          · subst hji; exact hne
          · exact hn j (by omega))
        rw [nI_succ] at this
        exact this
      refine rt_run 3 rfl ?_
      refine rt_ld i rfl (n := 30) rfl (by omega) ?_
      refine rt_run 1 rfl ?_
      refine rt_ne G[i].1 u rfl (by omega) (by omega) (fun hc => next (fun e => ?_)) (fun e1 => ?_)
      · rw [hq] at e; exact hc (by rw [Option.some.inj e])
      refine rt_run 3 rfl ?_
      refine rt_ld i rfl (n := 30) rfl (by omega) ?_
      refine rt_run 1 rfl ?_
      refine rt_ne G[i].2.1 l rfl (by omega) (by omega) (fun hc => next (fun e => ?_)) (fun e2 => ?_)
      · rw [hq] at e; exact hc (by rw [Option.some.inj e])
      refine rt_run 3 rfl ?_
      refine rt_ld i rfl (n := 30) rfl (by omega) ?_
      refine rt_run 1 rfl ?_
      refine rt_ne G[i].2.2 v rfl (by omega) (by omega) (fun hc => next (fun e => ?_)) (fun e3 => ?_)
      · rw [hq] at e; exact hc (by rw [Option.some.inj e])
      refine rt_run 1 rfl ?_
      refine rt_zret rfl rfl (Or.inr rfl) (h1 ?_)
      rw [← e1, ← e2, ← e3]
      exact List.getElem_mem hlt
  refine rt_run 2 rfl ?_
  exact loop G.length 0 (by omega) (fun j hj => by omega)
theorem eput_spec {G : Gr} {u l v : Nat} {τ : Ty} {Q : Option Value → Ty → Prop} (hG : EdIs τ G) (hu : u < 10) (hl : l < 4) (hv : v < 10) (hlen : G.length < 30) (h : ∀ τ', Off [1, 2, 3, 4] τ τ' → EdIs τ' (G ++ [(u, l, v)]) → Q none τ') : RT mX1_put none 0 [some (.ref 1), some (.int (nI u)), some (.int (nI l)), some (.int (nI v))] [] τ Q := by
  obtain ⟨hm, hG1, hG2, hG3⟩ := hG
  refine rt_run 3 rfl ?_
  refine rt_lt G.length 30 rfl (by omega) (by omega) (fun _ => ?_) (fun _ => by omega)
  refine rt_run 5 rfl ?_
  refine rt_st G.length rfl (n := 30) rfl hlen ?_ hm
  refine rt_run 5 rfl ?_
  refine rt_st G.length rfl (n := 30) rfl hlen ?_ hm
  refine rt_run 5 rfl ?_
  refine rt_st G.length rfl (n := 30) rfl hlen ?_ hm
  refine rt_run 6 rfl ?_
  refine rt_vret rfl rfl (h _ ?_ ⟨?_, fun i q hq => ?_, ?_, fun q hq => ?_⟩)
  · exact ((((Off.rf _ _).sI (by simp) _ _).sI (by simp) _ _).sI (by simp) _ _).sF (by simp) _ _
  · rw [gF_sF, if_pos rfl, pk_us]
    show gF τ 1 3 + 1 = _
    rw [hm, ← nI_succ, List.length_append]; rfl
  · rcases getApp hq with ⟨hi, hq⟩ | ⟨rfl, rfl⟩
    · obtain ⟨g1, g2, g3⟩ := hG1 i q hq
      have hne : i ≠ G.length := by omega
      simp [gI_sF, gI_sI, pk_un hne, g1, g2, g3]
    · simp [gI_sF, gI_sI, pk_us]
  · rw [List.length_append]; simp; omega
  · rcases List.mem_append.mp hq with hq | hq
    · exact hG3 q hq
    · simp at hq; subst hq; exact ⟨hu, hl, hv⟩
def edV (τ : Ty) (j : Nat) (q : Nat × Nat × Nat) : Prop := gI τ 2 j = nI q.1 ∧ gI τ 3 j = nI q.2.1 ∧ gI τ 4 j = nI q.2.2
theorem remove_spec {G : Gr} {e : Nat} {τ : Ty} {Q : Option Value → Ty → Prop} (hG : EdIs τ G) (he : e < G.length) (h : ∀ τ', Off [1, 2, 3, 4] τ τ' → EdIs τ' (G.eraseIdx e) → Q none τ') : RT mX1_remove none 0 [some (.ref 1), some (.int (nI e)), none] [] τ Q := by
  obtain ⟨hm, hG1, hG2, hG3⟩ := hG
  have loop : ∀ d i τ', i + d = G.length → e < i → gF τ' 1 3 = nI G.length → Off [1, 2, 3, 4] τ τ' → (∀ j q, j + 1 < i → (G.eraseIdx e)[j]? = some q → edV τ' j q) → (∀ j q, i ≤ j → G[j]? = some q → edV τ' j q) →
      RT mX1_remove none 4 [some (.ref 1), some (.int (nI e)), some (.int (nI i))] [] τ' Q := by
    intro d
    induction d with
    | zero =>
      intro i τ' hi hei hm' hO h1 h2
      refine rt_run 3 rfl ?_
      refine rt_ge i G.length rfl (by omega) (by omega) (fun _ => ?_) (fun _ => by omega)
      refine rt_run 6 rfl ?_
      have hlen : (G.eraseIdx e).length = G.length - 1 := List.length_eraseIdx_of_lt he
      refine rt_vret rfl rfl (h _ (hO.sF (by simp) _ _) ⟨?_, fun j q hq => ?_, by omega, fun q hq => hG3 q (List.mem_of_mem_eraseIdx hq)⟩)
      · rw [gF_sF, if_pos rfl, pk_us, hm', hlen, show G.length = (G.length - 1) + 1 by omega, nI_pred, Nat.add_sub_cancel]
      · have hj := (List.getElem?_eq_some_iff.mp hq).1
        exact h1 j q (by omega) hq
    | succ d ih =>
      intro i τ' hi hei hm' hO h1 h2
      refine rt_run 3 rfl ?_
      refine rt_ge i G.length rfl (by omega) (by omega) (fun _ => by omega) (fun hlt => ?_)
      have hq : G[i]? = some G[i] := List.getElem?_eq_getElem hlt
      obtain ⟨g1, g2, g3⟩ := h2 i _ (Nat.le_refl _) hq
      have hi1 : nI i - 1 = nI (i - 1) := by rw [show i = (i - 1) + 1 by omega, nI_pred, Nat.add_sub_cancel]
      refine rt_run 8 rfl ?_
      refine rt_ld i rfl (n := 30) rfl (by omega) ?_
      refine rt_st (i - 1) rfl (n := 30) rfl (by omega) ?_ hi1
      refine rt_run 8 rfl ?_
      refine rt_ld i rfl (n := 30) rfl (by omega) ?_
      refine rt_st (i - 1) rfl (n := 30) rfl (by omega) ?_ hi1
      refine rt_run 8 rfl ?_
      refine rt_ld i rfl (n := 30) rfl (by omega) ?_
      refine rt_st (i - 1) rfl (n := 30) rfl (by omega) ?_ hi1
      refine rt_run 2 rfl ?_
      rw [← nI_succ]
      refine ih (i + 1) _ (by omega) (by omega) hm' (((hO.sI (by simp) _ _).sI (by simp) _ _).sI (by simp) _ _) (fun j q hj hjq => ?_) (fun j q hj hjq => ?_)
      · by_cases hji : j = i - 1
        · subst hji
          rw [List.getElem?_eraseIdx, if_neg (by omega), show i - 1 + 1 = i by omega, hq] at hjq
          cases hjq
          have hne : i ≠ i - 1 := by omega
          simp [edV, gI_sI, pk_us, pk_un hne, g1, g2, g3]
        · obtain ⟨v1, v2, v3⟩ := h1 j q (by omega) hjq
          have hne : j ≠ i - 1 := hji
          simp [edV, gI_sI, pk_un hne, v1, v2, v3]
      · obtain ⟨v1, v2, v3⟩ := h2 j q (by omega) hjq
        have hne : j ≠ i - 1 := by omega
        simp [edV, gI_sI, pk_un hne, v1, v2, v3]
  refine rt_run 4 rfl ?_
  have := loop (G.length - (e + 1)) (e + 1) τ (by omega) (by omega) hm (Off.rf _ _) (fun j q hj hjq => by
    rw [List.getElem?_eraseIdx, if_pos (by omega)] at hjq
    exact hG1 j q hjq) (fun j q _ hjq => hG1 j q hjq)
  rw [nI_succ] at this
  exact this
/-- the steps of the first edges, one of them left out: along them, back along them -/
def fwdN (G : Gr) (w : Option Nat) : Nat → SL
  | 0 => []
  | i + 1 => fwdN G w i ++ (match G[i]? with
    | some q => if w = some i then [] else [(q.1, q.2.1, q.2.2, i)]
    | none => [])
def bwdN (G : Gr) (w : Option Nat) : Nat → SL
  | 0 => []
  | i + 1 => bwdN G w i ++ (match G[i]? with
    | some q => if w = some i then [] else [(q.2.2, q.2.1 + 4, q.1, i)]
    | none => [])
def stL (G : Gr) (w : Option Nat) : SL := fwdN G w G.length ++ bwdN G w G.length
theorem fwdN_len (G : Gr) (w : Option Nat) (n : Nat) : (fwdN G w n).length ≤ n := by
  induction n with
  | zero => simp [fwdN]
  | succ n ih =>
    unfold fwdN
    rw [List.length_append]
    cases G[n]? with
    | none => simp; omega
    | some q =>
      by_cases hw : w = some n
      · simp only [if_pos hw, List.length_nil]; omega
      · simp only [if_neg hw, List.length_singleton]; omega
theorem bwdN_len (G : Gr) (w : Option Nat) (n : Nat) : (bwdN G w n).length ≤ n := by
  induction n with
  | zero => simp [bwdN]
  | succ n ih =>
    unfold bwdN
    rw [List.length_append]
    cases G[n]? with
    | none => simp; omega
    | some q =>
      by_cases hw : w = some n
      · simp only [if_pos hw, List.length_nil]; omega
      · simp only [if_neg hw, List.length_singleton]; omega
theorem fwdN_s {G : Gr} {w : Option Nat} {i : Nat} {q : Nat × Nat × Nat} (hq : G[i]? = some q) : fwdN G w (i + 1) = fwdN G w i ++ (if w = some i then [] else [(q.1, q.2.1, q.2.2, i)]) := by simp only [fwdN, hq]
theorem bwdN_s {G : Gr} {w : Option Nat} {i : Nat} {q : Nat × Nat × Nat} (hq : G[i]? = some q) : bwdN G w (i + 1) = bwdN G w i ++ (if w = some i then [] else [(q.2.2, q.2.1 + 4, q.1, i)]) := by simp only [bwdN, hq]
/-- an edge left out, as the code says it -/
def wI (w : Option Nat) : Int32 := match w with
  | none => -1
  | some e => nI e
theorem wI_eq {w : Option Nat} {i : Nat} (hw : ∀ e, w = some e → e < 100) (hi : i < 100) : nI i = wI w ↔ w = some i := by
  cases w with
  | none =>
    constructor
    · intro h
      have h1 : (nI i).toInt = (i : Int) := nI_toInt (by omega)
      have h2 : (-1 : Int32).toInt = -1 := by decide
      rw [h] at h1
      have h1 : (-1 : Int32).toInt = (i : Int) := h1
      omega
    · intro h; cases h
  | some e =>
    have := hw e rfl
    rw [show wI (some e) = nI e from rfl, nI_eq (by omega) (by omega)]
    constructor
    · intro h; rw [h]
    · intro h; exact (Option.some.inj h).symm
theorem EdIs.off {ks : List Nat} {τ τ' : Ty} {G : Gr} (h : EdIs τ G) (ho : Off ks τ τ') (h1 : 1 ∉ ks ∧ 2 ∉ ks ∧ 3 ∉ ks ∧ 4 ∉ ks) : EdIs τ' G := by
  refine ⟨by rw [(ho.1 1 h1.1).2.2]; exact h.1, fun i q hq => ?_, h.2.2⟩
  rw [(ho.1 2 h1.2.1).1, (ho.1 3 h1.2.2.1).1, (ho.1 4 h1.2.2.2).1]
  exact h.2.1 i q hq
theorem spell_spec {G : Gr} {k : Nat} {w : Option Nat} {τ : Ty} {Q : Option Value → Ty → Prop} (hk : isS k) (hG : EdIs τ G) (hw : ∀ e, w = some e → e < 100) (h : ∀ τ', Off (kS k) τ τ' → StIs τ' k (stL G w) → Q none τ') : RT mX1_spell none 0 [some (.ref 1), some (.ref k), some (.int (wI w)), none] [] τ Q := by
  obtain ⟨f0, f1, f2, f3, f4, a0, a1, a2, a3, h38⟩ := isS_f hk
  have hoff : 1 ∉ kS k ∧ 2 ∉ kS k ∧ 3 ∉ kS k ∧ 4 ∉ kS k := by rcases hk with rfl | rfl | rfl <;> decide
  have hlen := hG.2.2.1
  have loop2 : ∀ d i τ', i + d = G.length → Off (kS k) τ τ' → StIs τ' k (fwdN G w G.length ++ bwdN G w i) → RT mX1_spell none 51 [some (.ref 1), some (.ref k), some (.int (wI w)), some (.int (nI i))] [] τ' Q := by
    intro d
    induction d with
    | zero =>
      intro i τ' hi hO hS
      have hG' := hG.off hO hoff
      refine rt_run 3 rfl ?_
      refine rt_ge i G.length rfl (by omega) (by omega) (fun _ => ?_) (fun _ => by omega) rfl hG'.1
      refine rt_vret rfl rfl (h τ' hO ?_)
      rw [show i = G.length by omega] at hS
      exact hS
    | succ d ih =>
      intro i τ' hi hO hS
      have hG' := hG.off hO hoff
      refine rt_run 3 rfl ?_
      refine rt_ge i G.length rfl (by omega) (by omega) (fun _ => by omega) (fun hlt => ?_) rfl hG'.1
      have hq : G[i]? = some G[i] := List.getElem?_eq_getElem hlt
      obtain ⟨g1, g2, g3⟩ := hG'.2.1 i _ hq
      refine rt_run 2 rfl ?_
      refine rt_ic_eq rfl (fun hc => ?_) (fun hc => ?_)
      · refine rt_run 2 rfl ?_
        rw [← nI_succ]
        refine ih (i + 1) τ' (by omega) hO ?_
        rw [bwdN_s hq, if_pos ((wI_eq hw (by omega)).mp hc), List.append_nil]
        exact hS
      · refine rt_run 4 rfl ?_
        refine rt_ld i rfl (n := 30) rfl (by omega) ?_
        refine rt_run 3 rfl ?_
        refine rt_ld i rfl (n := 30) rfl (by omega) ?_
        refine rt_run 5 rfl ?_
        refine rt_ld i rfl (n := 30) rfl (by omega) ?_
        refine rt_run 1 rfl ?_
        rw [g1, g2, g3, show nI G[i].2.1 + 4 = nI (G[i].2.1 + 4) by rw [← nI_add]; rfl]
        have hL := fwdN_len G w G.length
        have hL2 := bwdN_len G w i
        refine rt_cV (ci := 7) mX7_put kX1_spell_86 okX7_put (isS_s hk) rfl rfl rfl rfl ?_
        refine sput_spec hk hS (by rw [List.length_append]; omega) (fun τ'' hO2 hS2 => ?_)
        refine rt_run 2 rfl ?_
        rw [← nI_succ]
        refine ih (i + 1) τ'' (by omega) (hO.tr hO2) ?_
        rw [bwdN_s hq, if_neg (fun hh => hc ((wI_eq hw (by omega)).mpr hh)), ← List.append_assoc]
        exact hS2
  have loop1 : ∀ d i τ', i + d = G.length → Off (kS k) τ τ' → StIs τ' k (fwdN G w i) → RT mX1_spell none 7 [some (.ref 1), some (.ref k), some (.int (wI w)), some (.int (nI i))] [] τ' Q := by
    intro d
    induction d with
    | zero =>
      intro i τ' hi hO hS
      have hG' := hG.off hO hoff
      refine rt_run 3 rfl ?_
      refine rt_ge i G.length rfl (by omega) (by omega) (fun _ => ?_) (fun _ => by omega) rfl hG'.1
      refine rt_run 2 rfl ?_
      refine loop2 G.length 0 τ' (by omega) hO ?_
      rw [show i = G.length by omega] at hS
      simpa [bwdN] using hS
    | succ d ih =>
      intro i τ' hi hO hS
      have hG' := hG.off hO hoff
      refine rt_run 3 rfl ?_
      refine rt_ge i G.length rfl (by omega) (by omega) (fun _ => by omega) (fun hlt => ?_) rfl hG'.1
      have hq : G[i]? = some G[i] := List.getElem?_eq_getElem hlt
      obtain ⟨g1, g2, g3⟩ := hG'.2.1 i _ hq
      refine rt_run 2 rfl ?_
      refine rt_ic_eq rfl (fun hc => ?_) (fun hc => ?_)
      · refine rt_run 2 rfl ?_
        rw [← nI_succ]
        refine ih (i + 1) τ' (by omega) hO ?_
        rw [fwdN_s hq, if_pos ((wI_eq hw (by omega)).mp hc), List.append_nil]
        exact hS
      · refine rt_run 4 rfl ?_
        refine rt_ld i rfl (n := 30) rfl (by omega) ?_
        refine rt_run 3 rfl ?_
        refine rt_ld i rfl (n := 30) rfl (by omega) ?_
        refine rt_run 3 rfl ?_
        refine rt_ld i rfl (n := 30) rfl (by omega) ?_
        refine rt_run 1 rfl ?_
        rw [g1, g2, g3]
        have hL := fwdN_len G w i
        refine rt_cV (ci := 7) mX7_put kX1_spell_40 okX7_put (isS_s hk) rfl rfl rfl rfl ?_
        refine sput_spec hk hS (by omega) (fun τ'' hO2 hS2 => ?_)
        refine rt_run 2 rfl ?_
        rw [← nI_succ]
        refine ih (i + 1) τ'' (by omega) (hO.tr hO2) ?_
        rw [fwdN_s hq, if_neg (fun hh => hc ((wI_eq hw (by omega)).mpr hh))]
        exact hS2
  refine rt_run 2 rfl ?_
  refine rt_putI rfl f4 rfl ?_
  refine rt_run 2 rfl ?_
  refine loop1 G.length 0 _ (by omega) ((Off.rf _ _).sF (by simp) _ _) ⟨?_, fun i q hq => by simp [fwdN] at hq⟩
  rw [gF_sF, if_pos rfl, pk_us]; rfl

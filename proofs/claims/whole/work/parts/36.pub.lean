/-! what the calls answer and leave, as functions of the state; the class's edge, drop, anew, of, degree, type, clear -/
/-- an int as a number below n -/
def rn (n : Nat) (x : Int32) : Option Nat := if 0 ≤ x ∧ x < nI n then some x.toNatClampNeg else none
theorem rn_so {n j : Nat} (hj : j < n) (hn : n < 2 ^ 31) : rn n (nI j) = some j := by
  unfold rn
  rw [if_pos ⟨nI_pos' (by omega), nI_lt hj hn⟩, nI_clamp (by omega)]
theorem rn_out {n : Nat} {x : Int32} (h : x < 0 ∨ nI n ≤ x) : rn n x = none := by
  unfold rn
  rw [if_neg]
  rintro ⟨h1, h2⟩
  rw [Int32.lt_iff_toInt_lt] at h2
  rw [Int32.le_iff_toInt_le] at h1
  rcases h with h | h
  · rw [Int32.lt_iff_toInt_lt] at h
    omega
  · rw [Int32.le_iff_toInt_le] at h
    omega
theorem rn_no {n : Nat} {x : Int32} (hn : n < 2 ^ 31) (h : ¬ ∃ j, j < n ∧ x = nI j) : rn n x = none := by
  rcases pk_ix x (n := n) hn with g | g | ⟨j, hj, e⟩
  · exact rn_out (Or.inl g)
  · exact rn_out (Or.inr g)
  · exact absurd ⟨j, hj, e⟩ h
abbrev Rs : Type := Int32 × AS
def rfA (r : Int32) (a : AS) : Rs := (r, refA r a)
def sG (a : AS) (G : Gr) : AS := (G, a.2)
def sT (a : AS) (T : List Nat) : AS := (a.1, T, a.2.2)
def sC (a : AS) (r : Int32) : AS := (a.1, a.2.1, a.2.2.1, a.2.2.2.1, r, a.2.2.2.2.2)
def sLo (a : AS) (r : Int32) : AS := (a.1, a.2.1, a.2.2.1, a.2.2.2.1, a.2.2.2.2.1, r, a.2.2.2.2.2.2)
noncomputable def edgeA (a : AS) (u l v : Int32) : Rs := match rn 10 u with
  | none => rfA (-2) a
  | some u => match rn 4 l with
    | none => rfA (-2) a
    | some l => match rn 10 v with
      | none => rfA (-2) a
      | some v => if (u, l, v) ∈ aG a then rfA (-3) a else if 30 ≤ (aG a).length then rfA (-4) a else
        (szI (sG a (aG a ++ [(u, l, v)])) - szI a, sC (sG a (aG a ++ [(u, l, v)])) (aC a + (szI (sG a (aG a ++ [(u, l, v)])) - szI a)))
noncomputable def dropA (a : AS) (e : Int32) : Rs := match rn (aG a).length e with
  | none => rfA (-2) a
  | some e => (szI a - szI (sG a ((aG a).eraseIdx e)), sLo (sG a ((aG a).eraseIdx e)) (aLo a + (szI a - szI (sG a ((aG a).eraseIdx e)))))
def anewA (a : AS) : Rs := (nI (aG a).length, sG a [])
def ofV (G : Gr) (e w : Nat) : Int32 := match G[e]? with
  | none => 0
  | some q => if w = 0 then nI q.1 else if w = 1 then nI q.2.1 else nI q.2.2
def ofA (a : AS) (e w : Int32) : Rs := match rn (aG a).length e with
  | none => rfA (-2) a
  | some e => match rn 3 w with
    | none => rfA (-2) a
    | some w => (ofV (aG a) e w, a)
def dgN (G : Gr) (v w : Nat) : Nat := G.countP (fun q => decide ((if w = 0 then q.1 else q.2.2) = v))
def degA (a : AS) (v w : Int32) : Rs := match rn 10 v with
  | none => rfA (-2) a
  | some v => match rn 2 w with
    | none => rfA (-2) a
    | some w => (nI (dgN (aG a) v w), a)
def typA (a : AS) (c : Int32) : Rs := match rn 128 c with
  | none => rfA (-2) a
  | some c => if 80 ≤ (aT a).length then rfA (-4) a else (nI ((aT a).length + 1), sT a (aT a ++ [c]))
def cleA (a : AS) : Rs := (nI (aT a).length, sT a [])
theorem CI1.setG {τ τ' : Ty} {a : AS} {G : Gr} (h : CI1 τ a) (ho : Off [1, 2, 3, 4] τ τ') (hG : EdIs τ' G) : CI1 τ' (sG a G) := by
  obtain ⟨h1, h3, h4, h5, h6, h7, h8⟩ := h
  refine ⟨hG, h3.off ho (by decide), ?_, h5.offW ho.w (fun k g1 g2 hin => ?_), h6.eq ho.2, ?_, ?_⟩
  · unfold TxIs at *
    rw [(ho.1 0 (by decide)).2.2, (ho.1 20 (by decide)).1]
    exact h4
  · simp at hin
    omega
  · unfold Sd0 at *
    rw [(ho.1 49 (by decide)).2.2]
    exact h7
  · unfold CtIs at *
    rw [(ho.1 0 (by decide)).2.2]
    exact h8
theorem CIs.f49 {τ : Ty} {a a' : AS} {j : Nat} {x : Int32} (h : CIs τ a) (hj : j = 2 ∨ j = 3) (ha : a' = sC a x ∧ j = 2 ∨ a' = sLo a x ∧ j = 3) : CIs (sF τ 49 j x) a' := by
  obtain ⟨h1, h2, h3, h4, h5, h6, h7, h8⟩ := h
  have ho : Off [49] τ (sF τ 49 j x) := (Off.rf _ _).sF (by simp) _ _
  have h5' : XsIs (sF τ 49 j x) (aX a) := h5.offW ho.w (fun k h1 h2 hin => by simp at hin; omega)
  have h1' := h1.offW ho.w (by decide)
  have h2' := h2.offW ho.w (by decide)
  have h3' := h3.offW ho.w (by decide)
  rcases ha with ⟨rfl, rfl⟩ | ⟨rfl, rfl⟩
  · exact ⟨h1', h2', h3', h4, h5', h6, ⟨h7.1, h7.2.1, rfl, h7.2.2.2.1, h7.2.2.2.2⟩, h8⟩
  · exact ⟨h1', h2', h3', h4, h5', h6, ⟨h7.1, h7.2.1, h7.2.2.1, rfl, h7.2.2.2.2⟩, h8⟩
theorem Off.c {ks : List Nat} {τ τ' : Ty} (h : Off ks τ τ') (hs : ∀ k ∈ ks, k < 63) : OffC τ τ' := h.w.c hs
section ClPub
variable {τ : Ty} {Q : Option Value → Ty → Prop} {a : AS}
theorem edge_spec {u l v : Int32} (hC : CIs τ a) (h : ∀ τ', OffC τ τ' → CIs τ' (edgeA a u l v).2 → Q (some (.int (edgeA a u l v).1)) τ') : RT mX10_edge none 0 [some (.ref 0), some (.int u), some (.int l), some (.int v), none, none] [] τ Q := by
  have no : edgeA a u l v = rfA (-2) a → RT mX10_edge none 23 [some (.ref 0), some (.int u), some (.int l), some (.int v), none, none] [] τ Q := by
    intro e
    rw [e] at h
    refine rt_run 2 rfl ?_
    refine rt_cV (ci := 10) mX10_refuse kX10_edge_26 okX10_refuse rfl rfl rfl rfl rfl ?_
    exact refuse_spec hC (Or.inl rfl) (fun τ' hO hC' => rt_iret rfl rfl (h τ' hO hC'))
  refine rt_run 1 rfl ?_
  refine rt_cS mX10_isVertex kX10_edge_1 okX10_isVertex rfl rfl ?_
  refine isVertex_spec (fun hh => ?_) (fun u' hu eu => ?_)
  · refine rt_if_eq rfl (fun _ => no (by unfold edgeA; rw [rn_no (by decide) hh])) (fun hc => absurd rfl hc)
  subst eu
  refine rt_if_eq rfl (fun hc => absurd hc (by decide)) (fun _ => ?_)
  have rl : rn 4 l = none → edgeA a (nI u') l v = rfA (-2) a := fun e => by
    unfold edgeA; rw [rn_so hu (by decide)]; dsimp only; rw [e]
  refine rt_run 1 rfl ?_
  refine rt_if_lt rfl (fun hc => no (rl (rn_out (Or.inl hc)))) (fun hc => ?_)
  refine rt_run 2 rfl ?_
  refine rt_ic_ge rfl (fun hd => no (rl (rn_out (Or.inr hd)))) (fun hd => ?_)
  rcases pk_ix l (n := 4) (by decide) with g | g | ⟨l', hl, el⟩
  · exact absurd g hc
  · exact absurd g hd
  subst el
  refine rt_run 1 rfl ?_
  refine rt_cS mX10_isVertex kX10_edge_17 okX10_isVertex rfl rfl ?_
  refine isVertex_spec (fun hh => ?_) (fun v' hv ev => ?_)
  · refine rt_if_ne rfl (fun hc => absurd rfl hc) (fun _ => no ?_)
    unfold edgeA; rw [rn_so hu (by decide)]; dsimp only; rw [rn_so hl (by decide)]; dsimp only; rw [rn_no (by decide) hh]
  subst ev
  refine rt_if_ne rfl (fun _ => ?_) (fun hc => absurd hc (by decide))
  have eA : edgeA a (nI u') (nI l') (nI v') = if (u', l', v') ∈ aG a then rfA (-3) a else if 30 ≤ (aG a).length then rfA (-4) a else
        (szI (sG a (aG a ++ [(u', l', v')])) - szI a, sC (sG a (aG a ++ [(u', l', v')])) (aC a + (szI (sG a (aG a ++ [(u', l', v')])) - szI a))) := by
    unfold edgeA; rw [rn_so hu (by decide)]; dsimp only; rw [rn_so hl (by decide)]; dsimp only; rw [rn_so hv (by decide)]
  rw [eA] at h
  have hl30 := hC.1.2.2.1
  refine rt_run 5 rfl ?_
  refine rt_cV (ci := 1) mX1_has kX10_edge_37 okX1_has rfl rfl rfl rfl rfl ?_
  refine has_spec hC.1 hu hl hv (fun hn => ?_) (fun hn => ?_)
  · rw [if_neg hn] at h
    refine rt_if_eq rfl (fun _ => ?_) (fun hc => absurd rfl hc)
    refine rt_run 4 rfl ?_
    refine rt_lt (aG a).length 30 rfl (by omega) (by omega) (fun hlt => ?_) (fun hge => ?_) hC.1.1
    · rw [if_neg (by omega)] at h
      refine rt_run 2 rfl ?_
      refine rt_cV (ci := 6) mX6_size kX10_edge_73 okX6_size rfl rfl rfl rfl rfl ?_
      refine size_spec hC ?_
      refine rt_run 6 rfl ?_
      refine rt_cV (ci := 1) mX1_put kX10_edge_85 okX1_put rfl rfl rfl rfl rfl ?_
      refine eput_spec hC.1 hu hl hv hlt (fun τ1 hO1 hG1 => ?_)
      refine rt_run 1 rfl ?_
      refine rt_cV (ci := 10) mX10_graphChanged kX10_edge_89 okX10_graphChanged rfl rfl rfl rfl rfl ?_
      refine graphChanged_spec (hC.one.setG hO1 hG1) (fun τ2 hO2 hC2 => ?_)
      refine rt_run 2 rfl ?_
      refine rt_cV (ci := 6) mX6_size kX10_edge_96 okX6_size rfl rfl rfl rfl rfl ?_
      refine size_spec hC2 ?_
      refine rt_run 11 rfl ?_
      refine rt_iret rfl rfl (h _ (((hO1.c (by decide)).tr (hO2.c (by decide))).tr (((Off.rf [49] _).sF (by simp) _ _).c (by decide))) (hC2.f49 (Or.inl rfl) (Or.inl ⟨?_, rfl⟩)))
      rw [hC2.2.2.2.2.2.2.1.2.2.1]
      rfl
    · rw [if_pos hge] at h
      refine rt_run 2 rfl ?_
      refine rt_cV (ci := 10) mX10_refuse kX10_edge_65 okX10_refuse rfl rfl rfl rfl rfl ?_
      exact refuse_spec hC (Or.inr (Or.inr rfl)) (fun τ' hO hC' => rt_iret rfl rfl (h τ' hO hC'))
  · rw [if_pos hn] at h
    refine rt_if_eq rfl (fun hc => absurd hc (by decide)) (fun _ => ?_)
    refine rt_run 2 rfl ?_
    refine rt_cV (ci := 10) mX10_refuse kX10_edge_46 okX10_refuse rfl rfl rfl rfl rfl ?_
    exact refuse_spec hC (Or.inr (Or.inl rfl)) (fun τ' hO hC' => rt_iret rfl rfl (h τ' hO hC'))
theorem drop_spec {e : Int32} (hC : CIs τ a) (h : ∀ τ', OffC τ τ' → CIs τ' (dropA a e).2 → Q (some (.int (dropA a e).1)) τ') : RT mX10_drop none 0 [some (.ref 0), some (.int e), none, none] [] τ Q := by
  have hl30 := hC.1.2.2.1
  refine rt_run 3 rfl ?_
  refine rt_cV (ci := 1) mX1_isEdge kX10_drop_5 okX1_isEdge rfl rfl rfl rfl rfl ?_
  refine isEdge_spec hC.1 (fun hh => ?_) (fun e' he ee => ?_)
  · refine rt_if_ne rfl (fun hc => absurd rfl hc) (fun _ => ?_)
    refine rt_run 2 rfl ?_
    refine rt_cV (ci := 10) mX10_refuse kX10_drop_14 okX10_refuse rfl rfl rfl rfl rfl ?_
    unfold dropA at h
    rw [rn_out hh] at h
    exact refuse_spec hC (Or.inl rfl) (fun τ' hO hC' => rt_iret rfl rfl (h τ' hO hC'))
  · subst ee
    refine rt_if_ne rfl (fun _ => ?_) (fun hc => absurd hc (by decide))
    unfold dropA at h
    rw [rn_so he (by omega)] at h
    dsimp only at h
    refine rt_run 2 rfl ?_
    refine rt_cV (ci := 6) mX6_size kX10_drop_22 okX6_size rfl rfl rfl rfl rfl ?_
    refine size_spec hC ?_
    refine rt_run 4 rfl ?_
    refine rt_cV (ci := 1) mX1_remove kX10_drop_31 okX1_remove rfl rfl rfl rfl rfl ?_
    refine remove_spec hC.1 he (fun τ1 hO1 hG1 => ?_)
    refine rt_run 1 rfl ?_
    refine rt_cV (ci := 10) mX10_graphChanged kX10_drop_35 okX10_graphChanged rfl rfl rfl rfl rfl ?_
    refine graphChanged_spec (hC.one.setG hO1 hG1) (fun τ2 hO2 hC2 => ?_)
    refine rt_run 3 rfl ?_
    refine rt_cV (ci := 6) mX6_size kX10_drop_43 okX6_size rfl rfl rfl rfl rfl ?_
    refine size_spec hC2 ?_
    refine rt_run 10 rfl ?_
    refine rt_iret rfl rfl (h _ (((hO1.c (by decide)).tr (hO2.c (by decide))).tr (((Off.rf [49] _).sF (by simp) _ _).c (by decide))) (hC2.f49 (Or.inr rfl) (Or.inr ⟨?_, rfl⟩)))
    rw [hC2.2.2.2.2.2.2.1.2.2.2.1]
    rfl
theorem anew_spec (hC : CIs τ a) (h : ∀ τ', OffC τ τ' → CIs τ' (anewA a).2 → Q (some (.int (anewA a).1)) τ') : RT mX10_anew none 0 [some (.ref 0), none] [] τ Q := by
  refine rt_run 9 rfl ?_
  refine rt_cV (ci := 10) mX10_graphChanged kX10_anew_17 okX10_graphChanged rfl rfl rfl rfl rfl ?_
  have hO : Off [1, 2, 3, 4] τ (sF τ 1 3 0) := (Off.rf _ _).sF (by simp) _ _
  refine graphChanged_spec (a := sG a []) (hC.one.setG hO ⟨rfl, fun i q hq => by simp at hq, by simp, fun q hq => by simp at hq⟩) (fun τ2 hO2 hC2 => ?_)
  refine rt_run 1 rfl ?_
  rw [hC.1.1]
  exact rt_iret rfl rfl (h τ2 ((hO.c (by decide)).tr (hO2.c (by decide))) hC2)
theorem of_spec {e w : Int32} (hC : CIs τ a) (h : ∀ τ', OffC τ τ' → CIs τ' (ofA a e w).2 → Q (some (.int (ofA a e w).1)) τ') : RT mX10_of none 0 [some (.ref 0), some (.int e), some (.int w)] [] τ Q := by
  have hl30 := hC.1.2.2.1
  have no : ofA a e w = rfA (-2) a → RT mX10_of none 20 [some (.ref 0), some (.int e), some (.int w)] [] τ Q := by
    intro e
    rw [e] at h
    refine rt_run 2 rfl ?_
    refine rt_cV (ci := 10) mX10_refuse kX10_of_23 okX10_refuse rfl rfl rfl rfl rfl ?_
    exact refuse_spec hC (Or.inl rfl) (fun τ' hO hC' => rt_iret rfl rfl (h τ' hO hC'))
  refine rt_run 3 rfl ?_
  refine rt_cV (ci := 1) mX1_isEdge kX10_of_5 okX1_isEdge rfl rfl rfl rfl rfl ?_
  refine isEdge_spec hC.1 (fun hh => ?_) (fun e' he ee => ?_)
  · exact rt_if_eq rfl (fun _ => no (by unfold ofA; rw [rn_out hh])) (fun hc => absurd rfl hc)
  subst ee
  refine rt_if_eq rfl (fun hc => absurd hc (by decide)) (fun _ => ?_)
  have rl : rn 3 w = none → ofA a (nI e') w = rfA (-2) a := fun e => by
    unfold ofA; rw [rn_so he (by omega)]; dsimp only; rw [e]
  refine rt_run 1 rfl ?_
  refine rt_if_lt rfl (fun hc => no (rl (rn_out (Or.inl hc)))) (fun hc => ?_)
  refine rt_run 2 rfl ?_
  rcases pk_ix w (n := 3) (by decide) with g | g | ⟨w', hw, ew⟩
  · exact absurd g hc
  · refine rt_ic_le rfl (fun hd => ?_) (fun hd => no (rl (rn_out (Or.inr g))))
    exfalso
    rw [Int32.le_iff_toInt_le] at g hd
    have e3 : (nI 3).toInt = 3 := by decide
    have e2 : (2 : Int32).toInt = 2 := by decide
    omega
  subst ew
  have eA : ofA a (nI e') (nI w') = (ofV (aG a) e' w', a) := by
    unfold ofA; rw [rn_so he (by omega)]; dsimp only; rw [rn_so hw (by decide)]
  rw [eA] at h
  have hq : (aG a)[e']? = some (aG a)[e'] := List.getElem?_eq_getElem he
  obtain ⟨g1, g2, g3⟩ := hC.1.2.1 e' _ hq
  refine rt_le w' 2 rfl (by omega) (by omega) (fun _ => ?_) (fun _ => by omega)
  refine rt_run 1 rfl ?_
  have hfin := h τ (OffC.rf _) hC
  unfold ofV at hfin
  rw [hq] at hfin
  dsimp only at hfin
  refine rt_if_ne rfl (fun hw0 => ?_) (fun hw0 => ?_)
  · have : w' ≠ 0 := fun e => hw0 (by rw [e]; rfl)
    rw [if_neg this] at hfin
    refine rt_run 2 rfl ?_
    refine rt_ne w' 1 rfl (by omega) (by omega) (fun hw1 => ?_) (fun hw1 => ?_)
    · rw [if_neg hw1] at hfin
      refine rt_run 4 rfl ?_
      refine rt_ld e' rfl (n := 30) rfl (by omega) ?_
      rw [g3]
      exact rt_iret rfl rfl hfin
    · rw [if_pos hw1] at hfin
      refine rt_run 4 rfl ?_
      refine rt_ld e' rfl (n := 30) rfl (by omega) ?_
      rw [g2]
      refine rt_run 1 rfl ?_
      exact rt_iret rfl rfl hfin
  · have : w' = 0 := by
      by_cases hz : w' = 0
      · exact hz
      · exact absurd hw0 (nI_ne0 (by omega) (by omega))
    rw [if_pos this] at hfin
    refine rt_run 4 rfl ?_
    refine rt_ld e' rfl (n := 30) rfl (by omega) ?_
    rw [g1]
    exact rt_iret rfl rfl hfin
end ClPub

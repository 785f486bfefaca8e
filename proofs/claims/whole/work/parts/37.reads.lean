/-! what a text tells, as an expression; the class's degree, type, clear, reads -/
def up (n : Nat) (x : Int32) : Prop := ∀ i, bt x i = true → i ≤ n
theorem up_or {n : Nat} {x y : Int32} (hx : up n x) (hy : up n y) : up n (x ||| y) := fun i h => by
  rw [b_or, Bool.or_eq_true] at h
  exact h.elim (hx i) (hy i)
theorem up_and {n : Nat} {x : Int32} (y : Int32) (hx : up n x) : up n (x &&& y) := fun i h => by
  rw [b_and, Bool.and_eq_true] at h
  exact hx i h.1
theorem up_0 (n : Nat) : up n 0 := fun i h => by rw [b_0] at h; cases h
theorem b_lt {x : Int32} {i : Nat} (h : bt x i = true) : i < 32 := by
  by_cases hi : i < 32
  · exact hi
  · rw [b_big (by omega)] at h; cases h
theorem up_1 (n : Nat) : up n 1 := fun i h => by
  rw [b_one (b_lt h)] at h
  have := of_decide_eq_true h
  omega
theorem up_mono {n m : Nat} {x : Int32} (h : up n x) (hm : n ≤ m) : up m x := fun i hi => by have := h i hi; omega
theorem up_bit {p n : Nat} (hp : p < 32) (h : p ≤ n) : up n (1 <<< (nI p &&& 31)) := fun i hi => by
  rw [b_bit hp (b_lt hi)] at hi
  have := of_decide_eq_true hi
  omega
def PWf : PSt → Prop
  | (rf, rl, cf, cl, pf, pl, sg, d, fol, be, n) => n ≤ 24 ∧ (∀ j, j ≤ d → up n (rf j) ∧ up n (rl j) ∧ up n (cf j) ∧ up n (cl j)) ∧ (sg = 2 → up n pf ∧ up n pl) ∧ (∀ p i, bt (fol p) i = true → 1 ≤ p ∧ p ≤ n ∧ 1 ≤ i ∧ i ≤ n) ∧ ∀ s i, bt (be s) i = true → 1 ≤ i ∧ i ≤ n
theorem lnk_wf {fol : Nat → Int32} {n : Nat} {a b : Int32} (hf : ∀ p i, bt (fol p) i = true → 1 ≤ p ∧ p ≤ n ∧ 1 ≤ i ∧ i ≤ n) (hb : up n b) : ∀ p i, bt (lnkF fol n a b p) i = true → 1 ≤ p ∧ p ≤ n ∧ 1 ≤ i ∧ i ≤ n := by
  intro p i h
  unfold lnkF at h
  split at h
  · rename_i hc
    rw [b_or, Bool.or_eq_true] at h
    rcases h with h | h
    · exact hf p i h
    · have hi := b_lt h
      rw [b_and, Bool.and_eq_true, b_m2 hi] at h
      have h1 := hb i h.1
      have h2 := of_decide_eq_true h.2
      exact ⟨hc.1, hc.2.1, by omega, h1⟩
  · exact hf p i h
theorem upd_up {n d : Nat} {f : Nat → Int32} {x : Int32} (hf : ∀ j, j ≤ d → up n (f j)) (hx : up n x) : ∀ j, j ≤ d → up n (upd f d x j) := by
  intro j hj
  by_cases h : j = d
  · subst h; rw [pk_us]; exact hx
  · rw [pk_un h]; exact hf j hj
theorem PWf.close {S : PSt} (h : PWf S) : PWf (pClose S) := by
  obtain ⟨rf, rl, cf, cl, pf, pl, sg, d, fol, be, n⟩ := S
  obtain ⟨h1, h2, h3, h4, h5⟩ := h
  by_cases hs : sg = 2
  · simp only [pClose, if_pos hs]
    obtain ⟨g1, g2⟩ := h3 hs
    refine ⟨h1, fun j hj => ⟨?_, ?_, (h2 j hj).2.2.1, (h2 j hj).2.2.2⟩, fun _ => ⟨g1, g2⟩, lnk_wf h4 g1, h5⟩
    · refine upd_up (fun j hj => (h2 j hj).1) ?_ j hj
      split
      · exact (h2 d (Nat.le_refl _)).1
      · exact up_or (up_and _ (h2 d (Nat.le_refl _)).1) g1
    · refine upd_up (fun j hj => (h2 j hj).2.1) ?_ j hj
      split
      · exact g2
      · exact up_or (h2 d (Nat.le_refl _)).2.1 (up_and _ g2)
  · simp only [pClose, if_neg hs]
    exact ⟨h1, h2, h3, h4, h5⟩
theorem PWf.closeR {S : PSt} (h : PWf S) : PWf (pCloseR S) := by
  have h := h.close
  unfold pCloseR
  generalize pClose S = S1 at h
  obtain ⟨rf, rl, cf, cl, pf, pl, sg, d, fol, be, n⟩ := S1
  obtain ⟨h1, h2, h3, h4, h5⟩ := h
  have hd := h2 d (Nat.le_refl _)
  refine ⟨h1, fun j hj => ⟨(h2 j hj).1, (h2 j hj).2.1, ?_, ?_⟩, h3, h4, h5⟩
  · exact upd_up (fun j hj => (h2 j hj).2.2.1) (up_or hd.2.2.1 hd.1) j hj
  · exact upd_up (fun j hj => (h2 j hj).2.2.2) (up_or hd.2.2.2 hd.2.1) j hj
theorem PWf.next {b : Nat} {S S' : PSt} (h : PWf S) (ht : tk b S = some S') : PWf S' := by
  unfold tk at ht
  split at ht
  · cases ht; exact h
  split at ht
  · unfold tkOpen at ht
    split at ht
    · cases ht
    · cases ht
      have h := h.close
      have hd := (pClose_depth S).1
      rw [← hd]
      generalize pClose S = S1 at h
      obtain ⟨rf, rl, cf, cl, pf, pl, sg, d, fol, be, n⟩ := S1
      obtain ⟨h1, h2, h3, h4, h5⟩ := h
      refine ⟨h1, fun j hj => ?_, (fun e => by cases e), h4, h5⟩
      by_cases hj2 : j = d + 1
      · subst hj2
        refine ⟨?_, ?_, ?_, ?_⟩
        · show up n (upd rf (d + 1) 1 (d + 1)); rw [pk_us]; exact up_1 n
        · show up n (upd rl (d + 1) 1 (d + 1)); rw [pk_us]; exact up_1 n
        · show up n (upd cf (d + 1) 0 (d + 1)); rw [pk_us]; exact up_0 n
        · show up n (upd cl (d + 1) 0 (d + 1)); rw [pk_us]; exact up_0 n
      · have hj3 : j ≤ d := by
          have : j ≤ d + 1 := hj
          omega
        have hh := h2 j hj3
        refine ⟨?_, ?_, ?_, ?_⟩
        · show up n (upd rf (d + 1) 1 j); rw [pk_un hj2]; exact hh.1
        · show up n (upd rl (d + 1) 1 j); rw [pk_un hj2]; exact hh.2.1
        · show up n (upd cf (d + 1) 0 j); rw [pk_un hj2]; exact hh.2.2.1
        · show up n (upd cl (d + 1) 0 j); rw [pk_un hj2]; exact hh.2.2.2
  split at ht
  · unfold tkClose at ht
    split at ht
    · cases ht
    · have h := h.closeR
      generalize pCloseR S = S1 at h ht
      obtain ⟨rf, rl, cf, cl, pf, pl, sg, d, fol, be, n⟩ := S1
      obtain ⟨h1, h2, h3, h4, h5⟩ := h
      cases ht
      exact ⟨h1, fun j hj => h2 j (by omega), fun _ => ⟨(h2 d (Nat.le_refl _)).2.2.1, (h2 d (Nat.le_refl _)).2.2.2⟩, h4, h5⟩
  split at ht
  · unfold tkTurn at ht
    split at ht
    · cases ht
      have h := h.closeR
      generalize pCloseR S = S1 at h
      obtain ⟨rf, rl, cf, cl, pf, pl, sg, d, fol, be, n⟩ := S1
      obtain ⟨h1, h2, h3, h4, h5⟩ := h
      exact ⟨h1, fun j hj => ⟨upd_up (fun j hj => (h2 j hj).1) (up_1 n) j hj, upd_up (fun j hj => (h2 j hj).2.1) (up_1 n) j hj, (h2 j hj).2.2.1, (h2 j hj).2.2.2⟩, (fun e => by cases e), h4, h5⟩
    · cases ht
  split at ht
  · unfold tkRep at ht
    split at ht
    · rename_i hs
      obtain ⟨rf, rl, cf, cl, pf, pl, sg, d, fol, be, n⟩ := S
      obtain ⟨h1, h2, h3, h4, h5⟩ := h
      obtain ⟨g1, g2⟩ := h3 hs
      cases ht
      refine ⟨h1, h2, fun _ => ⟨?_, ?_⟩, ?_, h5⟩
      · split
        · exact g1
        · exact up_or g1 (up_1 n)
      · split
        · exact g2
        · exact up_or g2 (up_1 n)
      · split
        · exact h4
        · exact lnk_wf h4 g1
    · cases ht
  · unfold tkPlace at ht
    split at ht
    · cases ht
    · rename_i hc
      have hn := (pClose_depth S).2.1
      have h := h.close
      rw [← hn] at hc
      generalize pClose S = S1 at h ht hc
      obtain ⟨rf, rl, cf, cl, pf, pl, sg, d, fol, be, n⟩ := S1
      obtain ⟨h1, h2, h3, h4, h5⟩ := h
      have hc : ¬ (sgnI b = 0 ∨ 24 ≤ n) := hc
      have hlt : n < 24 := by
        by_cases g : n < 24
        · exact g
        · exact absurd (Or.inr (by omega)) hc
      cases ht
      refine ⟨by omega, fun j hj => ?_, fun _ => ⟨up_bit (by omega) (Nat.le_refl _), up_bit (by omega) (Nat.le_refl _)⟩, fun p i hp => ?_, fun s i hs => ?_⟩
      · obtain ⟨q1, q2, q3, q4⟩ := h2 j hj
        exact ⟨up_mono q1 (by omega), up_mono q2 (by omega), up_mono q3 (by omega), up_mono q4 (by omega)⟩
      · have := h4 p i hp
        omega
      · dsimp only at hs
        split at hs
        · rw [b_or, Bool.or_eq_true] at hs
          rcases hs with hs | hs
          · have := h5 s i hs; omega
          · rw [b_bit (by omega) (b_lt hs)] at hs
            have := of_decide_eq_true hs
            omega
        · have := h5 s i hs; omega
theorem pS0_wf : PWf pS0 := ⟨by omega, fun j _ => ⟨up_1 _, up_1 _, up_0 _, up_0 _⟩, (fun e => by cases e), (fun p i h => by rw [b_0] at h; cases h), (fun s i h => by rw [b_0] at h; cases h)⟩
/-- the expression of a state that has been closed at its end -/
def drA : PSt → AE
  | (_, _, cf, cl, _, _, _, _, fol, be, n) => (fun p i => bt (if p = 0 then cf 0 &&& -2 else fol p) i, fun s i => bt (be s) i, fun i => bt (cl 0) i, n)
theorem drA_wf {S : PSt} (h : PWf S) : AEwf (drA S) := by
  obtain ⟨rf, rl, cf, cl, pf, pl, sg, d, fol, be, n⟩ := S
  obtain ⟨h1, h2, h3, h4, h5⟩ := h
  have h0 := h2 0 (Nat.zero_le _)
  refine ⟨h1, fun p i hp => ?_, fun s i hs => h5 s i hs, fun i hi => h0.2.2.2 i hi⟩
  have hr : bt (if p = 0 then cf 0 &&& -2 else fol p) i = true := hp
  clear hp
  split at hr
  · rename_i e
    subst e
    have hi := b_lt hr
    rw [b_and, Bool.and_eq_true, b_m2 hi] at hr
    have g1 := h0.2.2.1 i hr.1
    have g2 := of_decide_eq_true hr.2
    exact ⟨Nat.zero_le _, by omega, g1⟩
  · have := h4 p i hr
    exact ⟨this.2.1, this.2.2.1, this.2.2.2⟩
/-- the place of the fault, or what the text tells -/
def rdL : List Nat → Nat → PSt → Nat ⊕ AE
  | [], i, S => if qStage S = 2 ∧ qDepth S = 0 then .inr (drA (pCloseR S)) else .inl i
  | b :: T, i, S => match tk b S with
    | none => .inl i
    | some S' => rdL T (i + 1) S'
def rdT (T : List Nat) : Nat ⊕ AE := rdL T 0 pS0
theorem rdL_drop {T : List Nat} {i : Nat} {S : PSt} (hi : i ≤ T.length) (h : psN (fun j => T.getD j 0) i = some S) : rdT T = rdL (T.drop i) i S ∧ PWf S := by
  induction i generalizing S with
  | zero => cases h; exact ⟨rfl, pS0_wf⟩
  | succ i ih =>
    have h : (psN (fun j => T.getD j 0) i).bind (tk (T.getD i 0)) = some S := h
    obtain ⟨S1, e1, e2⟩ := Option.bind_eq_some_iff.mp h
    obtain ⟨g1, g2⟩ := ih (by omega) e1
    have e3 : T.getD i 0 = T[i] := by
      rw [List.getD_eq_getElem?_getD, List.getElem?_eq_getElem (by omega)]; rfl
    rw [e3] at e2
    refine ⟨?_, g2.next e2⟩
    rw [g1, List.drop_eq_getElem_cons (show i < T.length by omega)]
    conv => lhs; unfold rdL
    rw [e2]
def sX (a : AS) (x : Nat) (A : AE) : AS := (a.1, a.2.1, fun y => if y = x then some A else aX a y, a.2.2.2)
def reaA (a : AS) (x : Int32) : Rs := match rn 4 x with
  | none => rfA (-2) a
  | some x => match rdT (aT a) with
    | .inl i => (-10 - nI i, a)
    | .inr A => (nI A.2.2.2, sX a x A)
theorem le_no {n : Nat} {x : Int32} (hn : n + 1 < 2 ^ 31) (g : nI (n + 1) ≤ x) : ¬ x ≤ nI n := by
  intro hd
  rw [Int32.le_iff_toInt_le] at g hd
  rw [nI_toInt hn] at g
  rw [nI_toInt (show n < 2 ^ 31 by omega)] at hd
  omega
section ClReads
variable {τ : Ty} {Q : Option Value → Ty → Prop} {a : AS}
theorem degree_spec {v w : Int32} (hC : CIs τ a) (h : ∀ τ', OffC τ τ' → CIs τ' (degA a v w).2 → Q (some (.int (degA a v w).1)) τ') : RT mX10_degree none 0 [some (.ref 0), some (.int v), some (.int w), none, none, none] [] τ Q := by
  have hl30 := hC.1.2.2.1
  have no : degA a v w = rfA (-2) a → RT mX10_degree none 16 [some (.ref 0), some (.int v), some (.int w), none, none, none] [] τ Q := by
    intro e
    rw [e] at h
    refine rt_run 2 rfl ?_
    refine rt_cV (ci := 10) mX10_refuse kX10_degree_19 okX10_refuse rfl rfl rfl rfl rfl ?_
    exact refuse_spec hC (Or.inl rfl) (fun τ' hO hC' => rt_iret rfl rfl (h τ' hO hC'))
  refine rt_run 1 rfl ?_
  refine rt_cS mX10_isVertex kX10_degree_1 okX10_isVertex rfl rfl ?_
  refine isVertex_spec (fun hh => ?_) (fun v' hv ev => ?_)
  · exact rt_if_eq rfl (fun _ => no (by unfold degA; rw [rn_no (by decide) hh])) (fun hc => absurd rfl hc)
  subst ev
  refine rt_if_eq rfl (fun hc => absurd hc (by decide)) (fun _ => ?_)
  have rl : rn 2 w = none → degA a (nI v') w = rfA (-2) a := fun e => by
    unfold degA; rw [rn_so hv (by decide)]; dsimp only; rw [e]
  refine rt_run 1 rfl ?_
  refine rt_if_lt rfl (fun hc => no (rl (rn_out (Or.inl hc)))) (fun hc => ?_)
  refine rt_run 2 rfl ?_
  rcases pk_ix w (n := 2) (by decide) with g | g | ⟨w', hw, ew⟩
  · exact absurd g hc
  · exact rt_ic_le rfl (fun hd => absurd hd (le_no (n := 1) (by decide) g)) (fun hd => no (rl (rn_out (Or.inr g))))
  subst ew
  have eA : degA a (nI v') (nI w') = (nI (dgN (aG a) v' w'), a) := by
    unfold degA; rw [rn_so hv (by omega)]; dsimp only; rw [rn_so hw (by decide)]
  rw [eA] at h
  refine rt_le w' 1 rfl (by omega) (by omega) (fun _ => ?_) (fun _ => by omega)
  have loop : ∀ ks, aI ks = some 30 → (∀ i q, (aG a)[i]? = some q → gI τ ks i = nI (if w' = 0 then q.1 else q.2.2)) → ∀ d i, i + d = (aG a).length → RT mX10_degree none 51 [some (.ref 0), some (.int (nI v')), some (.int (nI w')), some (.ref ks), some (.int (nI (dgN ((aG a).take i) v' w'))), some (.int (nI i))] [] τ Q := by
    intro ks hks hrow d
    induction d with
    | zero =>
      intro i hi
      refine rt_run 4 rfl ?_
      refine rt_ge i (aG a).length rfl (by omega) (by omega) (fun _ => ?_) (fun _ => by omega) rfl hC.1.1
      refine rt_run 1 rfl ?_
      rw [List.take_of_length_le (by omega)]
      exact rt_iret rfl rfl (h τ (OffC.rf _) hC)
    | succ d ih =>
      intro i hi
      refine rt_run 4 rfl ?_
      refine rt_ge i (aG a).length rfl (by omega) (by omega) (fun _ => by omega) (fun hlt => ?_) rfl hC.1.1
      have hq : (aG a)[i]? = some (aG a)[i] := List.getElem?_eq_getElem hlt
      have h10 := hC.1.2.2.2 _ (List.getElem_mem hlt)
      have hih := ih (i + 1) (by omega)
      have etake : dgN ((aG a).take (i + 1)) v' w' = dgN ((aG a).take i) v' w' + (if (if w' = 0 then (aG a)[i].1 else (aG a)[i].2.2) = v' then 1 else 0) := by
        unfold dgN
        rw [List.take_add_one, hq, List.countP_append]
        show _ + List.countP _ [(aG a)[i]] = _
        rw [List.countP_singleton]
        simp only [decide_eq_true_eq]
      rw [etake, nI_succ i] at hih
      refine rt_run 2 rfl ?_
      refine rt_ld i rfl hks (by omega) ?_
      rw [hrow i _ hq]
      refine rt_run 1 rfl ?_
      refine rt_ne (if w' = 0 then (aG a)[i].1 else (aG a)[i].2.2) v' rfl (by split <;> omega) (by omega) (fun hne => ?_) (fun heq => ?_)
      · rw [if_neg hne, Nat.add_zero] at hih
        refine rt_run 2 rfl ?_
        exact hih
      · rw [if_pos heq, nI_succ] at hih
        refine rt_run 3 rfl ?_
        exact hih
  refine rt_run 1 rfl ?_
  refine rt_if_ne rfl (fun hw0 => ?_) (fun hw0 => ?_)
  · have hne : w' ≠ 0 := fun e => hw0 (by rw [e]; rfl)
    refine rt_run 8 rfl ?_
    exact loop 4 rfl (fun i q hq => by rw [if_neg hne]; exact (hC.1.2.1 i q hq).2.2) (aG a).length 0 (by omega)
  · have heq : w' = 0 := by
      by_cases hz : w' = 0
      · exact hz
      · exact absurd hw0 (nI_ne0 (by omega) (by omega))
    refine rt_run 9 rfl ?_
    exact loop 2 rfl (fun i q hq => by rw [if_pos heq]; exact (hC.1.2.1 i q hq).1) (aG a).length 0 (by omega)
theorem CIs.tx {τ τ' : Ty} {a : AS} {T : List Nat} (h : CIs τ a) (ho : Off [0, 20] τ τ') (hT : TxIs τ' T) (hf : ∀ j, 13 ≤ j → gF τ' 0 j = gF τ 0 j) : CIs τ' (sT a T) := by
  obtain ⟨h1, h2, h3, h4, h5, h6, h7, h8⟩ := h
  refine ⟨h1.offW ho.w (by decide), h2.offW ho.w (by decide), h3.offW ho.w (by decide), hT, h5.offW ho.w (fun k g1 g2 hin => by simp at hin; omega), h6.eq ho.2, ?_, ?_⟩
  · unfold SdIs at *
    rw [(ho.1 49 (by decide)).2.2, (ho.1 50 (by decide)).1]
    exact h7
  · unfold CtIs at *
    rw [hf 13 (by decide), hf 14 (by decide), hf 15 (by decide)]
    exact h8
theorem type_spec {c : Int32} (hC : CIs τ a) (h : ∀ τ', OffC τ τ' → CIs τ' (typA a c).2 → Q (some (.int (typA a c).1)) τ') : RT mX10_type none 0 [some (.ref 0), some (.int c)] [] τ Q := by
  obtain ⟨t1, t2, t3⟩ := hC.2.2.2.1
  have no : typA a c = rfA (-2) a → RT mX10_type none 10 [some (.ref 0), some (.int c)] [] τ Q := by
    intro e
    rw [e] at h
    refine rt_run 2 rfl ?_
    refine rt_cV (ci := 10) mX10_refuse kX10_type_13 okX10_refuse rfl rfl rfl rfl rfl ?_
    exact refuse_spec hC (Or.inl rfl) (fun τ' hO hC' => rt_iret rfl rfl (h τ' hO hC'))
  have rl : rn 128 c = none → typA a c = rfA (-2) a := fun e => by unfold typA; rw [e]
  refine rt_run 1 rfl ?_
  refine rt_if_lt rfl (fun hc => no (rl (rn_out (Or.inl hc)))) (fun hc => ?_)
  refine rt_run 2 rfl ?_
  rcases pk_ix c (n := 128) (by decide) with g | g | ⟨c', hc', ec⟩
  · exact absurd g hc
  · exact rt_ic_le rfl (fun hd => absurd hd (le_no (n := 127) (by decide) g)) (fun hd => no (rl (rn_out (Or.inr g))))
  subst ec
  have eA : typA a (nI c') = if 80 ≤ (aT a).length then rfA (-4) a else (nI ((aT a).length + 1), sT a (aT a ++ [c'])) := by
    unfold typA; rw [rn_so hc' (by decide)]
  rw [eA] at h
  refine rt_le c' 127 rfl (by omega) (by omega) (fun _ => ?_) (fun _ => by omega)
  refine rt_run 3 rfl ?_
  refine rt_lt (aT a).length 80 rfl (by omega) (by omega) (fun hlt => ?_) (fun hge => ?_) t1
  · rw [if_neg (by omega)] at h
    refine rt_run 5 rfl ?_
    refine rt_st (aT a).length rfl (n := 80) rfl (by omega) ?_ t1
    refine rt_run 8 rfl ?_
    have e1 : gF (sI τ 20 (aT a).length (nI c')) 0 5 + 1 = nI ((aT a).length + 1) := by
      show gF τ 0 5 + 1 = _
      rw [t1, ← nI_succ]
    have hO : Off [0, 20] τ (sF (sI τ 20 (aT a).length (nI c')) 0 5 (gF (sI τ 20 (aT a).length (nI c')) 0 5 + 1)) := ((Off.rf _ _).sI (by simp) _ _).sF (by simp) _ _
    have e2 : gF (sF (sI τ 20 (aT a).length (nI c')) 0 5 (gF (sI τ 20 (aT a).length (nI c')) 0 5 + 1)) 0 5 = nI ((aT a).length + 1) := by
      rw [gF_sF, if_pos rfl, pk_us, e1]
    rw [e2]
    refine rt_iret rfl rfl (h _ (hO.c (by decide)) (hC.tx hO ⟨by rw [e2, List.length_append]; rfl, by rw [List.length_append]; exact hlt, fun i b hb => ?_⟩ (fun j hj => ?_)))
    · show b < 128 ∧ upd (gI τ 20) (aT a).length (nI c') i = nI b
      rcases getApp hb with ⟨hi, hb⟩ | ⟨rfl, rfl⟩
      · rw [pk_un (by omega)]; exact t3 i b hb
      · rw [pk_us]; exact ⟨hc', rfl⟩
    · show upd (gF τ 0) 5 _ j = _
      rw [pk_un (by omega)]
  · rw [if_pos hge] at h
    refine rt_run 2 rfl ?_
    refine rt_cV (ci := 10) mX10_refuse kX10_type_29 okX10_refuse rfl rfl rfl rfl rfl ?_
    exact refuse_spec hC (Or.inr (Or.inr rfl)) (fun τ' hO hC' => rt_iret rfl rfl (h τ' hO hC'))
theorem clear_spec (hC : CIs τ a) (h : ∀ τ', OffC τ τ' → CIs τ' (cleA a).2 → Q (some (.int (cleA a).1)) τ') : RT mX10_clear none 0 [some (.ref 0), none] [] τ Q := by
  refine rt_run 7 rfl ?_
  rw [hC.2.2.2.1.1]
  have hO : Off [0, 20] τ (sF τ 0 5 0) := (Off.rf _ _).sF (by simp) _ _
  refine rt_iret rfl rfl (h _ (hO.c (by decide)) (hC.tx hO ⟨rfl, by simp, fun i b hb => by simp at hb⟩ (fun j hj => ?_)))
  show upd (gF τ 0) 5 _ j = _
  rw [pk_un (by omega)]
theorem reads_spec {x : Int32} (hC : CIs τ a) (h : ∀ τ', OffC τ τ' → CIs τ' (reaA a x).2 → Q (some (.int (reaA a x).1)) τ') : RT mX10_reads none 0 [some (.ref 0), some (.int x), none] [] τ Q := by
  obtain ⟨t1, t2, t3⟩ := hC.2.2.2.1
  refine rt_run 1 rfl ?_
  refine rt_cS mX10_isExpression kX10_reads_1 okX10_isExpression rfl rfl ?_
  refine isExpr_spec (fun hh => ?_) (fun x' hx ex => ?_)
  · refine rt_if_ne rfl (fun hc => absurd rfl hc) (fun _ => ?_)
    refine rt_run 2 rfl ?_
    refine rt_cV (ci := 10) mX10_refuse kX10_reads_10 okX10_refuse rfl rfl rfl rfl rfl ?_
    unfold reaA at h
    rw [rn_no (by decide) hh] at h
    exact refuse_spec hC (Or.inl rfl) (fun τ' hO hC' => rt_iret rfl rfl (h τ' hO hC'))
  subst ex
  refine rt_if_ne rfl (fun _ => ?_) (fun hc => absurd hc (by decide))
  have eA : reaA a (nI x') = (match rdT (aT a) with
    | .inl i => (-10 - nI i, a)
    | .inr A => (nI A.2.2.2, sX a x' A)) := by
    unfold reaA; rw [rn_so hx (by decide)]
  rw [eA] at h
  have fault : ∀ τ' i, Off kR τ τ' → i ≤ 80 → rdT (aT a) = .inl i → RT mX10_reads none 29 [some (.ref 0), some (.int (nI x')), none] [.int (nI i)] τ' Q := by
    intro τ' i hO hi e
    rw [e] at h
    refine rt_run 3 rfl ?_
    refine rt_ic_eq rfl (fun hc => absurd hc (neg1 (by omega))) (fun _ => ?_)
    refine rt_run 3 rfl ?_
    exact rt_iret rfl rfl (h τ' (hO.c (by decide)) (hC.scr (hO.w.up (by decide)) (hC.2.2.2.2.2.1.eq hO.2)))
  refine rt_run 6 rfl ?_
  rw [t1]
  refine rt_cV (ci := 4) mX4_faultOf kX10_reads_26 okX4_faultOf rfl rfl rfl rfl rfl ?_
  refine faultOf_spec (t := fun j => (aT a).getD j 0) t2 (fun i hi => ?_) (fun i S hi hS htk τ' hO => ?_) (fun S hS hst τ' hO => ?_) (fun S hS hst hdp τ' hO hD => ?_)
  · have e : (aT a).getD i 0 = (aT a)[i] := by rw [List.getD_eq_getElem?_getD, List.getElem?_eq_getElem hi]; rfl
    rw [e]
    exact t3 i _ (List.getElem?_eq_getElem hi)
  · refine fault τ' i hO (by omega) ?_
    obtain ⟨g1, g2⟩ := rdL_drop (by omega) hS
    have e : (aT a).getD i 0 = (aT a)[i] := by rw [List.getD_eq_getElem?_getD, List.getElem?_eq_getElem hi]; rfl
    rw [e] at htk
    rw [g1, List.drop_eq_getElem_cons hi]
    unfold rdL
    rw [htk]
  · refine fault τ' _ hO t2 ?_
    obtain ⟨g1, g2⟩ := rdL_drop (Nat.le_refl _) hS
    rw [g1, List.drop_length]
    unfold rdL
    rw [if_neg]
    rintro ⟨q1, q2⟩
    exact hst.elim (fun e => e q1) (fun e => e q2)
  · obtain ⟨g1, g2⟩ := rdL_drop (Nat.le_refl _) hS
    rw [List.drop_length] at g1
    unfold rdL at g1
    rw [if_pos ⟨hst, hdp⟩] at g1
    rw [g1] at h
    have hwf := g2.closeR
    generalize pCloseR S = S1 at h hD hwf
    have hAwf := drA_wf hwf
    dsimp only at h
    have hC1 : CIs τ' a := hC.scr (hO.w.up (by decide)) (hC.2.2.2.2.2.1.eq hO.2)
    obtain ⟨f0, f1, f2, f3, f4, a0, a1, h38⟩ := isE_f (isE_x hx)
    refine rt_run 3 rfl ?_
    refine rt_ic_eq rfl (fun _ => ?_) (fun hc => absurd rfl hc)
    refine rt_run 3 rfl ?_
    refine rt_aald rfl hx ?_
    refine rt_run 3 rfl ?_
    refine rt_cV (ci := 2) mX2_become kX10_reads_53 okX2_become (isE_s (isE_x hx)) rfl rfl rfl rfl ?_
    refine become_spec (isE_x hx) (Or.inl rfl) (by omega) (fun f g hf hg => ?_)
    have hO2 : Off [51 + 3 * x', 51 + 3 * x' + 1, 51 + 3 * x' + 2] τ' (sF (sF (sF (sA (sA τ' (51 + 3 * x' + 1) f) (51 + 3 * x' + 2) g) (51 + 3 * x') 2 (gF τ' 23 2)) (51 + 3 * x') 3 (gF τ' 23 3)) (51 + 3 * x') 4 1) := (((((Off.rf _ _).sA (by simp) _).sA (by simp) _).sF (by simp) _ _).sF (by simp) _ _).sF (by simp) _ _
    have hE2 : gF (sF (sF (sF (sA (sA τ' (51 + 3 * x' + 1) f) (51 + 3 * x' + 2) g) (51 + 3 * x') 2 (gF τ' 23 2)) (51 + 3 * x') 3 (gF τ' 23 3)) (51 + 3 * x') 4 1) (51 + 3 * x') 4 = 1 ∧ ExIs (sF (sF (sF (sA (sA τ' (51 + 3 * x' + 1) f) (51 + 3 * x' + 2) g) (51 + 3 * x') 2 (gF τ' 23 2)) (51 + 3 * x') 3 (gF τ' 23 3)) (51 + 3 * x') 4 1) (51 + 3 * x') (drA S1) := by
      have eI1 : gI (sF (sF (sF (sA (sA τ' (51 + 3 * x' + 1) f) (51 + 3 * x' + 2) g) (51 + 3 * x') 2 (gF τ' 23 2)) (51 + 3 * x') 3 (gF τ' 23 3)) (51 + 3 * x') 4 1) (51 + 3 * x' + 1) = f := by
        rw [gI_sF, gI_sF, gI_sF, gI_sA, if_neg (by omega), gI_sA, if_pos rfl]
      have eI2 : gI (sF (sF (sF (sA (sA τ' (51 + 3 * x' + 1) f) (51 + 3 * x' + 2) g) (51 + 3 * x') 2 (gF τ' 23 2)) (51 + 3 * x') 3 (gF τ' 23 3)) (51 + 3 * x') 4 1) (51 + 3 * x' + 2) = g := by
        rw [gI_sF, gI_sF, gI_sF, gI_sA, if_pos rfl]
      have eF4 : gF (sF (sF (sF (sA (sA τ' (51 + 3 * x' + 1) f) (51 + 3 * x' + 2) g) (51 + 3 * x') 2 (gF τ' 23 2)) (51 + 3 * x') 3 (gF τ' 23 3)) (51 + 3 * x') 4 1) (51 + 3 * x') 4 = 1 := by
        rw [gF_sF, if_pos rfl, pk_us]
      have eF3 : gF (sF (sF (sF (sA (sA τ' (51 + 3 * x' + 1) f) (51 + 3 * x' + 2) g) (51 + 3 * x') 2 (gF τ' 23 2)) (51 + 3 * x') 3 (gF τ' 23 3)) (51 + 3 * x') 4 1) (51 + 3 * x') 3 = gF τ' 23 3 := by
        rw [gF_sF, if_pos rfl, pk_un (by decide), gF_sF, if_pos rfl, pk_us]
      have eF2 : gF (sF (sF (sF (sA (sA τ' (51 + 3 * x' + 1) f) (51 + 3 * x' + 2) g) (51 + 3 * x') 2 (gF τ' 23 2)) (51 + 3 * x') 3 (gF τ' 23 3)) (51 + 3 * x') 4 1) (51 + 3 * x') 2 = gF τ' 23 2 := by
        rw [gF_sF, if_pos rfl, pk_un (by decide), gF_sF, if_pos rfl, pk_un (by decide), gF_sF, if_pos rfl, pk_us]
      obtain ⟨rf, rl, cf, cl, pf, pl, sg, d, fol, be, n⟩ := S1
      obtain ⟨d1, d2, d3, d4, d5⟩ := hD
      refine ⟨eF4, by rw [eF3]; exact d1, fun p hp i hi => ?_, fun s hs i hi => ?_, fun i hi => ?_, hAwf⟩
      · rw [eI1, hf p hp, show gI τ' (23 + 1) p = _ from d3 p hp]
        rfl
      · rw [eI2, hg s hs, show gI τ' (23 + 2) s = _ from d4 s hs]
        rfl
      · rw [eF2, d5]
        rfl
    generalize (sF (sF (sF (sA (sA τ' (51 + 3 * x' + 1) f) (51 + 3 * x' + 2) g) (51 + 3 * x') 2 (gF τ' 23 2)) (51 + 3 * x') 3 (gF τ' 23 3)) (51 + 3 * x') 4 1) = τ2 at hO2 hE2
    have hks : ∀ k, k < 51 ∨ 63 ≤ k → k ∉ [51 + 3 * x', 51 + 3 * x' + 1, 51 + 3 * x' + 2] := by
      intro k hk hin
      simp at hin
      omega
    have hC2 : CI1 τ2 (sX a x' (drA S1)) := by
      obtain ⟨c1, c3, c4, c5, c6, c7, c8⟩ := hC1.one
      refine ⟨c1.offW hO2.w ⟨hks _ (by omega), hks _ (by omega), hks _ (by omega), hks _ (by omega)⟩, c3.offW hO2.w ⟨hks _ (by omega), hks _ (by omega), hks _ (by omega), hks _ (by omega), hks _ (by omega)⟩, ?_, fun y hy => ?_, c6.eq hO2.2, ?_, ?_⟩
      · unfold TxIs at *
        rw [(hO2.1 0 (hks _ (by omega))).2.2, (hO2.1 20 (hks _ (by omega))).1]
        exact c4
      · show match (if y = x' then some (drA S1) else aX a y) with
          | none => _
          | some A => _
        by_cases hyx : y = x'
        · subst hyx
          rw [if_pos rfl]
          exact hE2
        · rw [if_neg hyx]
          have hn : ∀ k, (k = 51 + 3 * y ∨ k = 51 + 3 * y + 1 ∨ k = 51 + 3 * y + 2) → k ∉ [51 + 3 * x', 51 + 3 * x' + 1, 51 + 3 * x' + 2] := by
            intro k hk hin
            simp at hin
            omega
          have h5 := c5 y hy
          have eF := (hO2.1 (51 + 3 * y) (hn _ (Or.inl rfl))).2.2
          cases hA : aX a y with
          | none =>
            rw [hA] at h5
            dsimp only at h5 ⊢
            rw [eF]
            exact h5
          | some A =>
            rw [hA] at h5
            dsimp only at h5 ⊢
            exact ⟨by rw [eF]; exact h5.1, h5.2.off hO2 ⟨hn _ (Or.inl rfl), hn _ (Or.inr (Or.inl rfl)), hn _ (Or.inr (Or.inr rfl))⟩⟩
      · obtain ⟨s1, s2, s3, s4⟩ := c7
        refine ⟨?_, fun y hy => ⟨(s2 y hy).1, ?_⟩, ?_, ?_⟩
        · rw [(hO2.1 49 (hks _ (by omega))).2.2]; exact s1
        · show (if y = x' then some (drA S1) else aX a y).isSome = true
          split
          · rfl
          · exact (s2 y hy).2
        · rw [(hO2.1 49 (hks _ (by omega))).2.2]; exact s3
        · rw [(hO2.1 49 (hks _ (by omega))).2.2]; exact s4
      · unfold CtIs at *
        rw [(hO2.1 0 (hks _ (by omega))).2.2]
        exact c8
    have hS2 : StIs τ2 5 (stL (aG a) none) := hC1.2.1.off hO2 ⟨hks _ (by omega), hks _ (by omega), hks _ (by omega), hks _ (by omega), hks _ (by omega)⟩
    have hOC2 : OffC τ τ2 := (hO.c (by decide)).tr (hO2.c (by intro k hk; simp at hk; omega))
    have fin : ∀ τ3, OffC τ2 τ3 → CIs τ3 (sX a x' (drA S1)) → gF τ3 (51 + 3 * x') 3 = nI (drA S1).2.2.2 → RT mX10_reads none 71 [some (.ref 0), some (.int (nI x')), some (.int (-1))] [] τ3 Q := by
      intro τ3 hO3 hC3 e3
      refine rt_run 3 rfl ?_
      refine rt_aald rfl hx ?_
      refine rt_getI rfl f3 ?_
      rw [e3]
      exact rt_iret rfl rfl (h τ3 (hOC2.tr hO3) hC3)
    have hw := hC2.2.2.2.2.2.1.1
    have hw2 := hC2.2.2.2.2.2.1.2.1
    refine rt_run 4 rfl ?_
    refine rt_ic_ne rfl (fun hc => ?_) (fun hc => ?_)
    · refine fin τ2 (OffC.rf _) (hC2.all hS2 (fun u hu => ?_)) hE2.2.1
      rw [(hO2.1 50 (hks _ (by omega))).1, hC1.2.2.2.2.2.2.1.2.2.2.2 u hu]
      show rowI (aG a) (aX a) (aW a) u = rowI (aG a) (fun y => if y = x' then some (drA S1) else aX a y) (aW a) u
      cases hW : aW a with
      | none => rfl
      | some y =>
        have hyx : y ≠ x' := by
          intro e
          subst e
          refine hc ?_
          rw [hw]
          show wI (aW a) = _
          rw [hW]; rfl
        simp only [rowI, if_neg hyx]
    · refine rt_run 1 rfl ?_
      refine rt_cV (ci := 10) mX10_keepAnswers kX10_reads_68 okX10_keepAnswers rfl rfl rfl rfl rfl ?_
      refine keepAnswers_spec (a := sX a x' (drA S1)) hC2 hS2 (fun τ3 hO3 hC3 => ?_)
      refine fin τ3 (hO3.c (by decide)) hC3 ?_
      rw [(hO3.1 (51 + 3 * x') (by simp; omega)).2.2]
      exact hE2.2.1
end ClReads

/-! counting, whatever the order: pushes of ways to a state at a vertex -/
def sm {α : Type} : List α → (α → Nat) → Nat
  | [], _ => 0
  | x :: l, f => f x + sm l f
theorem sm_app {α : Type} (l l' : List α) (f : α → Nat) : sm (l ++ l') f = sm l f + sm l' f := by
  induction l with
  | nil => simp [sm]
  | cons x l ih => simp only [List.cons_append, sm, ih]; omega
theorem sm_ext {α : Type} {l : List α} {f g : α → Nat} (h : ∀ x ∈ l, f x = g x) : sm l f = sm l g := by
  induction l with
  | nil => rfl
  | cons x l ih =>
    simp only [sm]
    rw [h x (List.mem_cons_self ..), ih (fun y hy => h y (List.mem_cons_of_mem _ hy))]
theorem sm_zero {α : Type} {l : List α} {f : α → Nat} (h : ∀ x ∈ l, f x = 0) : sm l f = 0 := by
  induction l with
  | nil => rfl
  | cons x l ih =>
    simp only [sm]
    rw [h x (List.mem_cons_self ..), ih (fun y hy => h y (List.mem_cons_of_mem _ hy))]
theorem sm_add {α : Type} (l : List α) (f g : α → Nat) : sm l (fun x => f x + g x) = sm l f + sm l g := by
  induction l with
  | nil => rfl
  | cons x l ih => simp only [sm, ih]; omega
theorem sm_comm {α β : Type} (l : List α) (l' : List β) (f : α → β → Nat) : sm l (fun x => sm l' (fun y => f x y)) = sm l' (fun y => sm l (fun x => f x y)) := by
  induction l with
  | nil => simp only [sm]; exact (sm_zero (fun _ _ => rfl)).symm
  | cons x l ih => simp only [sm, ih]; rw [sm_add]
theorem sm_perm {α : Type} {l l' : List α} (h : l.Perm l') (f : α → Nat) : sm l f = sm l' f := by
  induction h with
  | nil => rfl
  | cons x _ ih => simp only [sm, ih]
  | swap x y l => simp only [sm]; omega
  | trans _ _ ih1 ih2 => rw [ih1, ih2]
theorem sm_map {α β : Type} (l : List α) (g : α → β) (f : β → Nat) : sm (l.map g) f = sm l (fun x => f (g x)) := by
  induction l with
  | nil => rfl
  | cons x l ih => simp only [List.map_cons, sm, ih]
theorem sm_pos {α : Type} {l : List α} {f : α → Nat} (h : sm l f ≠ 0) : ∃ x ∈ l, f x ≠ 0 := by
  induction l with
  | nil => exact absurd rfl h
  | cons x l ih =>
    simp only [sm] at h
    by_cases h1 : f x = 0
    · obtain ⟨y, h2, h3⟩ := ih (by omega)
      exact ⟨y, List.mem_cons_of_mem _ h2, h3⟩
    · exact ⟨x, List.mem_cons_self .., h1⟩
abbrev Pu : Type := Nat × Nat × Nat
def push1 (p : Pu) (KT : List Nat × WF) : Option (List Nat × WF) := if p.1 ∈ KT.1 ∨ KT.1.length < 400 then some (addK KT.1 p.1, updT KT.2 p.1 p.2.1 (min CM (KT.2 p.1 p.2.1 + p.2.2))) else none
def pushL : List Pu → List Nat × WF → Option (List Nat × WF)
  | [], KT => some KT
  | p :: ps, KT => (push1 p KT).bind (pushL ps)
theorem pushL_app (ps qs : List Pu) (KT : List Nat × WF) : pushL (ps ++ qs) KT = (pushL ps KT).bind (pushL qs) := by
  induction ps generalizing KT with
  | nil => rfl
  | cons p ps ih =>
    show (push1 p KT).bind (pushL (ps ++ qs)) = ((push1 p KT).bind (pushL ps)).bind (pushL qs)
    cases push1 p KT with
    | none => rfl
    | some KT' => exact ih KT'
def amt1 (x w : Nat) (p : Pu) : Nat := if p.1 = x ∧ p.2.1 = w then p.2.2 else 0
theorem addK_nd {K : List Nat} {x : Nat} (h : K.Nodup) : (addK K x).Nodup := by
  unfold addK
  split
  · exact h
  · rename_i hn
    rw [List.nodup_append]
    refine ⟨h, by simp, ?_⟩
    intro a ha b hb e
    simp at hb
    subst hb
    subst e
    exact hn ha
theorem addK_mem {K : List Nat} {x y : Nat} : y ∈ addK K x ↔ y ∈ K ∨ x = y := by
  unfold addK
  split
  · rename_i h
    constructor
    · exact Or.inl
    · rintro (g | rfl)
      · exact g
      · exact h
  · rw [List.mem_append, List.mem_singleton]
    constructor
    · rintro (g | g)
      · exact Or.inl g
      · exact Or.inr g.symm
    · rintro (g | g)
      · exact Or.inl g
      · exact Or.inr g.symm
theorem addK_len {K : List Nat} {x : Nat} (h : x ∈ K ∨ K.length < 400) (hl : K.length ≤ 400) : (addK K x).length ≤ 400 := by
  unfold addK
  split
  · exact hl
  · rename_i hn
    rw [List.length_append, List.length_singleton]
    rcases h with h | h
    · exact absurd h hn
    · omega
theorem pushL_some {ps : List Pu} {KT KT' : List Nat × WF} (h : pushL ps KT = some KT') (hn : KT.1.Nodup) (hl : KT.1.length ≤ 400) (hT : ∀ x w, KT.2 x w ≤ CM) :
    KT'.1.Nodup ∧ KT'.1.length ≤ 400 ∧ (∀ x, x ∈ KT'.1 ↔ (x ∈ KT.1 ∨ ∃ p ∈ ps, p.1 = x)) ∧ ∀ x w, KT'.2 x w = min CM (KT.2 x w + sm ps (amt1 x w)) := by
  induction ps generalizing KT with
  | nil =>
    cases h
    refine ⟨hn, hl, fun x => by simp, fun x w => ?_⟩
    have := hT x w
    simp only [sm]
    omega
  | cons p ps ih =>
    have h : (push1 p KT).bind (pushL ps) = some KT' := h
    obtain ⟨KT1, e1, e2⟩ := Option.bind_eq_some_iff.mp h
    unfold push1 at e1
    split at e1
    · rename_i hc
      cases e1
      obtain ⟨i1, i2, i3, i4⟩ := ih e2 (addK_nd hn) (addK_len hc hl) (fun x w => by
        show (if x = p.1 ∧ w = p.2.1 then min CM (KT.2 p.1 p.2.1 + p.2.2) else KT.2 x w) ≤ CM
        split
        · exact Nat.min_le_left _ _
        · exact hT x w)
      refine ⟨i1, i2, fun x => ?_, fun x w => ?_⟩
      · rw [i3 x]
        show (x ∈ addK KT.1 p.1 ∨ _) ↔ _
        rw [addK_mem]
        constructor
        · rintro ((g | g) | ⟨q, g1, g2⟩)
          · exact Or.inl g
          · exact Or.inr ⟨p, List.mem_cons_self .., g⟩
          · exact Or.inr ⟨q, List.mem_cons_of_mem _ g1, g2⟩
        · rintro (g | ⟨q, g1, g2⟩)
          · exact Or.inl (Or.inl g)
          · rcases List.mem_cons.mp g1 with rfl | g1
            · exact Or.inl (Or.inr g2)
            · exact Or.inr ⟨q, g1, g2⟩
      · rw [i4 x w]
        show min CM ((if x = p.1 ∧ w = p.2.1 then min CM (KT.2 p.1 p.2.1 + p.2.2) else KT.2 x w) + sm ps (amt1 x w)) = min CM (KT.2 x w + ((if p.1 = x ∧ p.2.1 = w then p.2.2 else 0) + sm ps (amt1 x w)))
        by_cases hx : x = p.1 ∧ w = p.2.1
        · rw [if_pos hx, if_pos ⟨hx.1.symm, hx.2.symm⟩, hx.1, hx.2]
          omega
        · rw [if_neg hx, if_neg (fun g => hx ⟨g.1.symm, g.2.symm⟩)]
          omega
    · cases e1
theorem pushL_none {ps : List Pu} {KT : List Nat × WF} (h : pushL ps KT = none) (hn : KT.1.Nodup) (hl : KT.1.length ≤ 400) :
    ∃ M : List Nat, M.Nodup ∧ 400 < M.length ∧ ∀ x ∈ M, x ∈ KT.1 ∨ ∃ p ∈ ps, p.1 = x := by
  induction ps generalizing KT with
  | nil => cases h
  | cons p ps ih =>
    have h : (push1 p KT).bind (pushL ps) = none := h
    unfold push1 at h
    by_cases hc : p.1 ∈ KT.1 ∨ KT.1.length < 400
    · rw [if_pos hc] at h
      have h : pushL ps _ = none := h
      obtain ⟨M, m1, m2, m3⟩ := ih h (addK_nd hn) (addK_len hc hl)
      refine ⟨M, m1, m2, fun x hx => ?_⟩
      rcases m3 x hx with g | ⟨q, g1, g2⟩
      · rcases addK_mem.mp g with g | g
        · exact Or.inl g
        · exact Or.inr ⟨p, List.mem_cons_self .., g⟩
      · exact Or.inr ⟨q, List.mem_cons_of_mem _ g1, g2⟩
    · have h1 : p.1 ∉ KT.1 := fun g => hc (Or.inl g)
      have h2 : ¬ KT.1.length < 400 := fun g => hc (Or.inr g)
      refine ⟨KT.1 ++ [p.1], ?_, by rw [List.length_append, List.length_singleton]; omega, fun x hx => ?_⟩
      · rw [List.nodup_append]
        refine ⟨hn, by simp, ?_⟩
        intro a ha b hb e
        simp at hb
        subst hb
        subst e
        exact h1 ha
      · rcases List.mem_append.mp hx with g | g
        · exact Or.inl g
        · simp at g
          exact Or.inr ⟨p, List.mem_cons_self .., g.symm⟩
/-! the class's pushes -/
def pst (A : AE) (W : WF) (c : Nat) (st : Nat × Nat × Nat × Nat) : List Pu := if W c st.1 = 0 then [] else [(nx A c st.2.1, st.2.2.1, W c st.1)]
def pcl (A : AE) (L : SL) (W : WF) (c : Nat) : List Pu := if c = 0 then [] else L.flatMap (pst A W c)
theorem adv1_push (A : AE) (W : WF) (c : Nat) (st : Nat × Nat × Nat × Nat) (KT : List Nat × WF) : adv1 A W c st KT = pushL (pst A W c st) KT := by
  unfold adv1 pst
  split
  · rfl
  · show _ = (push1 _ KT).bind (pushL [])
    unfold push1
    dsimp only
    split <;> rfl
theorem advN_push (A : AE) (W : WF) (c : Nat) (L : SL) (KT : List Nat × WF) (n : Nat) : advN A W c L KT n = pushL ((L.take n).flatMap (pst A W c)) KT := by
  induction n with
  | zero => rfl
  | succ n ih =>
    rw [List.take_add_one, List.flatMap_append, pushL_app, ← ih]
    show (advN A W c L KT n).bind _ = _
    congr 1
    funext KT'
    cases L[n]? with
    | none => rfl
    | some st =>
      show adv1 A W c st KT' = pushL ([st].flatMap (pst A W c)) KT'
      rw [adv1_push]
      simp
theorem alN_push (A : AE) (L : SL) (K : List Nat) (W : WF) (n : Nat) : alN A L K W n = pushL ((K.take n).flatMap (pcl A L W)) (K, fun _ _ => 0) := by
  induction n with
  | zero => rfl
  | succ n ih =>
    rw [List.take_add_one, List.flatMap_append, pushL_app, ← ih]
    show (alN A L K W n).bind _ = _
    congr 1
    funext KT'
    cases K[n]? with
    | none => rfl
    | some c =>
      show (if c = 0 then some KT' else advN A W c L KT' L.length) = pushL ([c].flatMap (pcl A L W)) KT'
      have e : [c].flatMap (pcl A L W) = pcl A L W c := by simp
      rw [e, advN_push, List.take_length]
      unfold pcl
      split <;> rfl
/-! the reference's pushes -/
def pmv (A : AE) (P : Nat → List (Nat × Nat)) (W : WF) (v c : Nat) : List Pu := if W c v = 0 then [] else (P v).map (fun st => (nx A c st.1, st.2, W c v))
def pml (A : AE) (P : Nat → List (Nat × Nat)) (K : List Nat) (W : WF) : List Pu := (List.range 10).flatMap (fun v => K.flatMap (pmv A P W v))
def mouN (A : AE) (P : Nat → List (Nat × Nat)) (u : Nat) : Nat → Option (List Nat × WF)
  | 0 => some ([1], fun c w => if c = 1 ∧ w = u then 1 else 0)
  | k + 1 => (mouN A P u k).bind (fun KW => pushL (pml A P KW.1 KW.2) (KW.1, fun _ _ => 0))
def fsm (A : AE) (K : List Nat) (W : WF) (v : Nat) : Nat := sm K (fun c => if finB A c = true then W c v else 0)
def mouI (A : AE) (P : Nat → List (Nat × Nat)) (u v n : Nat) : Int32 := match mouN A P u n with
  | none => -4
  | some KW => if CM ≤ fsm A KW.1 KW.2 v then -4 else nI (fsm A KW.1 KW.2 v)
theorem totN_sm (A : AE) (K : List Nat) (W : WF) (v n : Nat) : totN A K W v n = min CM (fsm A (K.take n) W v) := by
  induction n with
  | zero => rfl
  | succ n ih =>
    unfold fsm
    rw [List.take_add_one, sm_app]
    unfold totN
    unfold fsm at ih
    rw [ih]
    cases K[n]? with
    | none => simp [sm]
    | some c =>
      dsimp only [Option.toList, sm]
      split
      · omega
      · rfl
theorem nx_0 (A : AE) (s : Nat) : nx A 0 s = 0 := by
  apply Nat.eq_of_testBit_eq
  intro i
  unfold nx
  rw [enc_tb, Nat.zero_testBit]
  have : nxt A (fun p => Nat.testBit 0 p) i = false := by
    rw [Bool.eq_false_iff]
    intro h
    obtain ⟨p, -, h2, -⟩ := nxt_iff.mp h
    rw [Nat.zero_testBit] at h2
    cases h2
  rw [this]
  simp
theorem fin_0 (A : AE) : finB A 0 = false := by
  unfold finB
  rw [Bool.eq_false_iff]
  intro h
  rw [List.any_eq_true] at h
  obtain ⟨p, -, h2⟩ := h
  rw [Nat.zero_testBit] at h2
  cases h2
/-- steps and their rows by vertices tell the same, at vertices of V -/
def Cmp (V : Nat → Prop) (L : SL) (P : Nat → List (Nat × Nat)) : Prop :=
  (∀ st ∈ L, V st.1 ∧ V st.2.2.1 ∧ st.1 < 10 ∧ (st.2.1, st.2.2.1) ∈ P st.1) ∧ (∀ v, V v → ∀ q ∈ P v, ∃ e, (v, q.1, q.2, e) ∈ L) ∧
  ∀ f : Nat → Nat → Nat → Nat, (∀ v s t, ¬ V v → f v s t = 0) → sm (List.range 10) (fun v => sm (P v) (fun q => f v q.1 q.2)) = sm L (fun st => f st.1 st.2.1 st.2.2.1)
def RelS (V : Nat → Prop) (X Y : List Nat × WF) : Prop :=
  X.1.Nodup ∧ Y.1.Nodup ∧ X.1.length ≤ 400 ∧ Y.1.length ≤ 400 ∧ (∀ x, x ∈ X.1 ↔ x ∈ Y.1) ∧ (∀ c w, c ≠ 0 → X.2 c w = Y.2 c w) ∧ (∀ c w, X.2 c w ≠ 0 → c ∈ X.1 ∧ V w) ∧ ∀ c w, Y.2 c w ≠ 0 → c ∈ Y.1 ∧ V w
theorem sm_flat {α β : Type} (l : List α) (g : α → List β) (f : β → Nat) : sm (l.flatMap g) f = sm l (fun x => sm (g x) f) := by
  induction l with
  | nil => rfl
  | cons x l ih => rw [List.flatMap_cons, sm_app, ih]; rfl
theorem pcl_amt (A : AE) (L : SL) (W : WF) (c x w : Nat) : sm (pcl A L W c) (amt1 x w) = if c = 0 then 0 else sm L (fun st => if nx A c st.2.1 = x ∧ st.2.2.1 = w then W c st.1 else 0) := by
  unfold pcl
  split
  · rfl
  · rw [sm_flat]
    refine sm_ext (fun st _ => ?_)
    unfold pst
    split
    · rename_i h0
      rw [h0]
      simp [sm]
    · simp [sm, amt1]
theorem pmv_amt (A : AE) (P : Nat → List (Nat × Nat)) (W : WF) (v c x w : Nat) : sm (pmv A P W v c) (amt1 x w) = sm (P v) (fun q => if nx A c q.1 = x ∧ q.2 = w then W c v else 0) := by
  unfold pmv
  split
  · rename_i h0
    rw [h0]
    refine (sm_zero (fun q _ => ?_)).symm
    simp
  · rw [sm_map]
    rfl
theorem rel_step {V : Nat → Prop} {A : AE} {L : SL} {P : Nat → List (Nat × Nat)} {X Y : List Nat × WF} (hC : Cmp V L P) (h : RelS V X Y) :
    (alN A L X.1 X.2 X.1.length = none ∧ pushL (pml A P Y.1 Y.2) (Y.1, fun _ _ => 0) = none) ∨ ∃ X' Y', alN A L X.1 X.2 X.1.length = some X' ∧ pushL (pml A P Y.1 Y.2) (Y.1, fun _ _ => 0) = some Y' ∧ RelS V X' Y' := by
  obtain ⟨h1, h2, h3, h4, h5, h6, h7, h8⟩ := h
  obtain ⟨c1, c2, c3⟩ := hC
  have ea : alN A L X.1 X.2 X.1.length = pushL (X.1.flatMap (pcl A L X.2)) (X.1, fun _ _ => 0) := by rw [alN_push, List.take_length]
  rw [ea]
  -- what states they lead to
  have mx : ∀ x, (∃ p ∈ X.1.flatMap (pcl A L X.2), p.1 = x) → ∃ p ∈ pml A P Y.1 Y.2, p.1 = x := by
    rintro x ⟨p, hp, rfl⟩
    obtain ⟨c, hc, hp⟩ := List.mem_flatMap.mp hp
    unfold pcl at hp
    split at hp
    · cases hp
    · rename_i hc0
      obtain ⟨st, hst, hp⟩ := List.mem_flatMap.mp hp
      unfold pst at hp
      split at hp
      · cases hp
      · rename_i hw0
        simp at hp
        subst hp
        obtain ⟨v1, v2, v3, v4⟩ := c1 st hst
        refine ⟨(nx A c st.2.1, st.2.2.1, Y.2 c st.1), List.mem_flatMap.mpr ⟨st.1, List.mem_range.mpr v3, List.mem_flatMap.mpr ⟨c, (h5 c).mp hc, ?_⟩⟩, rfl⟩
        unfold pmv
        rw [if_neg (by rw [← h6 c st.1 hc0]; exact hw0)]
        exact List.mem_map.mpr ⟨_, v4, rfl⟩
  have my : ∀ x, (∃ p ∈ pml A P Y.1 Y.2, p.1 = x) → x ∈ X.1 ∨ ∃ p ∈ X.1.flatMap (pcl A L X.2), p.1 = x := by
    rintro x ⟨p, hp, rfl⟩
    obtain ⟨v, hv, hp⟩ := List.mem_flatMap.mp hp
    obtain ⟨c, hc, hp⟩ := List.mem_flatMap.mp hp
    unfold pmv at hp
    split at hp
    · cases hp
    · rename_i hw0
      obtain ⟨q, hq, rfl⟩ := List.mem_map.mp hp
      by_cases hc0 : c = 0
      · subst hc0
        left
        show nx A 0 q.1 ∈ X.1
        rw [nx_0]
        exact (h5 0).mpr hc
      · right
        have hV := (h8 c v hw0).2
        obtain ⟨e, he⟩ := c2 v hV q hq
        refine ⟨(nx A c q.1, q.2, X.2 c v), List.mem_flatMap.mpr ⟨c, (h5 c).mpr hc, ?_⟩, rfl⟩
        unfold pcl
        rw [if_neg hc0]
        refine List.mem_flatMap.mpr ⟨_, he, ?_⟩
        unfold pst
        rw [if_neg (by show ¬ X.2 c v = 0; rw [h6 c v hc0]; exact hw0)]
        exact List.mem_singleton.mpr rfl
  have mem : ∀ x, (x ∈ X.1 ∨ ∃ p ∈ X.1.flatMap (pcl A L X.2), p.1 = x) ↔ (x ∈ Y.1 ∨ ∃ p ∈ pml A P Y.1 Y.2, p.1 = x) := by
    intro x
    constructor
    · rintro (g | g)
      · exact Or.inl ((h5 x).mp g)
      · exact Or.inr (mx x g)
    · rintro (g | g)
      · exact Or.inl ((h5 x).mpr g)
      · exact my x g
  -- how many
  have perm : X.1.Perm Y.1 := (List.perm_ext_iff_of_nodup h1 h2).mpr h5
  have eam : ∀ x w, x ≠ 0 → sm (X.1.flatMap (pcl A L X.2)) (amt1 x w) = sm (pml A P Y.1 Y.2) (amt1 x w) := by
    intro x w hx
    rw [sm_flat, sm_perm perm]
    unfold pml
    rw [sm_flat]
    have e1 : ∀ v, sm (Y.1.flatMap (pmv A P Y.2 v)) (amt1 x w) = sm Y.1 (fun c => sm (P v) (fun q => if nx A c q.1 = x ∧ q.2 = w then Y.2 c v else 0)) := by
      intro v
      rw [sm_flat]
      exact sm_ext (fun c _ => pmv_amt A P Y.2 v c x w)
    rw [sm_ext (fun v _ => e1 v), sm_comm]
    refine sm_ext (fun c _ => ?_)
    rw [pcl_amt, c3 (fun v s t => if nx A c s = x ∧ t = w then Y.2 c v else 0) (fun v s t hv => ?_)]
    · split
      · rename_i hc0
        subst hc0
        refine (sm_zero (fun st _ => ?_)).symm
        rw [nx_0, if_neg (fun g => hx g.1.symm)]
      · rename_i hc0
        refine sm_ext (fun st _ => ?_)
        rw [h6 c st.1 hc0]
    · have : Y.2 c v = 0 := by
        by_cases g : Y.2 c v = 0
        · exact g
        · exact absurd (h8 c v g).2 hv
      rw [this]
      simp
  cases hx : pushL (X.1.flatMap (pcl A L X.2)) (X.1, fun _ _ => 0) with
  | none =>
    cases hy : pushL (pml A P Y.1 Y.2) (Y.1, fun _ _ => 0) with
    | none => exact Or.inl ⟨rfl, rfl⟩
    | some Y' =>
      exfalso
      obtain ⟨M, m1, m2, m3⟩ := pushL_none hx h1 h3
      obtain ⟨y1, y2, y3, -⟩ := pushL_some hy h2 h4 (fun _ _ => Nat.zero_le _)
      have := m1.length_le_of_subset (l₂ := Y'.1) (fun x hx => (y3 x).mpr ((mem x).mp (m3 x hx)))
      omega
  | some X' =>
    obtain ⟨x1, x2, x3, x4⟩ := pushL_some hx h1 h3 (fun _ _ => Nat.zero_le _)
    cases hy : pushL (pml A P Y.1 Y.2) (Y.1, fun _ _ => 0) with
    | none =>
      exfalso
      obtain ⟨M, m1, m2, m3⟩ := pushL_none hy h2 h4
      have := m1.length_le_of_subset (l₂ := X'.1) (fun x hx => (x3 x).mpr ((mem x).mpr (m3 x hx)))
      omega
    | some Y' =>
      obtain ⟨y1, y2, y3, y4⟩ := pushL_some hy h2 h4 (fun _ _ => Nat.zero_le _)
      refine Or.inr ⟨X', Y', rfl, rfl, x1, y1, x2, y2, fun x => ?_, fun c w hc => ?_, fun c w hw => ?_, fun c w hw => ?_⟩
      · rw [x3, y3]
        exact mem x
      · rw [x4, y4, eam c w hc]
      · rw [x4] at hw
        obtain ⟨p, hp, hp2⟩ := sm_pos (l := X.1.flatMap (pcl A L X.2)) (f := amt1 c w) (fun e => hw (by rw [e]; rfl))
        unfold amt1 at hp2
        split at hp2
        · rename_i he
          refine ⟨(x3 c).mpr (Or.inr ⟨p, hp, he.1⟩), ?_⟩
          obtain ⟨c', hc', hp⟩ := List.mem_flatMap.mp hp
          unfold pcl at hp
          split at hp
          · cases hp
          · obtain ⟨st, hst, hp⟩ := List.mem_flatMap.mp hp
            unfold pst at hp
            split at hp
            · cases hp
            · simp at hp
              subst hp
              rw [← he.2]
              exact (c1 st hst).2.1
        · exact absurd rfl hp2
      · rw [y4] at hw
        obtain ⟨p, hp, hp2⟩ := sm_pos (l := pml A P Y.1 Y.2) (f := amt1 c w) (fun e => hw (by rw [e]; rfl))
        unfold amt1 at hp2
        split at hp2
        · rename_i he
          refine ⟨(y3 c).mpr (Or.inr ⟨p, hp, he.1⟩), ?_⟩
          obtain ⟨v, hv, hp⟩ := List.mem_flatMap.mp hp
          obtain ⟨c', hc', hp⟩ := List.mem_flatMap.mp hp
          unfold pmv at hp
          split at hp
          · cases hp
          · rename_i hw0
            obtain ⟨q, hq, rfl⟩ := List.mem_map.mp hp
            obtain ⟨e, hst⟩ := c2 v (h8 c' v hw0).2 q hq
            rw [← he.2]
            exact (c1 _ hst).2.1
        · exact absurd rfl hp2
theorem rel_all {V : Nat → Prop} {A : AE} {L : SL} {P : Nat → List (Nat × Nat)} {u : Nat} (hC : Cmp V L P) (hu : V u) (n : Nat) :
    (rouN A L u n = none ∧ mouN A P u n = none) ∨ ∃ X Y, rouN A L u n = some X ∧ mouN A P u n = some Y ∧ RelS V X Y := by
  induction n with
  | zero =>
    refine Or.inr ⟨_, _, rfl, rfl, by simp, by simp, by simp, by simp, fun _ => Iff.rfl, fun _ _ _ => rfl, fun c w h => ?_, fun c w h => ?_⟩
    · dsimp only at h ⊢
      split at h
      · rename_i e; rw [e.1, e.2]; exact ⟨by simp, hu⟩
      · exact absurd rfl h
    · dsimp only at h ⊢
      split at h
      · rename_i e; rw [e.1, e.2]; exact ⟨by simp, hu⟩
      · exact absurd rfl h
  | succ n ih =>
    rcases ih with ⟨e1, e2⟩ | ⟨X, Y, e1, e2, hr⟩
    · exact Or.inl ⟨by unfold rouN; rw [e1]; rfl, by unfold mouN; rw [e2]; rfl⟩
    · have er : rouN A L u (n + 1) = alN A L X.1 X.2 X.1.length := by
        show (rouN A L u n).bind _ = _
        rw [e1]; rfl
      have em : mouN A P u (n + 1) = pushL (pml A P Y.1 Y.2) (Y.1, fun _ _ => 0) := by
        show (mouN A P u n).bind _ = _
        rw [e2]; rfl
      rw [er, em]
      exact rel_step hC hr
theorem mouI_eq {V : Nat → Prop} {A : AE} {L : SL} {P : Nat → List (Nat × Nat)} {u : Nat} (hC : Cmp V L P) (hu : V u) (v n : Nat) : mouI A P u v n = rouI A L u v n := by
  unfold mouI rouI
  rcases rel_all (A := A) hC hu n with ⟨e1, e2⟩ | ⟨X, Y, e1, e2, h1, h2, h3, h4, h5, h6, h7, h8⟩
  · rw [e1, e2]
  · rw [e1, e2]
    dsimp only
    have perm : X.1.Perm Y.1 := (List.perm_ext_iff_of_nodup h1 h2).mpr h5
    have es : fsm A X.1 X.2 v = fsm A Y.1 Y.2 v := by
      unfold fsm
      rw [sm_perm perm]
      refine sm_ext (fun c _ => ?_)
      by_cases hc : c = 0
      · subst hc
        rw [fin_0]
        rfl
      · rw [h6 c v hc]
    rw [totN_sm, List.take_length, es]
    unfold fullI
    by_cases hle : CM ≤ fsm A Y.1 Y.2 v
    · rw [if_pos hle, if_pos (by omega)]
    · rw [if_neg hle, if_neg (by omega)]
      congr 1
      omega
/-! words and graphs -/
def Pw (v : Nat) : List (Nat × Nat) := (List.range 8).map (fun s => (s, v))
def pge (v : Nat) (q : Nat × Nat × Nat) : List (Nat × Nat) := (if q.1 = v then [(q.2.1, q.2.2)] else []) ++ (if q.2.2 = v then [(q.2.1 + 4, q.1)] else [])
def Pg (G : Gr) (v : Nat) : List (Nat × Nat) := G.flatMap (pge v)
theorem sm_r10 {g : Nat → Nat} {a : Nat} (ha : a < 10) (h : ∀ v, v ≠ a → g v = 0) : sm (List.range 10) g = g a := by
  have e : sm (List.range 10) g = g 0 + (g 1 + (g 2 + (g 3 + (g 4 + (g 5 + (g 6 + (g 7 + (g 8 + (g 9 + 0))))))))) := rfl
  rw [e]
  have h0 := h 0
  have h1 := h 1
  have h2 := h 2
  have h3 := h 3
  have h4 := h 4
  have h5 := h 5
  have h6 := h 6
  have h7 := h 7
  have h8 := h 8
  have h9 := h 9
  rcases (show a = 0 ∨ a = 1 ∨ a = 2 ∨ a = 3 ∨ a = 4 ∨ a = 5 ∨ a = 6 ∨ a = 7 ∨ a = 8 ∨ a = 9 by omega) with rfl | rfl | rfl | rfl | rfl | rfl | rfl | rfl | rfl | rfl <;> omega
theorem cmp_w : Cmp (fun v => v = 0) anyL Pw := by
  refine ⟨fun st hst => ?_, fun v hv q hq => ?_, fun f hf => ?_⟩
  · revert st
    decide
  · subst hv
    obtain ⟨s, hs, rfl⟩ := List.mem_map.mp hq
    exact ⟨s, List.mem_map.mpr ⟨s, hs, rfl⟩⟩
  · rw [sm_r10 (a := 0) (by decide) (fun v hv => sm_zero (fun q _ => hf v _ _ hv))]
    unfold Pw anyL
    rw [sm_map, sm_map]
theorem fwd_sm {G : Gr} (f : Nat → Nat → Nat → Nat) (n : Nat) : sm (fwdN G none n) (fun st => f st.1 st.2.1 st.2.2.1) = sm (G.take n) (fun q => f q.1 q.2.1 q.2.2) := by
  induction n with
  | zero => rfl
  | succ n ih =>
    rw [List.take_add_one, sm_app, ← ih]
    cases hq : G[n]? with
    | none =>
      have e : fwdN G none (n + 1) = fwdN G none n := by simp [fwdN, hq]
      rw [e]
      rfl
    | some q =>
      rw [fwdN_s hq, if_neg (by simp), sm_app]
      rfl
theorem bwd_sm {G : Gr} (f : Nat → Nat → Nat → Nat) (n : Nat) : sm (bwdN G none n) (fun st => f st.1 st.2.1 st.2.2.1) = sm (G.take n) (fun q => f q.2.2 (q.2.1 + 4) q.1) := by
  induction n with
  | zero => rfl
  | succ n ih =>
    rw [List.take_add_one, sm_app, ← ih]
    cases hq : G[n]? with
    | none =>
      have e : bwdN G none (n + 1) = bwdN G none n := by simp [bwdN, hq]
      rw [e]
      rfl
    | some q =>
      rw [bwdN_s hq, if_neg (by simp), sm_app]
      rfl
theorem cmp_g {G : Gr} (hG : ∀ q ∈ G, q.1 < 10 ∧ q.2.1 < 4 ∧ q.2.2 < 10) : Cmp (fun v => v < 10) (stL G none) (Pg G) := by
  have hmem : ∀ v s t, (s, t) ∈ Pg G v ↔ ∃ q ∈ G, (q.1 = v ∧ s = q.2.1 ∧ t = q.2.2) ∨ (q.2.2 = v ∧ s = q.2.1 + 4 ∧ t = q.1) := by
    intro v s t
    unfold Pg
    rw [List.mem_flatMap]
    constructor
    · rintro ⟨q, hq, h⟩
      refine ⟨q, hq, ?_⟩
      unfold pge at h
      rcases List.mem_append.mp h with h | h
      · split at h
        · rename_i e
          simp at h
          exact Or.inl ⟨e, h.1, h.2⟩
        · cases h
      · split at h
        · rename_i e
          simp at h
          exact Or.inr ⟨e, h.1, h.2⟩
        · cases h
    · rintro ⟨q, hq, ⟨e1, e2, e3⟩ | ⟨e1, e2, e3⟩⟩
      · refine ⟨q, hq, ?_⟩
        unfold pge
        rw [if_pos e1, e2, e3]
        exact List.mem_append_left _ (List.mem_singleton.mpr rfl)
      · refine ⟨q, hq, ?_⟩
        unfold pge
        rw [if_pos e1, e2, e3]
        exact List.mem_append_right _ (List.mem_singleton.mpr rfl)
  refine ⟨fun st hst => ?_, fun v hv q hq => ?_, fun f hf => ?_⟩
  · obtain ⟨i, q, h1, -, rfl | rfl⟩ := mem_stL.mp hst
    · have b := hG q (List.mem_of_getElem? h1)
      exact ⟨b.1, b.2.2, b.1, (hmem _ _ _).mpr ⟨q, List.mem_of_getElem? h1, Or.inl ⟨rfl, rfl, rfl⟩⟩⟩
    · have b := hG q (List.mem_of_getElem? h1)
      exact ⟨b.2.2, b.1, b.2.2, (hmem _ _ _).mpr ⟨q, List.mem_of_getElem? h1, Or.inr ⟨rfl, rfl, rfl⟩⟩⟩
  · obtain ⟨s, t⟩ := q
    obtain ⟨q, hq, ⟨e1, e2, e3⟩ | ⟨e1, e2, e3⟩⟩ := (hmem v s t).mp hq
    · obtain ⟨i, hi⟩ := List.getElem?_of_mem hq
      exact ⟨i, mem_stL.mpr ⟨i, q, hi, by simp, Or.inl (by rw [← e1, e2, e3])⟩⟩
    · obtain ⟨i, hi⟩ := List.getElem?_of_mem hq
      exact ⟨i, mem_stL.mpr ⟨i, q, hi, by simp, Or.inr (by rw [← e1, e2, e3])⟩⟩
  · unfold stL
    rw [sm_app, fwd_sm, bwd_sm, List.take_length, ← sm_add]
    have e1 : ∀ v, sm (Pg G v) (fun q => f v q.1 q.2) = sm G (fun q => (if q.1 = v then f v q.2.1 q.2.2 else 0) + (if q.2.2 = v then f v (q.2.1 + 4) q.1 else 0)) := by
      intro v
      unfold Pg
      rw [sm_flat]
      refine sm_ext (fun q _ => ?_)
      unfold pge
      rw [sm_app]
      congr 1
      · split <;> simp [sm]
      · split <;> simp [sm]
    rw [sm_ext (fun v _ => e1 v), sm_comm]
    refine sm_ext (fun q hq => ?_)
    obtain ⟨b1, b2, b3⟩ := hG q hq
    rw [sm_add]
    congr 1
    · rw [sm_r10 b1 (fun v hv => if_neg (fun g => hv g.symm)), if_pos rfl]
    · rw [sm_r10 b3 (fun v hv => if_neg (fun g => hv g.symm)), if_pos rfl]

/-! rows of the judgement: returns, the script, switches, new cells, calls -/
section RjRet
variable {M : MD} {X : Option (Nat × (Nat → Int32))} {bc bs pc nx a b : Nat} {c : Int32} {cl : Int64} {lv : List (Option Value)} {st : List Value} {σ : List va_E} {Q : Option Value → List va_E → Prop}
theorem rj_iret {x : Int32} (hq : lk (mTab M) pc = some (.ireturn, nx, a, b, c, cl)) (hr : mRet M = some .int) (h : Q (some (.int x)) σ) : RJ M X bc bs pc lv [.int x] σ Q := by
  intro p l e s m args below meth c H locs cells slots Z b0 sz cA D ls h1 h2 h3 h4 h5 h6 h7 h8 hE
  have hk := mOk_at h1 hq
  simp only [enOk, iLen, Bool.and_true, Bool.and_eq_true] at hk
  exact W.widen (by omega) (by omega) (hE (some (.int x)) σ H locs pc ls h h4 ⟨of_decide_eq_true hk.1, _, hr, rfl⟩)
theorem rj_zret {x : Int32} (hq : lk (mTab M) pc = some (.ireturn, nx, a, b, c, cl)) (hr : mRet M = some .boolean) (hn : x = 0 ∨ x = 1) (h : Q (some (.int x)) σ) : RJ M X bc bs pc lv [.int x] σ Q := by
  intro p l e s m args below meth c H locs cells slots Z b0 sz cA D ls h1 h2 h3 h4 h5 h6 h7 h8 hE
  have hk := mOk_at h1 hq
  simp only [enOk, iLen, Bool.and_true, Bool.and_eq_true] at hk
  exact W.widen (by omega) (by omega) (hE (some (.int x)) σ H locs pc ls h h4 ⟨of_decide_eq_true hk.1, _, hr, by rcases hn with rfl | rfl <;> rfl⟩)
theorem rj_lret {x : Int64} (hq : lk (mTab M) pc = some (.lreturn, nx, a, b, c, cl)) (hr : mRet M = some .long) (h : Q (some (.long x)) σ) : RJ M X bc bs pc lv [.long x] σ Q := by
  intro p l e s m args below meth c H locs cells slots Z b0 sz cA D ls h1 h2 h3 h4 h5 h6 h7 h8 hE
  have hk := mOk_at h1 hq
  simp only [enOk, iLen, Bool.and_true, Bool.and_eq_true] at hk
  exact W.widen (by omega) (by omega) (hE (some (.long x)) σ H locs pc ls h h4 ⟨of_decide_eq_true hk.1, hr⟩)
theorem rj_vret (hq : lk (mTab M) pc = some (.return_, nx, a, b, c, cl)) (hr : mRet M = none) (h : Q none σ) : RJ M X bc bs pc lv [] σ Q := by
  intro p l e s m args below meth c H locs cells slots Z b0 sz cA D ls h1 h2 h3 h4 h5 h6 h7 h8 hE
  have hk := mOk_at h1 hq
  simp only [enOk, iLen, Bool.and_true, Bool.and_eq_true] at hk
  exact W.widen (by omega) (by omega) (hE none σ H locs pc ls h h4 ⟨of_decide_eq_true hk.1, hr⟩)
/-- the script's values, its length -/
theorem rj_sld {L : Nat} {xs : Nat → Int32} {i : Int32} (hq : lk (mTab M) pc = some (.iaload, nx, a, b, c, cl)) (hin : vp_in i L) (K : RJ M (some (L, xs)) bc bs nx lv (.int (xs i.toNatClampNeg) :: st) σ Q) : RJ M (some (L, xs)) bc bs pc lv (.int i :: .ref 1000000 :: st) σ Q := by
  intro p l e s m args below meth c H locs cells slots Z b0 sz cA D ls h1 h2 h3 h4 h5 h6 h7 h8 hE
  have hk := mOk_at h1 hq
  simp only [enOk, iLen, Bool.and_true, Bool.and_eq_true] at hk
  obtain ⟨hd, hn9⟩ := hk
  have hd := of_decide_eq_true hd
  have hn9 := of_decide_eq_true hn9
  subst hn9
  exact va_sld (ls := ls) (rest := st.map (xv b0 sz)) h2.1 h2.2.1 h3.1 h3.2.1 (Nat.not_le.mpr h3.2.2) h4.2.2.1 hin hd (K p l e s m args below meth c H locs cells slots Z b0 sz cA D ls h1 h2 h3 h4 h5 h6 h7 h8 hE)
theorem rj_slen {L : Nat} {xs : Nat → Int32} (hq : lk (mTab M) pc = some (.arraylength, nx, a, b, c, cl)) (K : RJ M (some (L, xs)) bc bs nx lv (.int (Int32.ofNat L) :: st) σ Q) : RJ M (some (L, xs)) bc bs pc lv (.ref 1000000 :: st) σ Q := by
  intro p l e s m args below meth c H locs cells slots Z b0 sz cA D ls h1 h2 h3 h4 h5 h6 h7 h8 hE
  have hk := mOk_at h1 hq
  simp only [enOk, iLen, Bool.and_true, Bool.and_eq_true] at hk
  obtain ⟨hd, hn9⟩ := hk
  have hd := of_decide_eq_true hd
  have hn9 := of_decide_eq_true hn9
  subst hn9
  exact va_slen (ls := ls) (rest := st.map (xv b0 sz)) h2.1 h2.2.1 h3.1 h3.2.1 (Nat.not_le.mpr h3.2.2) h4.2.2.1 hd (K p l e s m args below meth c H locs cells slots Z b0 sz cA D ls h1 h2 h3 h4 h5 h6 h7 h8 hE)
theorem rj_tsIn {d lo hi : Int} {os : Array Int} {x : Int32} {off : Int} {tgt : Nat} (hq : lk (mTab M) pc = some (.tableswitch d lo hi os, nx, a, b, c, cl)) (h1 : ¬ x.toInt < lo) (h2 : ¬ hi < x.toInt) (ho : os[(x.toInt - lo).toNat]? = some off) (ht : (pc : Int) + off = (tgt : Int)) (K : RJ M X bc bs tgt lv st σ Q) : RJ M X bc bs pc lv (.int x :: st) σ Q := by
  intro p l e s m args below meth c H locs cells slots Z b0 sz cA D ls g1 g2 g3 g4 g5 g6 g7 g8 hE
  have hk := mOk_at g1 hq
  simp only [enOk] at hk
  exact lv_tableIn g2.1 g2.2.1 (of_decide_eq_true hk) h1 h2 ho ht (K p l e s m args below meth c H locs cells slots Z b0 sz cA D ls g1 g2 g3 g4 g5 g6 g7 g8 hE)
theorem rj_tsOut {d lo hi : Int} {os : Array Int} {x : Int32} {tgt : Nat} (hq : lk (mTab M) pc = some (.tableswitch d lo hi os, nx, a, b, c, cl)) (h : x.toInt < lo ∨ hi < x.toInt) (ht : (pc : Int) + d = (tgt : Int)) (K : RJ M X bc bs tgt lv st σ Q) : RJ M X bc bs pc lv (.int x :: st) σ Q := by
  intro p l e s m args below meth c H locs cells slots Z b0 sz cA D ls g1 g2 g3 g4 g5 g6 g7 g8 hE
  have hk := mOk_at g1 hq
  simp only [enOk] at hk
  exact lv_tableOut g2.1 g2.2.1 (of_decide_eq_true hk) h ht (K p l e s m args below meth c H locs cells slots Z b0 sz cA D ls g1 g2 g3 g4 g5 g6 g7 g8 hE)
theorem rj_ls {d : Int} {ps : Array (Int × Int)} {x : Int32} {off : Int} {tgt : Nat} (hq : lk (mTab M) pc = some (.lookupswitch d ps, nx, a, b, c, cl)) (ho : Op.lookupswitch.offset ps.toList d x.toInt = off) (ht : (pc : Int) + off = (tgt : Int)) (K : RJ M X bc bs tgt lv st σ Q) : RJ M X bc bs pc lv (.int x :: st) σ Q := by
  intro p l e s m args below meth c H locs cells slots Z b0 sz cA D ls g1 g2 g3 g4 g5 g6 g7 g8 hE
  have hk := mOk_at g1 hq
  simp only [enOk, Bool.and_eq_true] at hk
  exact lv_lookup g2.1 g2.2.1 (of_decide_eq_true hk.1) hk.2 ho ht (K p l e s m args below meth c H locs cells slots Z b0 sz cA D ls g1 g2 g3 g4 g5 g6 g7 g8 hE)
end RjRet
section RjNew
variable {M : MD} {X : Option (Nat × (Nat → Int32))} {bc bs pc nx a b : Nat} {c : Int32} {cl : Int64} {lv : List (Option Value)} {st : List Value} {σ : List va_E} {Q : Option Value → List va_E → Prop}
theorem va_at_lt {D : va_G} {cl : List vw_C} {q : Nat × va_E} {H : Heap} (h : va_at D cl q H) : q.1 < H.size := h.lt
/-- behind a new cell -/
theorem xw_grown {p : Program} {l : Launch} {ee : Env} {R : Room} {s : State} {m : MethodId} {args : Array Value} {below : List Frame} {meth : Method} {cc : Code} {locs : List Loc} {cells slots : Nat} {Z : State → Prop} {g : Nat → JFrame} {b sz q : Nat} {cA : Nat → ClassId} {D : va_G} {H H1 : Heap} {e : va_E} (h4 : XW b sz cA D σ s H locs) (h8 : s.heap.size + cells = sz + σ.length) (hlen : σ.length < 1000000)
    (hP1 : va_P D vwCl (xw b sz cA σ ++ [(q, xe b sz cA e)]) H1) (hD1 : va_D (fun q => sz ≤ q) (xw b sz cA σ ++ [(q, xe b sz cA e)])) (hS1 : va_S (fun q => sz ≤ q) s.heap H1 locs)
    (k : XW b sz cA D (σ ++ [e]) s H1 locs → W p l ee R s m args below meth cc H1 locs (cells + 1) slots Z (g (sz + σ.length))) : W p l ee R s m args below meth cc H1 locs (cells + 1) slots Z (g q) := by
  intro T hT St
  have hz := St.heapSize
  rw [hT] at hz
  have hx : (xw b sz cA σ ++ [(q, xe b sz cA e)])[σ.length]? = some (q, xe b sz cA e) := by
    rw [List.getElem?_append_right (by rw [xw_len]; exact Nat.le_refl _), xw_len, Nat.sub_self]; rfl
  have hlt := va_at_lt (hP1 _ _ hx)
  have hge := hD1.2 _ _ hx
  have hq : q = sz + σ.length := by
    have hq1 : q ≤ sz + σ.length := by
      have : q < H1.size := hlt
      omega
    have hq2 : sz ≤ q := hge
    by_cases hc : q = sz + σ.length
    · exact hc
    · exfalso
      have hlt2 : q - sz < σ.length := by omega
      have h9 : (xw b sz cA σ ++ [(q, xe b sz cA e)])[q - sz]? = some (sz + (q - sz), xe b sz cA (σ[q - sz])) := by
        rw [List.getElem?_append_left (by rw [xw_len]; exact hlt2)]
        exact xw_get (List.getElem?_eq_getElem hlt2)
      have := hD1.1 _ _ _ _ h9 hx (by show sz + (q - sz) = q; omega)
      omega
  subst hq
  refine k ⟨h4.1, by rw [xw_push]; exact hP1, hS1, ?_, h4.2.2.2.2.1, by rw [List.length_append]; exact hlen⟩ T hT St
  have : sz + σ.length < H1.size := hlt
  rw [List.length_append]
  show H1.size = sz + (σ.length + 1)
  omega
theorem rj_new {i : Nat} {fs : List Value} (hq : lk (mTab M) pc = some (.new i, nx, a, b, c, cl)) {C : String} {T : u_T} {N : Nat} (hc : vwCl[a]? = some (C, T, N)) (hfs : (tyTab[a]?.map (fun l => l.map (fun q => defaultValue q.2))) = some fs) (hfl : ∀ b sz, fs.map (xv b sz) = fs) (hw : decide (Jvm.Cond.classLink (mY M).cls i C ∈ lw_tbl) && decide (Jvm.Cond.instantiable C N ∈ lw_tbl) && decide (Jvm.Cond.initialized C ∈ lw_tbl) = true) (hlen : σ.length < 1000000) (hbc : 1 ≤ bc) (hbs : N ≤ bs)
    (K : RJ M X (bc - 1) (bs - N) nx lv (.ref σ.length :: st) (σ ++ [.inr (a, fs)]) Q) : RJ M X bc bs pc lv st σ Q := by
  intro p l e s m args below meth c H locs cells slots Z b0 sz cA D ls h1 h2 h3 h4 h5 h6 h7 h8 hE
  have hk := mOk_at h1 hq
  simp only [enOk, iLen, Bool.and_true, Bool.and_eq_true] at hk
  obtain ⟨hd, hn9⟩ := hk
  have hd := of_decide_eq_true hd
  have hn9 := of_decide_eq_true hn9
  subst hn9
  simp only [Bool.and_eq_true, decide_eq_true_eq] at hw
  obtain ⟨⟨w1, w2⟩, w3⟩ := hw
  obtain ⟨t1, t2, t3⟩ := ty_at (b := 0) hc
  refine va_new (p := p) (l := l) (e := e) (R := mRm M) (s := s) (below := below) (meth := meth) (H0 := s.heap) (Q := Z) (ls := ls) (rest := st.map (xv b0 sz)) (fs := fs) h2.1 h2.2.1 h2.2.2.2.2.2.1 (vw_in hc) _ t1 h2.2.2.2.2.1 (h2.w w1 rfl) (h2.w w2 rfl) (h2.w w3 rfl) h4.1.1 h4.2.1 (xw_D σ) h4.2.2.1 (fun q hq => Nat.le_trans h4.2.2.2.2.1 hq) hc ?_ (by omega) (by omega) hd (fun q H1 hP1 hD1 hS1 => ?_)
  · intro j hj
    cases hl : tyTab[a]? with
    | none => rw [hl] at hfs; cases hfs
    | some l =>
      rw [hl] at hfs t3
      have hfs : l.map (fun q => defaultValue q.2) = fs := Option.some.inj hfs
      obtain ⟨hlN, -⟩ : l.length = N ∧ True := by
        have hA : a < 12 := (List.getElem?_eq_some_iff.mp hc).1
        have g1 := List.all_eq_true.mp tyTab_ok a (List.mem_range.mpr hA)
        rw [hc, hl] at g1
        simp only [Bool.and_eq_true] at g1
        exact ⟨of_decide_eq_true g1.1, trivial⟩
      have hjl : j < l.length := by omega
      obtain ⟨-, -, g3⟩ := t3 j _ _ (show l[j]? = some ((l[j]).1, (l[j]).2) by rw [List.getElem?_eq_getElem hjl])
      rw [g3, ← hfs]
      simp [vp_V, hjl]
  · have hxe : xe b0 sz cA (.inr (a, fs)) = .inr (a, fs) := by simp only [xe, hfl]
    refine xw_grown (g := fun q => F0 m (pc + 3) ls (.ref q :: st.map (xv b0 sz))) (e := .inr (a, fs)) h4 h8 hlen (by rw [hxe]; exact hP1) (by rw [hxe]; exact hD1) hS1 (fun h4' => ?_)
    have key := K p l e s m args below meth c H1 locs (cells + 1) (slots + N) Z b0 sz cA D ls h1 h2 h3 h4' h5 (by omega) (by omega) (by rw [List.length_append]; show s.heap.size + (cells + 1) = sz + (σ.length + 1); omega) hE
    rw [← xa_k (b := b0) hlen]
    exact key
end RjNew

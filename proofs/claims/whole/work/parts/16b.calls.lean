/-! calls over the typed store, their side rows by computing -/
section RtCalls
variable {M : MD} {X : Option (Nat × (Nat → Int32))} {pc nx b : Nat} {c : Int32} {cl : Int64} {lv : List (Option Value)} {st : List Value} {τ : Ty} {Q : Option Value → Ty → Prop}
theorem rt_cV {i n k ci : Nat} (Mc : MD) (hc : cvOk M i n Mc = true) (hok : mOk Mc = true) (hf : (fK k ci 0).isSome = true) (hq : lk (mTab M) pc = some (.invokevirtual i, nx, n, b, c, cl)) (hk : ng st n = some (.ref k)) (hci : (vwCl[ci]?.map (·.1)) = some (mY Mc).cls)
    (h5 : (Nat.ble (catSum (st.drop (n + 1))) 8 && Nat.ble (lvA (.ref k :: (st.take n).reverse)).length (mML Mc) && Nat.beq (mRm Mc).cells 0 && Nat.beq (mRm Mc).slots 0) = true)
    (K : RT Mc none 0 (lvArgs (mML Mc) (.ref k :: (st.take n).reverse)) [] τ (fun v τ' => RT M X nx lv (v.toList ++ st.drop (n + 1)) τ' Q)) : RT M X pc lv st τ Q := by
  simp only [Bool.and_eq_true] at h5
  exact rt_callV (ci := ci) Mc hq hc hk (fun h => by rw [h] at hf; cases hf) hci (Nat.le_of_ble_eq_true h5.1.1.1) hok (Nat.le_of_ble_eq_true h5.1.1.2) ⟨Nat.eq_of_beq_eq_true h5.1.2, Nat.eq_of_beq_eq_true h5.2⟩ K
theorem rt_cS {i n : Nat} (Mc : MD) (hc : csOk M i n Mc = true) (hok : mOk Mc = true) (hq : lk (mTab M) pc = some (.invokestatic i, nx, n, b, c, cl))
    (h5 : (Nat.ble n st.length && Nat.ble (catSum (st.drop n)) 8 && Nat.ble (lvA (st.take n).reverse).length (mML Mc) && Nat.beq (mRm Mc).cells 0 && Nat.beq (mRm Mc).slots 0) = true)
    (K : RT Mc none 0 (lvArgs (mML Mc) (st.take n).reverse) [] τ (fun v τ' => RT M X nx lv (v.toList ++ st.drop n) τ' Q)) : RT M X pc lv st τ Q := by
  simp only [Bool.and_eq_true] at h5
  exact rt_callS Mc hq hc (Nat.le_of_ble_eq_true h5.1.1.1.1) (Nat.le_of_ble_eq_true h5.1.1.1.2) hok (Nat.le_of_ble_eq_true h5.1.1.2) ⟨Nat.eq_of_beq_eq_true h5.1.2, Nat.eq_of_beq_eq_true h5.2⟩ K
end RtCalls
theorem isE_s {k : Nat} (h : isE k) : (fK k 2 0).isSome = true := by rw [(isE_f h).1]; rfl
theorem isS_s {k : Nat} (h : isS k) : (fK k 7 0).isSome = true := by rw [(isS_f h).1]; rfl
theorem isT_s {k : Nat} (h : isT k) : (fK k 8 0).isSome = true := by rw [(isT_f h).1]; rfl

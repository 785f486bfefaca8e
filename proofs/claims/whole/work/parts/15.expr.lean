/-! Expression: finishes, behind, aheadOf, after -/
theorem behind_spec {k n : Nat} {set : Int32} {τ : Ty} {Q : Option Value → Ty → Prop} (hk : isE k) (hn : gF τ k 3 = nI n) (hn24 : n ≤ 24) (h : Q (some (.int (orL (gI τ (k + 1)) set (n + 1)))) τ) : RT mX2_behind none 0 [some (.ref k), some (.int set), none, none] [] τ Q := by
  obtain ⟨f0, f1, f2, f3, f4, a0, a1, h38⟩ := isE_f hk
  have loop : ∀ d p, p + d = n + 1 → RT mX2_behind none 4 [some (.ref k), some (.int set), some (.int (orL (gI τ (k + 1)) set p)), some (.int (nI p))] [] τ Q := by
    intro d
    induction d with
    | zero =>
      intro p hp
      refine rt_run 2 rfl ?_
      refine rt_getI rfl f3 ?_
      refine rt_ic_gt rfl (fun _ => ?_) (fun hc => ?_)
      · refine rt_run 1 rfl ?_
        exact rt_iret rfl rfl (by rw [show p = n + 1 by omega]; exact h)
      · exact absurd (by rw [hn]; exact nI_lt (by omega) (by omega)) hc
    | succ d ih =>
      intro p hp
      refine rt_run 2 rfl ?_
      refine rt_getI rfl f3 ?_
      refine rt_ic_gt rfl (fun hc => ?_) (fun _ => ?_)
      · exact absurd hc (by rw [hn]; exact nI_nlt (by omega) (by omega))
      · refine rt_run 5 rfl ?_
        refine rt_if_eq rfl (fun hc => ?_) (fun hc => ?_)
        · refine rt_run 2 rfl ?_
          have e : orL (gI τ (k + 1)) set (p + 1) = orL (gI τ (k + 1)) set p := by
            simp only [orL, bt_f (by omega) hc]; simp
          have := ih (p + 1) (by omega)
          rw [e, nI_succ] at this
          exact this
        · refine rt_run 2 rfl ?_
          refine rt_getQ rfl f0 h38 ?_
          refine rt_run 1 rfl ?_
          refine rt_iald rfl a0 (vp_in_nI (by omega) (by decide)) ?_
          refine rt_run 4 rfl ?_
          have e : orL (gI τ (k + 1)) set (p + 1) = orL (gI τ (k + 1)) set p ||| gI τ (k + 1) p := by
            simp only [orL, bt_t (by omega) hc]; simp
          have := ih (p + 1) (by omega)
          rw [e, nI_succ] at this
          rw [nI_clamp (by omega)]
          exact this
  refine rt_run 4 rfl ?_
  exact loop (n + 1) 0 (by omega)

/-! by program: one call on both sides -/
section LawCases
variable {L i : Nat} {xs : Nat → Int32} {τ : Ty} {a : AS} {Q : Option Value → Ty → Prop}
set_option maxRecDepth 100000 in
theorem law_c0 (hL : L ≤ 3072) (hi : i + 6 ≤ L) (hC : CIs τ a) (hM : MIs τ a) (next : ∀ τ2 a2, CIs τ2 a2 → MIs τ2 a2 → RT mL_law (some (L, xs)) 944 [some (.ref 1000000), some (.ref 0), some (.ref 63), some (.int (nI i))] [] τ2 Q) : RT mL_law (some (L, xs)) 148 [some (.ref 1000000), some (.ref 0), some (.ref 63), some (.int (nI i))] [] τ Q := by
  refine rt_run 5 rfl ?_
  refine rt_sld (i + 1) rfl (by omega) (by omega) ?_ (by rw [← nI_add]; rfl)
  refine rt_run 4 rfl ?_
  refine rt_sld (i + 2) rfl (by omega) (by omega) ?_ (by rw [← nI_add]; rfl)
  refine rt_run 4 rfl ?_
  refine rt_sld (i + 3) rfl (by omega) (by omega) ?_ (by rw [← nI_add]; rfl)
  refine rt_cV (ci := 10) mX10_edge kL_law_164 okX10_edge rfl rfl rfl rfl rfl ?_
  refine edge_spec hC (fun τ1 hO1 hC1 => ?_)
  refine rt_run 5 rfl ?_
  refine rt_sld (i + 1) rfl (by omega) (by omega) ?_ (by rw [← nI_add]; rfl)
  refine rt_run 4 rfl ?_
  refine rt_sld (i + 2) rfl (by omega) (by omega) ?_ (by rw [← nI_add]; rfl)
  refine rt_run 4 rfl ?_
  refine rt_sld (i + 3) rfl (by omega) (by omega) ?_ (by rw [← nI_add]; rfl)
  refine rt_cV (ci := 11) mX11_edge kL_law_183 okX11_edge rfl rfl rfl rfl rfl ?_
  refine mEdge_spec (mis_c hM hO1) (fun τ2 hO2 hM2 => ?_)
  exact rt_ic_eq rfl (fun _ => next τ2 _ (cis_d hC1 hO2) hM2) (fun hc => absurd rfl hc)
set_option maxRecDepth 100000 in
theorem law_c1 (hL : L ≤ 3072) (hi : i + 6 ≤ L) (hC : CIs τ a) (hM : MIs τ a) (next : ∀ τ2 a2, CIs τ2 a2 → MIs τ2 a2 → RT mL_law (some (L, xs)) 944 [some (.ref 1000000), some (.ref 0), some (.ref 63), some (.int (nI i))] [] τ2 Q) : RT mL_law (some (L, xs)) 191 [some (.ref 1000000), some (.ref 0), some (.ref 63), some (.int (nI i))] [] τ Q := by
  refine rt_run 5 rfl ?_
  refine rt_sld (i + 1) rfl (by omega) (by omega) ?_ (by rw [← nI_add]; rfl)
  refine rt_cV (ci := 10) mX10_drop kL_law_197 okX10_drop rfl rfl rfl rfl rfl ?_
  refine drop_spec hC (fun τ1 hO1 hC1 => ?_)
  refine rt_run 5 rfl ?_
  refine rt_sld (i + 1) rfl (by omega) (by omega) ?_ (by rw [← nI_add]; rfl)
  refine rt_cV (ci := 11) mX11_drop kL_law_206 okX11_drop rfl rfl rfl rfl rfl ?_
  refine mDrop_spec (mis_c hM hO1) (fun τ2 hO2 hM2 => ?_)
  exact rt_ic_eq rfl (fun _ => next τ2 _ (cis_d hC1 hO2) hM2) (fun hc => absurd rfl hc)
set_option maxRecDepth 100000 in
theorem law_c2 (hL : L ≤ 3072) (hi : i + 6 ≤ L) (hC : CIs τ a) (hM : MIs τ a) (next : ∀ τ2 a2, CIs τ2 a2 → MIs τ2 a2 → RT mL_law (some (L, xs)) 944 [some (.ref 1000000), some (.ref 0), some (.ref 63), some (.int (nI i))] [] τ2 Q) : RT mL_law (some (L, xs)) 214 [some (.ref 1000000), some (.ref 0), some (.ref 63), some (.int (nI i))] [] τ Q := by
  refine rt_run 1 rfl ?_
  refine rt_cV (ci := 10) mX10_anew kL_law_215 okX10_anew rfl rfl rfl rfl rfl ?_
  refine anew_spec hC (fun τ1 hO1 hC1 => ?_)
  refine rt_run 1 rfl ?_
  refine rt_cV (ci := 11) mX11_anew kL_law_219 okX11_anew rfl rfl rfl rfl rfl ?_
  refine mAnew_spec (mis_c hM hO1) (fun τ2 hO2 hM2 => ?_)
  exact rt_ic_eq rfl (fun _ => next τ2 _ (cis_d hC1 hO2) hM2) (fun hc => absurd rfl hc)
set_option maxRecDepth 100000 in
theorem law_c3 (hL : L ≤ 3072) (hi : i + 6 ≤ L) (hC : CIs τ a) (hM : MIs τ a) (next : ∀ τ2 a2, CIs τ2 a2 → MIs τ2 a2 → RT mL_law (some (L, xs)) 944 [some (.ref 1000000), some (.ref 0), some (.ref 63), some (.int (nI i))] [] τ2 Q) : RT mL_law (some (L, xs)) 227 [some (.ref 1000000), some (.ref 0), some (.ref 63), some (.int (nI i))] [] τ Q := by
  refine rt_run 5 rfl ?_
  refine rt_sld (i + 1) rfl (by omega) (by omega) ?_ (by rw [← nI_add]; rfl)
  refine rt_run 4 rfl ?_
  refine rt_sld (i + 2) rfl (by omega) (by omega) ?_ (by rw [← nI_add]; rfl)
  refine rt_cV (ci := 10) mX10_of kL_law_238 okX10_of rfl rfl rfl rfl rfl ?_
  refine of_spec hC (fun τ1 hO1 hC1 => ?_)
  refine rt_run 5 rfl ?_
  refine rt_sld (i + 1) rfl (by omega) (by omega) ?_ (by rw [← nI_add]; rfl)
  refine rt_run 4 rfl ?_
  refine rt_sld (i + 2) rfl (by omega) (by omega) ?_ (by rw [← nI_add]; rfl)
  refine rt_cV (ci := 11) mX11_of kL_law_252 okX11_of rfl rfl rfl rfl rfl ?_
  refine mOf_spec (mis_c hM hO1) (fun τ2 hO2 hM2 => ?_)
  exact rt_ic_eq rfl (fun _ => next τ2 _ (cis_d hC1 hO2) hM2) (fun hc => absurd rfl hc)
set_option maxRecDepth 100000 in
theorem law_c4 (hL : L ≤ 3072) (hi : i + 6 ≤ L) (hC : CIs τ a) (hM : MIs τ a) (next : ∀ τ2 a2, CIs τ2 a2 → MIs τ2 a2 → RT mL_law (some (L, xs)) 944 [some (.ref 1000000), some (.ref 0), some (.ref 63), some (.int (nI i))] [] τ2 Q) : RT mL_law (some (L, xs)) 260 [some (.ref 1000000), some (.ref 0), some (.ref 63), some (.int (nI i))] [] τ Q := by
  refine rt_run 5 rfl ?_
  refine rt_sld (i + 1) rfl (by omega) (by omega) ?_ (by rw [← nI_add]; rfl)
  refine rt_run 4 rfl ?_
  refine rt_sld (i + 2) rfl (by omega) (by omega) ?_ (by rw [← nI_add]; rfl)
  refine rt_cV (ci := 10) mX10_degree kL_law_271 okX10_degree rfl rfl rfl rfl rfl ?_
  refine degree_spec hC (fun τ1 hO1 hC1 => ?_)
  refine rt_run 5 rfl ?_
  refine rt_sld (i + 1) rfl (by omega) (by omega) ?_ (by rw [← nI_add]; rfl)
  refine rt_run 4 rfl ?_
  refine rt_sld (i + 2) rfl (by omega) (by omega) ?_ (by rw [← nI_add]; rfl)
  refine rt_cV (ci := 11) mX11_degree kL_law_285 okX11_degree rfl rfl rfl rfl rfl ?_
  refine mDegree_spec (mis_c hM hO1) (fun τ2 hO2 hM2 => ?_)
  exact rt_ic_eq rfl (fun _ => next τ2 _ (cis_d hC1 hO2) hM2) (fun hc => absurd rfl hc)
set_option maxRecDepth 100000 in
theorem law_c5 (hL : L ≤ 3072) (hi : i + 6 ≤ L) (hC : CIs τ a) (hM : MIs τ a) (next : ∀ τ2 a2, CIs τ2 a2 → MIs τ2 a2 → RT mL_law (some (L, xs)) 944 [some (.ref 1000000), some (.ref 0), some (.ref 63), some (.int (nI i))] [] τ2 Q) : RT mL_law (some (L, xs)) 293 [some (.ref 1000000), some (.ref 0), some (.ref 63), some (.int (nI i))] [] τ Q := by
  refine rt_run 5 rfl ?_
  refine rt_sld (i + 1) rfl (by omega) (by omega) ?_ (by rw [← nI_add]; rfl)
  refine rt_cV (ci := 10) mX10_type kL_law_299 okX10_type rfl rfl rfl rfl rfl ?_
  refine type_spec hC (fun τ1 hO1 hC1 => ?_)
  refine rt_run 5 rfl ?_
  refine rt_sld (i + 1) rfl (by omega) (by omega) ?_ (by rw [← nI_add]; rfl)
  refine rt_cV (ci := 11) mX11_type kL_law_308 okX11_type rfl rfl rfl rfl rfl ?_
  refine mType_spec (mis_c hM hO1) (fun τ2 hO2 hM2 => ?_)
  exact rt_ic_eq rfl (fun _ => next τ2 _ (cis_d hC1 hO2) hM2) (fun hc => absurd rfl hc)
set_option maxRecDepth 100000 in
theorem law_c6 (hL : L ≤ 3072) (hi : i + 6 ≤ L) (hC : CIs τ a) (hM : MIs τ a) (next : ∀ τ2 a2, CIs τ2 a2 → MIs τ2 a2 → RT mL_law (some (L, xs)) 944 [some (.ref 1000000), some (.ref 0), some (.ref 63), some (.int (nI i))] [] τ2 Q) : RT mL_law (some (L, xs)) 316 [some (.ref 1000000), some (.ref 0), some (.ref 63), some (.int (nI i))] [] τ Q := by
  refine rt_run 1 rfl ?_
  refine rt_cV (ci := 10) mX10_clear kL_law_317 okX10_clear rfl rfl rfl rfl rfl ?_
  refine clear_spec hC (fun τ1 hO1 hC1 => ?_)
  refine rt_run 1 rfl ?_
  refine rt_cV (ci := 11) mX11_clear kL_law_321 okX11_clear rfl rfl rfl rfl rfl ?_
  refine mClear_spec (mis_c hM hO1) (fun τ2 hO2 hM2 => ?_)
  exact rt_ic_eq rfl (fun _ => next τ2 _ (cis_d hC1 hO2) hM2) (fun hc => absurd rfl hc)
set_option maxRecDepth 100000 in
theorem law_c7 (hL : L ≤ 3072) (hi : i + 6 ≤ L) (hC : CIs τ a) (hM : MIs τ a) (next : ∀ τ2 a2, CIs τ2 a2 → MIs τ2 a2 → RT mL_law (some (L, xs)) 944 [some (.ref 1000000), some (.ref 0), some (.ref 63), some (.int (nI i))] [] τ2 Q) : RT mL_law (some (L, xs)) 329 [some (.ref 1000000), some (.ref 0), some (.ref 63), some (.int (nI i))] [] τ Q := by
  refine rt_run 5 rfl ?_
  refine rt_sld (i + 1) rfl (by omega) (by omega) ?_ (by rw [← nI_add]; rfl)
  refine rt_cV (ci := 10) mX10_reads kL_law_335 okX10_reads rfl rfl rfl rfl rfl ?_
  refine reads_spec hC (fun τ1 hO1 hC1 => ?_)
  refine rt_run 5 rfl ?_
  refine rt_sld (i + 1) rfl (by omega) (by omega) ?_ (by rw [← nI_add]; rfl)
  refine rt_cV (ci := 11) mX11_reads kL_law_344 okX11_reads rfl rfl rfl rfl rfl ?_
  refine mReads_spec (mis_c hM hO1) (fun τ2 hO2 hM2 => ?_)
  exact rt_ic_eq rfl (fun _ => next τ2 _ (cis_d hC1 hO2) hM2) (fun hc => absurd rfl hc)
set_option maxRecDepth 100000 in
theorem law_c8 (hL : L ≤ 3072) (hi : i + 6 ≤ L) (hC : CIs τ a) (hM : MIs τ a) (next : ∀ τ2 a2, CIs τ2 a2 → MIs τ2 a2 → RT mL_law (some (L, xs)) 944 [some (.ref 1000000), some (.ref 0), some (.ref 63), some (.int (nI i))] [] τ2 Q) : RT mL_law (some (L, xs)) 352 [some (.ref 1000000), some (.ref 0), some (.ref 63), some (.int (nI i))] [] τ Q := by
  refine rt_run 5 rfl ?_
  refine rt_sld (i + 1) rfl (by omega) (by omega) ?_ (by rw [← nI_add]; rfl)
  refine rt_run 4 rfl ?_
  refine rt_sld (i + 2) rfl (by omega) (by omega) ?_ (by rw [← nI_add]; rfl)
  refine rt_cV (ci := 10) mX10_about kL_law_363 okX10_about rfl rfl rfl rfl rfl ?_
  refine about_spec hC (fun τ1 hO1 hC1 => ?_)
  refine rt_run 5 rfl ?_
  refine rt_sld (i + 1) rfl (by omega) (by omega) ?_ (by rw [← nI_add]; rfl)
  refine rt_run 4 rfl ?_
  refine rt_sld (i + 2) rfl (by omega) (by omega) ?_ (by rw [← nI_add]; rfl)
  refine rt_cV (ci := 11) mX11_about kL_law_377 okX11_about rfl rfl rfl rfl rfl ?_
  refine mAbout_spec (mis_c hM hO1) (fun τ2 hO2 hM2 => ?_)
  exact rt_ic_eq rfl (fun _ => next τ2 _ (cis_d hC1 hO2) hM2) (fun hc => absurd rfl hc)
set_option maxRecDepth 100000 in
theorem law_c9 (hL : L ≤ 3072) (hi : i + 6 ≤ L) (hC : CIs τ a) (hM : MIs τ a) (next : ∀ τ2 a2, CIs τ2 a2 → MIs τ2 a2 → RT mL_law (some (L, xs)) 944 [some (.ref 1000000), some (.ref 0), some (.ref 63), some (.int (nI i))] [] τ2 Q) : RT mL_law (some (L, xs)) 385 [some (.ref 1000000), some (.ref 0), some (.ref 63), some (.int (nI i))] [] τ Q := by
  refine rt_run 5 rfl ?_
  refine rt_sld (i + 1) rfl (by omega) (by omega) ?_ (by rw [← nI_add]; rfl)
  refine rt_run 4 rfl ?_
  refine rt_sld (i + 2) rfl (by omega) (by omega) ?_ (by rw [← nI_add]; rfl)
  refine rt_run 4 rfl ?_
  refine rt_sld (i + 3) rfl (by omega) (by omega) ?_ (by rw [← nI_add]; rfl)
  refine rt_cV (ci := 10) mX10_accepts kL_law_401 okX10_accepts rfl rfl rfl rfl rfl ?_
  refine accepts_spec hC (fun τ1 hO1 hC1 => ?_)
  refine rt_run 5 rfl ?_
  refine rt_sld (i + 1) rfl (by omega) (by omega) ?_ (by rw [← nI_add]; rfl)
  refine rt_run 4 rfl ?_
  refine rt_sld (i + 2) rfl (by omega) (by omega) ?_ (by rw [← nI_add]; rfl)
  refine rt_run 4 rfl ?_
  refine rt_sld (i + 3) rfl (by omega) (by omega) ?_ (by rw [← nI_add]; rfl)
  refine rt_cV (ci := 11) mX11_accepts kL_law_420 okX11_accepts rfl rfl rfl rfl rfl ?_
  refine mAccepts_spec (mis_c hM hO1) (fun τ2 hO2 hM2 => ?_)
  exact rt_ic_eq rfl (fun _ => next τ2 _ (cis_d hC1 hO2) hM2) (fun hc => absurd rfl hc)
set_option maxRecDepth 100000 in
theorem law_c10 (hL : L ≤ 3072) (hi : i + 6 ≤ L) (hC : CIs τ a) (hM : MIs τ a) (next : ∀ τ2 a2, CIs τ2 a2 → MIs τ2 a2 → RT mL_law (some (L, xs)) 944 [some (.ref 1000000), some (.ref 0), some (.ref 63), some (.int (nI i))] [] τ2 Q) : RT mL_law (some (L, xs)) 428 [some (.ref 1000000), some (.ref 0), some (.ref 63), some (.int (nI i))] [] τ Q := by
  refine rt_run 5 rfl ?_
  refine rt_sld (i + 1) rfl (by omega) (by omega) ?_ (by rw [← nI_add]; rfl)
  refine rt_run 4 rfl ?_
  refine rt_sld (i + 2) rfl (by omega) (by omega) ?_ (by rw [← nI_add]; rfl)
  refine rt_cV (ci := 10) mX10_words kL_law_439 okX10_words rfl rfl rfl rfl rfl ?_
  refine words_spec hC (fun τ1 hO1 hC1 => ?_)
  refine rt_run 5 rfl ?_
  refine rt_sld (i + 1) rfl (by omega) (by omega) ?_ (by rw [← nI_add]; rfl)
  refine rt_run 4 rfl ?_
  refine rt_sld (i + 2) rfl (by omega) (by omega) ?_ (by rw [← nI_add]; rfl)
  refine rt_cV (ci := 11) mX11_words kL_law_453 okX11_words rfl rfl rfl rfl rfl ?_
  refine mWords_spec (mis_c hM hO1) (fun τ2 hO2 hM2 => ?_)
  exact rt_ic_eq rfl (fun _ => next τ2 _ (cis_d hC1 hO2) hM2) (fun hc => absurd rfl hc)
set_option maxRecDepth 100000 in
theorem law_c11 (hL : L ≤ 3072) (hi : i + 6 ≤ L) (hC : CIs τ a) (hM : MIs τ a) (next : ∀ τ2 a2, CIs τ2 a2 → MIs τ2 a2 → RT mL_law (some (L, xs)) 944 [some (.ref 1000000), some (.ref 0), some (.ref 63), some (.int (nI i))] [] τ2 Q) : RT mL_law (some (L, xs)) 461 [some (.ref 1000000), some (.ref 0), some (.ref 63), some (.int (nI i))] [] τ Q := by
  refine rt_run 5 rfl ?_
  refine rt_sld (i + 1) rfl (by omega) (by omega) ?_ (by rw [← nI_add]; rfl)
  refine rt_run 4 rfl ?_
  refine rt_sld (i + 2) rfl (by omega) (by omega) ?_ (by rw [← nI_add]; rfl)
  refine rt_cV (ci := 10) mX10_beyond kL_law_472 okX10_beyond rfl rfl rfl rfl rfl ?_
  refine beyond_spec hC (fun τ1 hO1 hC1 => ?_)
  refine rt_run 5 rfl ?_
  refine rt_sld (i + 1) rfl (by omega) (by omega) ?_ (by rw [← nI_add]; rfl)
  refine rt_run 4 rfl ?_
  refine rt_sld (i + 2) rfl (by omega) (by omega) ?_ (by rw [← nI_add]; rfl)
  refine rt_cV (ci := 11) mX11_beyond kL_law_486 okX11_beyond rfl rfl rfl rfl rfl ?_
  refine mBeyond_spec (mis_c hM hO1) (fun τ2 hO2 hM2 => ?_)
  exact rt_ic_eq rfl (fun _ => next τ2 _ (cis_d hC1 hO2) hM2) (fun hc => absurd rfl hc)
set_option maxRecDepth 100000 in
theorem law_c12 (hL : L ≤ 3072) (hi : i + 6 ≤ L) (hC : CIs τ a) (hM : MIs τ a) (next : ∀ τ2 a2, CIs τ2 a2 → MIs τ2 a2 → RT mL_law (some (L, xs)) 944 [some (.ref 1000000), some (.ref 0), some (.ref 63), some (.int (nI i))] [] τ2 Q) : RT mL_law (some (L, xs)) 494 [some (.ref 1000000), some (.ref 0), some (.ref 63), some (.int (nI i))] [] τ Q := by
  refine rt_run 5 rfl ?_
  refine rt_sld (i + 1) rfl (by omega) (by omega) ?_ (by rw [← nI_add]; rfl)
  refine rt_run 4 rfl ?_
  refine rt_sld (i + 2) rfl (by omega) (by omega) ?_ (by rw [← nI_add]; rfl)
  refine rt_run 4 rfl ?_
  refine rt_sld (i + 3) rfl (by omega) (by omega) ?_ (by rw [← nI_add]; rfl)
  refine rt_cV (ci := 10) mX10_answers kL_law_510 okX10_answers rfl rfl rfl rfl rfl ?_
  refine answers_spec hC (fun τ1 hO1 hC1 => ?_)
  refine rt_run 5 rfl ?_
  refine rt_sld (i + 1) rfl (by omega) (by omega) ?_ (by rw [← nI_add]; rfl)
  refine rt_run 4 rfl ?_
  refine rt_sld (i + 2) rfl (by omega) (by omega) ?_ (by rw [← nI_add]; rfl)
  refine rt_run 4 rfl ?_
  refine rt_sld (i + 3) rfl (by omega) (by omega) ?_ (by rw [← nI_add]; rfl)
  refine rt_cV (ci := 11) mX11_answers kL_law_529 okX11_answers rfl rfl rfl rfl rfl ?_
  refine mAnswers_spec (mis_c hM hO1) (fun τ2 hO2 hM2 => ?_)
  exact rt_ic_eq rfl (fun _ => next τ2 _ (cis_d hC1 hO2) hM2) (fun hc => absurd rfl hc)
set_option maxRecDepth 100000 in
theorem law_c13 (hL : L ≤ 3072) (hi : i + 6 ≤ L) (hC : CIs τ a) (hM : MIs τ a) (next : ∀ τ2 a2, CIs τ2 a2 → MIs τ2 a2 → RT mL_law (some (L, xs)) 944 [some (.ref 1000000), some (.ref 0), some (.ref 63), some (.int (nI i))] [] τ2 Q) : RT mL_law (some (L, xs)) 537 [some (.ref 1000000), some (.ref 0), some (.ref 63), some (.int (nI i))] [] τ Q := by
  refine rt_run 5 rfl ?_
  refine rt_sld (i + 1) rfl (by omega) (by omega) ?_ (by rw [← nI_add]; rfl)
  refine rt_run 4 rfl ?_
  refine rt_sld (i + 2) rfl (by omega) (by omega) ?_ (by rw [← nI_add]; rfl)
  refine rt_cV (ci := 10) mX10_ends kL_law_548 okX10_ends rfl rfl rfl rfl rfl ?_
  refine ends_spec hC (fun τ1 hO1 hC1 => ?_)
  refine rt_run 5 rfl ?_
  refine rt_sld (i + 1) rfl (by omega) (by omega) ?_ (by rw [← nI_add]; rfl)
  refine rt_run 4 rfl ?_
  refine rt_sld (i + 2) rfl (by omega) (by omega) ?_ (by rw [← nI_add]; rfl)
  refine rt_cV (ci := 11) mX11_ends kL_law_562 okX11_ends rfl rfl rfl rfl rfl ?_
  refine mEnds_spec (mis_c hM hO1) (fun τ2 hO2 hM2 => ?_)
  exact rt_ic_eq rfl (fun _ => next τ2 _ (cis_d hC1 hO2) hM2) (fun hc => absurd rfl hc)
set_option maxRecDepth 100000 in
theorem law_c14 (hL : L ≤ 3072) (hi : i + 6 ≤ L) (hC : CIs τ a) (hM : MIs τ a) (next : ∀ τ2 a2, CIs τ2 a2 → MIs τ2 a2 → RT mL_law (some (L, xs)) 944 [some (.ref 1000000), some (.ref 0), some (.ref 63), some (.int (nI i))] [] τ2 Q) : RT mL_law (some (L, xs)) 570 [some (.ref 1000000), some (.ref 0), some (.ref 63), some (.int (nI i))] [] τ Q := by
  refine rt_run 5 rfl ?_
  refine rt_sld (i + 1) rfl (by omega) (by omega) ?_ (by rw [← nI_add]; rfl)
  refine rt_cV (ci := 10) mX10_pairs kL_law_576 okX10_pairs rfl rfl rfl rfl rfl ?_
  refine pairs_spec hC (fun τ1 hO1 hC1 => ?_)
  refine rt_run 5 rfl ?_
  refine rt_sld (i + 1) rfl (by omega) (by omega) ?_ (by rw [← nI_add]; rfl)
  refine rt_cV (ci := 11) mX11_pairs kL_law_585 okX11_pairs rfl rfl rfl rfl rfl ?_
  refine mPairs_spec (mis_c hM hO1) (fun τ2 hO2 hM2 => ?_)
  exact rt_ic_eq rfl (fun _ => next τ2 _ (cis_d hC1 hO2) hM2) (fun hc => absurd rfl hc)
set_option maxRecDepth 100000 in
theorem law_c15 (hL : L ≤ 3072) (hi : i + 6 ≤ L) (hC : CIs τ a) (hM : MIs τ a) (next : ∀ τ2 a2, CIs τ2 a2 → MIs τ2 a2 → RT mL_law (some (L, xs)) 944 [some (.ref 1000000), some (.ref 0), some (.ref 63), some (.int (nI i))] [] τ2 Q) : RT mL_law (some (L, xs)) 593 [some (.ref 1000000), some (.ref 0), some (.ref 63), some (.int (nI i))] [] τ Q := by
  refine rt_run 5 rfl ?_
  refine rt_sld (i + 1) rfl (by omega) (by omega) ?_ (by rw [← nI_add]; rfl)
  refine rt_run 4 rfl ?_
  refine rt_sld (i + 2) rfl (by omega) (by omega) ?_ (by rw [← nI_add]; rfl)
  refine rt_run 4 rfl ?_
  refine rt_sld (i + 3) rfl (by omega) (by omega) ?_ (by rw [← nI_add]; rfl)
  refine rt_cV (ci := 10) mX10_far kL_law_609 okX10_far rfl rfl rfl rfl rfl ?_
  refine far_spec hC (fun τ1 hO1 hC1 => ?_)
  refine rt_run 5 rfl ?_
  refine rt_sld (i + 1) rfl (by omega) (by omega) ?_ (by rw [← nI_add]; rfl)
  refine rt_run 4 rfl ?_
  refine rt_sld (i + 2) rfl (by omega) (by omega) ?_ (by rw [← nI_add]; rfl)
  refine rt_run 4 rfl ?_
  refine rt_sld (i + 3) rfl (by omega) (by omega) ?_ (by rw [← nI_add]; rfl)
  refine rt_cV (ci := 11) mX11_far kL_law_628 okX11_far rfl rfl rfl rfl rfl ?_
  refine mFar_spec (mis_c hM hO1) (fun τ2 hO2 hM2 => ?_)
  exact rt_ic_eq rfl (fun _ => next τ2 _ (cis_d hC1 hO2) hM2) (fun hc => absurd rfl hc)
set_option maxRecDepth 100000 in
theorem law_c16 (hL : L ≤ 3072) (hi : i + 6 ≤ L) (hC : CIs τ a) (hM : MIs τ a) (next : ∀ τ2 a2, CIs τ2 a2 → MIs τ2 a2 → RT mL_law (some (L, xs)) 944 [some (.ref 1000000), some (.ref 0), some (.ref 63), some (.int (nI i))] [] τ2 Q) : RT mL_law (some (L, xs)) 636 [some (.ref 1000000), some (.ref 0), some (.ref 63), some (.int (nI i))] [] τ Q := by
  refine rt_run 5 rfl ?_
  refine rt_sld (i + 1) rfl (by omega) (by omega) ?_ (by rw [← nI_add]; rfl)
  refine rt_run 4 rfl ?_
  refine rt_sld (i + 2) rfl (by omega) (by omega) ?_ (by rw [← nI_add]; rfl)
  refine rt_run 4 rfl ?_
  refine rt_sld (i + 3) rfl (by omega) (by omega) ?_ (by rw [← nI_add]; rfl)
  refine rt_run 4 rfl ?_
  refine rt_sld (i + 4) rfl (by omega) (by omega) ?_ (by rw [← nI_add]; rfl)
  refine rt_cV (ci := 10) mX10_count kL_law_657 okX10_count rfl rfl rfl rfl rfl ?_
  refine count_spec hC (fun τ1 hO1 hC1 => ?_)
  refine rt_run 5 rfl ?_
  refine rt_sld (i + 1) rfl (by omega) (by omega) ?_ (by rw [← nI_add]; rfl)
  refine rt_run 4 rfl ?_
  refine rt_sld (i + 2) rfl (by omega) (by omega) ?_ (by rw [← nI_add]; rfl)
  refine rt_run 4 rfl ?_
  refine rt_sld (i + 3) rfl (by omega) (by omega) ?_ (by rw [← nI_add]; rfl)
  refine rt_run 4 rfl ?_
  refine rt_sld (i + 4) rfl (by omega) (by omega) ?_ (by rw [← nI_add]; rfl)
  refine rt_cV (ci := 11) mX11_count kL_law_681 okX11_count rfl rfl rfl rfl rfl ?_
  refine mCount_spec (mis_c hM hO1) (fun τ2 hO2 hM2 => ?_)
  exact rt_ic_eq rfl (fun _ => next τ2 _ (cis_d hC1 hO2) hM2) (fun hc => absurd rfl hc)
set_option maxRecDepth 100000 in
theorem law_c17 (hL : L ≤ 3072) (hi : i + 6 ≤ L) (hC : CIs τ a) (hM : MIs τ a) (next : ∀ τ2 a2, CIs τ2 a2 → MIs τ2 a2 → RT mL_law (some (L, xs)) 944 [some (.ref 1000000), some (.ref 0), some (.ref 63), some (.int (nI i))] [] τ2 Q) : RT mL_law (some (L, xs)) 689 [some (.ref 1000000), some (.ref 0), some (.ref 63), some (.int (nI i))] [] τ Q := by
  refine rt_run 5 rfl ?_
  refine rt_sld (i + 1) rfl (by omega) (by omega) ?_ (by rw [← nI_add]; rfl)
  refine rt_run 4 rfl ?_
  refine rt_sld (i + 2) rfl (by omega) (by omega) ?_ (by rw [← nI_add]; rfl)
  refine rt_run 4 rfl ?_
  refine rt_sld (i + 3) rfl (by omega) (by omega) ?_ (by rw [← nI_add]; rfl)
  refine rt_run 4 rfl ?_
  refine rt_sld (i + 4) rfl (by omega) (by omega) ?_ (by rw [← nI_add]; rfl)
  refine rt_run 4 rfl ?_
  refine rt_sld (i + 5) rfl (by omega) (by omega) ?_ (by rw [← nI_add]; rfl)
  refine rt_cV (ci := 10) mX10_route kL_law_715 okX10_route rfl rfl rfl rfl rfl ?_
  refine route_spec hC (fun τ1 hO1 hC1 => ?_)
  refine rt_run 5 rfl ?_
  refine rt_sld (i + 1) rfl (by omega) (by omega) ?_ (by rw [← nI_add]; rfl)
  refine rt_run 4 rfl ?_
  refine rt_sld (i + 2) rfl (by omega) (by omega) ?_ (by rw [← nI_add]; rfl)
  refine rt_run 4 rfl ?_
  refine rt_sld (i + 3) rfl (by omega) (by omega) ?_ (by rw [← nI_add]; rfl)
  refine rt_run 4 rfl ?_
  refine rt_sld (i + 4) rfl (by omega) (by omega) ?_ (by rw [← nI_add]; rfl)
  refine rt_run 4 rfl ?_
  refine rt_sld (i + 5) rfl (by omega) (by omega) ?_ (by rw [← nI_add]; rfl)
  refine rt_cV (ci := 11) mX11_route kL_law_744 okX11_route rfl rfl rfl rfl rfl ?_
  refine mRoute_spec (mis_c hM hO1) (fun τ2 hO2 hM2 => ?_)
  exact rt_ic_eq rfl (fun _ => next τ2 _ (cis_d hC1 hO2) hM2) (fun hc => absurd rfl hc)
set_option maxRecDepth 100000 in
theorem law_c18 (hL : L ≤ 3072) (hi : i + 6 ≤ L) (hC : CIs τ a) (hM : MIs τ a) (next : ∀ τ2 a2, CIs τ2 a2 → MIs τ2 a2 → RT mL_law (some (L, xs)) 944 [some (.ref 1000000), some (.ref 0), some (.ref 63), some (.int (nI i))] [] τ2 Q) : RT mL_law (some (L, xs)) 752 [some (.ref 1000000), some (.ref 0), some (.ref 63), some (.int (nI i))] [] τ Q := by
  refine rt_run 5 rfl ?_
  refine rt_sld (i + 1) rfl (by omega) (by omega) ?_ (by rw [← nI_add]; rfl)
  refine rt_run 4 rfl ?_
  refine rt_sld (i + 2) rfl (by omega) (by omega) ?_ (by rw [← nI_add]; rfl)
  refine rt_run 4 rfl ?_
  refine rt_sld (i + 3) rfl (by omega) (by omega) ?_ (by rw [← nI_add]; rfl)
  refine rt_cV (ci := 10) mX10_bridge kL_law_768 okX10_bridge rfl rfl rfl rfl rfl ?_
  refine bridge_spec hC (fun τ1 hO1 hC1 => ?_)
  refine rt_run 5 rfl ?_
  refine rt_sld (i + 1) rfl (by omega) (by omega) ?_ (by rw [← nI_add]; rfl)
  refine rt_run 4 rfl ?_
  refine rt_sld (i + 2) rfl (by omega) (by omega) ?_ (by rw [← nI_add]; rfl)
  refine rt_run 4 rfl ?_
  refine rt_sld (i + 3) rfl (by omega) (by omega) ?_ (by rw [← nI_add]; rfl)
  refine rt_cV (ci := 11) mX11_bridge kL_law_787 okX11_bridge rfl rfl rfl rfl rfl ?_
  refine mBridge_spec (mis_c hM hO1) (fun τ2 hO2 hM2 => ?_)
  exact rt_ic_eq rfl (fun _ => next τ2 _ (cis_d hC1 hO2) hM2) (fun hc => absurd rfl hc)
set_option maxRecDepth 100000 in
theorem law_c19 (hL : L ≤ 3072) (hi : i + 6 ≤ L) (hC : CIs τ a) (hM : MIs τ a) (next : ∀ τ2 a2, CIs τ2 a2 → MIs τ2 a2 → RT mL_law (some (L, xs)) 944 [some (.ref 1000000), some (.ref 0), some (.ref 63), some (.int (nI i))] [] τ2 Q) : RT mL_law (some (L, xs)) 795 [some (.ref 1000000), some (.ref 0), some (.ref 63), some (.int (nI i))] [] τ Q := by
  refine rt_run 5 rfl ?_
  refine rt_sld (i + 1) rfl (by omega) (by omega) ?_ (by rw [← nI_add]; rfl)
  refine rt_cV (ci := 10) mX10_stand kL_law_801 okX10_stand rfl rfl rfl rfl rfl ?_
  refine stand_spec hC (fun τ1 hO1 hC1 => ?_)
  refine rt_run 5 rfl ?_
  refine rt_sld (i + 1) rfl (by omega) (by omega) ?_ (by rw [← nI_add]; rfl)
  refine rt_cV (ci := 11) mX11_stand kL_law_810 okX11_stand rfl rfl rfl rfl rfl ?_
  refine mStand_spec (mis_c hM hO1) (fun τ2 hO2 hM2 => ?_)
  exact rt_ic_eq rfl (fun _ => next τ2 _ (cis_d hC1 hO2) hM2) (fun hc => absurd rfl hc)
set_option maxRecDepth 100000 in
theorem law_c20 (hL : L ≤ 3072) (hi : i + 6 ≤ L) (hC : CIs τ a) (hM : MIs τ a) (next : ∀ τ2 a2, CIs τ2 a2 → MIs τ2 a2 → RT mL_law (some (L, xs)) 944 [some (.ref 1000000), some (.ref 0), some (.ref 63), some (.int (nI i))] [] τ2 Q) : RT mL_law (some (L, xs)) 818 [some (.ref 1000000), some (.ref 0), some (.ref 63), some (.int (nI i))] [] τ Q := by
  refine rt_run 5 rfl ?_
  refine rt_sld (i + 1) rfl (by omega) (by omega) ?_ (by rw [← nI_add]; rfl)
  refine rt_cV (ci := 10) mX10_standing kL_law_824 okX10_standing rfl rfl rfl rfl rfl ?_
  refine standing_spec hC (fun τ1 hO1 hC1 => ?_)
  refine rt_run 5 rfl ?_
  refine rt_sld (i + 1) rfl (by omega) (by omega) ?_ (by rw [← nI_add]; rfl)
  refine rt_cV (ci := 11) mX11_standing kL_law_833 okX11_standing rfl rfl rfl rfl rfl ?_
  refine mStanding_spec (mis_c hM hO1) (fun τ2 hO2 hM2 => ?_)
  exact rt_ic_eq rfl (fun _ => next τ2 _ (cis_d hC1 hO2) hM2) (fun hc => absurd rfl hc)
set_option maxRecDepth 100000 in
theorem law_c21 (hL : L ≤ 3072) (hi : i + 6 ≤ L) (hC : CIs τ a) (hM : MIs τ a) (next : ∀ τ2 a2, CIs τ2 a2 → MIs τ2 a2 → RT mL_law (some (L, xs)) 944 [some (.ref 1000000), some (.ref 0), some (.ref 63), some (.int (nI i))] [] τ2 Q) : RT mL_law (some (L, xs)) 841 [some (.ref 1000000), some (.ref 0), some (.ref 63), some (.int (nI i))] [] τ Q := by
  refine rt_run 5 rfl ?_
  refine rt_sld (i + 1) rfl (by omega) (by omega) ?_ (by rw [← nI_add]; rfl)
  refine rt_run 4 rfl ?_
  refine rt_sld (i + 2) rfl (by omega) (by omega) ?_ (by rw [← nI_add]; rfl)
  refine rt_cV (ci := 10) mX10_kept kL_law_852 okX10_kept rfl rfl rfl rfl rfl ?_
  refine kept_spec hC (fun τ1 hO1 hC1 => ?_)
  refine rt_run 5 rfl ?_
  refine rt_sld (i + 1) rfl (by omega) (by omega) ?_ (by rw [← nI_add]; rfl)
  refine rt_run 4 rfl ?_
  refine rt_sld (i + 2) rfl (by omega) (by omega) ?_ (by rw [← nI_add]; rfl)
  refine rt_cV (ci := 11) mX11_kept kL_law_866 okX11_kept rfl rfl rfl rfl rfl ?_
  refine mKept_spec (mis_c hM hO1) (fun τ2 hO2 hM2 => ?_)
  exact rt_ic_eq rfl (fun _ => next τ2 _ (cis_d hC1 hO2) hM2) (fun hc => absurd rfl hc)
set_option maxRecDepth 100000 in
theorem law_c22 (hL : L ≤ 3072) (hi : i + 6 ≤ L) (hC : CIs τ a) (hM : MIs τ a) (next : ∀ τ2 a2, CIs τ2 a2 → MIs τ2 a2 → RT mL_law (some (L, xs)) 944 [some (.ref 1000000), some (.ref 0), some (.ref 63), some (.int (nI i))] [] τ2 Q) : RT mL_law (some (L, xs)) 874 [some (.ref 1000000), some (.ref 0), some (.ref 63), some (.int (nI i))] [] τ Q := by
  refine rt_run 5 rfl ?_
  refine rt_sld (i + 1) rfl (by omega) (by omega) ?_ (by rw [← nI_add]; rfl)
  refine rt_run 4 rfl ?_
  refine rt_sld (i + 2) rfl (by omega) (by omega) ?_ (by rw [← nI_add]; rfl)
  refine rt_cV (ci := 10) mX10_draw kL_law_885 okX10_draw rfl rfl rfl rfl rfl ?_
  refine draw_spec hC (fun τ1 hO1 hC1 => ?_)
  refine rt_run 5 rfl ?_
  refine rt_sld (i + 1) rfl (by omega) (by omega) ?_ (by rw [← nI_add]; rfl)
  refine rt_run 4 rfl ?_
  refine rt_sld (i + 2) rfl (by omega) (by omega) ?_ (by rw [← nI_add]; rfl)
  refine rt_cV (ci := 11) mX11_draw kL_law_899 okX11_draw rfl rfl rfl rfl rfl ?_
  refine mDraw_spec (mis_c hM hO1) (fun τ2 hO2 hM2 => ?_)
  exact rt_ic_eq rfl (fun _ => next τ2 _ (cis_d hC1 hO2) hM2) (fun hc => absurd rfl hc)
set_option maxRecDepth 100000 in
theorem law_c23 (hL : L ≤ 3072) (hi : i + 6 ≤ L) (hC : CIs τ a) (hM : MIs τ a) (next : ∀ τ2 a2, CIs τ2 a2 → MIs τ2 a2 → RT mL_law (some (L, xs)) 944 [some (.ref 1000000), some (.ref 0), some (.ref 63), some (.int (nI i))] [] τ2 Q) : RT mL_law (some (L, xs)) 907 [some (.ref 1000000), some (.ref 0), some (.ref 63), some (.int (nI i))] [] τ Q := by
  refine rt_run 5 rfl ?_
  refine rt_sld (i + 1) rfl (by omega) (by omega) ?_ (by rw [← nI_add]; rfl)
  refine rt_cV (ci := 10) mX10_told kL_law_913 okX10_told rfl rfl rfl rfl rfl ?_
  refine told_spec hC (fun τ1 hO1 hC1 => ?_)
  refine rt_run 5 rfl ?_
  refine rt_sld (i + 1) rfl (by omega) (by omega) ?_ (by rw [← nI_add]; rfl)
  refine rt_cV (ci := 11) mX11_told kL_law_922 okX11_told rfl rfl rfl rfl rfl ?_
  refine mTold_spec (mis_c hM hO1) (fun τ2 hO2 hM2 => ?_)
  exact rt_ic_eq rfl (fun _ => next τ2 _ (cis_d hC1 hO2) hM2) (fun hc => absurd rfl hc)
set_option maxRecDepth 100000 in
theorem law_c24 (hL : L ≤ 3072) (hi : i + 6 ≤ L) (hC : CIs τ a) (hM : MIs τ a) (next : ∀ τ2 a2, CIs τ2 a2 → MIs τ2 a2 → RT mL_law (some (L, xs)) 944 [some (.ref 1000000), some (.ref 0), some (.ref 63), some (.int (nI i))] [] τ2 Q) : RT mL_law (some (L, xs)) 930 [some (.ref 1000000), some (.ref 0), some (.ref 63), some (.int (nI i))] [] τ Q := by
  refine rt_run 1 rfl ?_
  refine rt_cV (ci := 10) mX10_digest kL_law_931 okX10_digest rfl rfl rfl rfl rfl ?_
  refine digest_spec hC (fun τ1 hO1 hC1 => ?_)
  refine rt_run 1 rfl ?_
  refine rt_cV (ci := 11) mX11_digest kL_law_935 okX11_digest rfl rfl rfl rfl rfl ?_
  refine mDigest_spec (mis_c hM hO1) (fun τ2 hO2 hM2 => ?_)
  refine rt_run 1 rfl ?_
  exact rt_if_eq rfl (fun _ => next τ2 _ (cis_d hC1 hO2) hM2) (fun hc => absurd ((lg_cmp_eq _ _).mpr rfl) hc)
end LawCases

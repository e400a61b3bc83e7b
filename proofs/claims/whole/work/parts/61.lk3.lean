/-! CALLS of the law: far, sums, uncle, crumbs -/
theorem lk_15 {L : Nat} {xs y : Nat → Int32} {i : Int32} {s0 : hp_I} {u0 : hp_L} {j : hp_I → hp_L → Option Int32} (hy : SL L xs i y) (r : REL s0) : ∃ s3 u3, lc_15 L xs j i s0 u0 = j s3 u3 ∧ REL s3 := by
  obtain ⟨A, ok, cx, cm, tp, ct⟩ := r
  unfold lc_15 fn_L_far
  simp only [e_let, e_bd, sl_1 hy, sl_2 hy]
  exact ask_0 ok cx cm tp ct (xq_far ok cx _ _) (qo_n (qo_2 _)) (fun s h _ => mq_far ok h _ _)
theorem lk_20 {L : Nat} {xs y : Nat → Int32} {i : Int32} {s0 : hp_I} {u0 : hp_L} {j : hp_I → hp_L → Option Int32} (hy : SL L xs i y) (r : REL s0) : ∃ s3 u3, lc_20 L xs j i s0 u0 = j s3 u3 ∧ REL s3 := by
  obtain ⟨A, ok, cx, cm, tp, ct⟩ := r
  unfold lc_20 fn_L_sums
  simp only [e_let, e_bd, sl_1 hy, sl_2 hy]
  exact ask_2 ok cx cm tp ct (xq_sums ok cx _ _) (fun s h _ => mq_sums ok h _ _)
theorem lk_23 {L : Nat} {xs y : Nat → Int32} {i : Int32} {s0 : hp_I} {u0 : hp_L} {j : hp_I → hp_L → Option Int32} (hy : SL L xs i y) (r : REL s0) : ∃ s3 u3, lc_23 L xs j i s0 u0 = j s3 u3 ∧ REL s3 := by
  obtain ⟨A, ok, cx, cm, tp, ct⟩ := r
  unfold lc_23 fn_L_uncle
  simp only [e_let, e_bd, sl_1 hy, sl_2 hy, sl_3 hy]
  exact ask_1 ok cx cm tp ct (xq_uncle ok cx _ _ _) (qi_n (qi_n (qi_1 _))) (fun s h _ => mq_uncle ok h _ _ _)
theorem lk_25 {L : Nat} {xs y : Nat → Int32} {i : Int32} {s0 : hp_I} {u0 : hp_L} {j : hp_I → hp_L → Option Int32} (hy : SL L xs i y) (r : REL s0) : ∃ s3 u3, lc_25 L xs j i s0 u0 = j s3 u3 ∧ REL s3 := by
  obtain ⟨A, ok, cx, cm, tp, ct⟩ := r
  unfold lc_25 fn_L_crumbs
  simp only [e_let, e_bd, sl_1 hy, sl_2 hy, sl_3 hy]
  exact ask_2 ok cx cm tp ct (xq_crumbs ok cx _ _ _) (fun s h _ => mq_crumbs ok h _ _ _)

/-! CALLS of the law: fits, look -/
theorem lk_21 {L : Nat} {xs y : Nat → Int32} {i : Int32} {s0 : hp_I} {u0 : hp_L} {j : hp_I → hp_L → Option Int32} (hy : SL L xs i y) (r : REL s0) : ∃ s3 u3, lc_21 L xs j i s0 u0 = j s3 u3 ∧ REL s3 := by
  obtain ⟨A, ok, cx, cm, tp, ct⟩ := r
  unfold lc_21 fn_L_fits
  simp only [e_let, e_bd, sl_1 hy]
  exact ask_1 ok cx cm tp ct (xq_fits ok cx _) (qi_1 _) (fun s h _ => mq_fits ok h _)
theorem lk_22 {L : Nat} {xs y : Nat → Int32} {i : Int32} {s0 : hp_I} {u0 : hp_L} {j : hp_I → hp_L → Option Int32} (hy : SL L xs i y) (r : REL s0) : ∃ s3 u3, lc_22 L xs j i s0 u0 = j s3 u3 ∧ REL s3 := by
  obtain ⟨A, ok, cx, cm, tp, ct⟩ := r
  unfold lc_22 fn_L_look
  simp only [e_let, e_bd, sl_1 hy]
  exact ask_1 ok cx cm tp ct (xq_look ok cx _) (qi_1 _) (fun s h _ => mq_look ok h _)

/-! CALLS of the law: hunt, prey -/
theorem lk_18 {L : Nat} {xs y : Nat → Int32} {i : Int32} {s0 : hp_I} {u0 : hp_L} {j : hp_I → hp_L → Option Int32} (hy : SL L xs i y) (r : REL s0) : ∃ s3 u3, lc_18 L xs j i s0 u0 = j s3 u3 ∧ REL s3 := by
  obtain ⟨A, ok, cx, cm, tp, ct⟩ := r
  unfold lc_18 fn_L_hunt
  simp only [e_let, e_bd, sl_1 hy]
  exact ask_1 ok cx cm tp ct (xq_hunt ok cx _) (qi_1 _) (fun s h _ => mq_hunt ok h _)
theorem lk_19 {L : Nat} {xs y : Nat → Int32} {i : Int32} {s0 : hp_I} {u0 : hp_L} {j : hp_I → hp_L → Option Int32} (hy : SL L xs i y) (r : REL s0) : ∃ s3 u3, lc_19 L xs j i s0 u0 = j s3 u3 ∧ REL s3 := by
  obtain ⟨A, ok, cx, cm, tp, ct⟩ := r
  unfold lc_19 fn_L_prey
  simp only [e_let, e_bd, sl_1 hy]
  exact ask_0 ok cx cm tp ct (xq_prey ok cx _) (qo_2 _) (fun s h _ => mq_prey ok h _)

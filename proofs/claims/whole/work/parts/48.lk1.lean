/-! CALLS of the law that look only -/
theorem qi_1 (b : Bool) : qb_i b 0 ≠ 1 := by cases b <;> decide
theorem qo_2 (b : Bool) : qb_o b 0 ≠ 2 := by cases b <;> decide
theorem qi_n {b : Bool} {q : Nat} (h : q ≠ 1) : qb_i b q ≠ 1 := by
  cases b with
  | false => intro e; cases e
  | true => exact h
theorem qo_n {b : Bool} {q : Nat} (h : q ≠ 2) : qb_o b q ≠ 2 := by
  cases b with
  | false => intro e; cases e
  | true => exact h
theorem lk_8 {L : Nat} {xs y : Nat → Int32} {i : Int32} {s0 : hp_I} {u0 : hp_L} {j : hp_I → hp_L → Option Int32} (hy : SL L xs i y) (r : REL s0) : ∃ s3 u3, lc_8 L xs j i s0 u0 = j s3 u3 ∧ REL s3 := by
  obtain ⟨A, ok, cx, cm, tp, ct⟩ := r
  unfold lc_8 fn_L_room
  simp only [e_let, e_bd, sl_1 hy, sl_2 hy]
  exact ask_2 ok cx cm tp ct (xq_room ok cx _ _) (fun s h _ => mq_room ok h _ _)
theorem lk_9 {L : Nat} {xs y : Nat → Int32} {i : Int32} {s0 : hp_I} {u0 : hp_L} {j : hp_I → hp_L → Option Int32} (hy : SL L xs i y) (r : REL s0) : ∃ s3 u3, lc_9 L xs j i s0 u0 = j s3 u3 ∧ REL s3 := by
  obtain ⟨A, ok, cx, cm, tp, ct⟩ := r
  unfold lc_9 fn_L_way
  simp only [e_let, e_bd, sl_1 hy, sl_2 hy]
  exact ask_2 ok cx cm tp ct (xq_way ok cx _ _) (fun s h _ => mq_way ok h _ _)
theorem lk_10 {L : Nat} {xs y : Nat → Int32} {i : Int32} {s0 : hp_I} {u0 : hp_L} {j : hp_I → hp_L → Option Int32} (hy : SL L xs i y) (r : REL s0) : ∃ s3 u3, lc_10 L xs j i s0 u0 = j s3 u3 ∧ REL s3 := by
  obtain ⟨A, ok, cx, cm, tp, ct⟩ := r
  unfold lc_10 fn_L_scheme
  simp only [e_let, e_bd, sl_1 hy, sl_2 hy]
  exact ask_2 ok cx cm tp ct (xq_scheme ok cx _ _) (fun s h _ => mq_scheme ok h _ _)
theorem lk_11 {L : Nat} {xs y : Nat → Int32} {i : Int32} {s0 : hp_I} {u0 : hp_L} {j : hp_I → hp_L → Option Int32} (hy : SL L xs i y) (r : REL s0) : ∃ s3 u3, lc_11 L xs j i s0 u0 = j s3 u3 ∧ REL s3 := by
  obtain ⟨A, ok, cx, cm, tp, ct⟩ := r
  unfold lc_11 fn_L_cat
  simp only [e_let, e_bd, sl_1 hy, sl_2 hy]
  exact ask_2 ok cx cm tp ct (xq_cat ok cx _ _) (fun s h _ => mq_cat ok h _ _)
theorem lk_12 {L : Nat} {xs y : Nat → Int32} {i : Int32} {s0 : hp_I} {u0 : hp_L} {j : hp_I → hp_L → Option Int32} (hy : SL L xs i y) (r : REL s0) : ∃ s3 u3, lc_12 L xs j i s0 u0 = j s3 u3 ∧ REL s3 := by
  obtain ⟨A, ok, cx, cm, tp, ct⟩ := r
  unfold lc_12 fn_L_more
  simp only [e_let, e_bd, sl_1 hy]
  exact ask_0 ok cx cm tp ct (xq_more ok cx _) (qo_2 _) (fun s h _ => mq_more ok h _)
theorem lk_13 {L : Nat} {xs y : Nat → Int32} {i : Int32} {s0 : hp_I} {u0 : hp_L} {j : hp_I → hp_L → Option Int32} (hy : SL L xs i y) (r : REL s0) : ∃ s3 u3, lc_13 L xs j i s0 u0 = j s3 u3 ∧ REL s3 := by
  obtain ⟨A, ok, cx, cm, tp, ct⟩ := r
  unfold lc_13 fn_L_would
  simp only [e_let, e_bd, sl_1 hy, sl_2 hy, sl_3 hy, sl_4 hy, sl_5 hy, sl_6 hy, sl_7 hy]
  exact ask_1 ok cx cm tp ct (xq_would ok cx _ _ _ _ _ _ _) (qi_n (qi_n (qi_n (qi_n (qi_n (qi_n (qi_1 _))))))) (fun s h _ => mq_would ok h _ _ _ _ _ _ _)
theorem lk_26 {L : Nat} {xs y : Nat → Int32} {i : Int32} {s0 : hp_I} {u0 : hp_L} {j : hp_I → hp_L → Option Int32} (hy : SL L xs i y) (r : REL s0) : ∃ s3 u3, lc_26 L xs j i s0 u0 = j s3 u3 ∧ REL s3 := by
  obtain ⟨A, ok, cx, cm, tp, ct⟩ := r
  unfold lc_26 fn_L_greatest
  simp only [e_let, e_bd, sl_1 hy]
  exact ask_1 ok cx cm tp ct (xq_great ok cx _) (qi_1 _) (fun s h _ => mq_great ok h _)
theorem lk_27 {L : Nat} {xs y : Nat → Int32} {i : Int32} {s0 : hp_I} {u0 : hp_L} {j : hp_I → hp_L → Option Int32} (hy : SL L xs i y) (r : REL s0) : ∃ s3 u3, lc_27 L xs j i s0 u0 = j s3 u3 ∧ REL s3 := by
  obtain ⟨A, ok, cx, cm, tp, ct⟩ := r
  unfold lc_27 fn_L_proudest
  simp only [e_let, e_bd, sl_1 hy]
  exact ask_1 ok cx cm tp ct (xq_proud ok cx _) (qi_1 _) (fun s h _ => mq_proud ok h _)
theorem lk_30 {L : Nat} {xs y : Nat → Int32} {i : Int32} {s0 : hp_I} {u0 : hp_L} {j : hp_I → hp_L → Option Int32} (hy : SL L xs i y) (r : REL s0) : ∃ s3 u3, lc_30 L xs j i s0 u0 = j s3 u3 ∧ REL s3 := by
  obtain ⟨A, ok, cx, cm, tp, ct⟩ := r
  unfold lc_30 fn_L_havens
  simp only [e_let, e_bd, sl_1 hy]
  exact ask_1 ok cx cm tp ct (xq_havens ok cx _) (qi_1 _) (fun s h _ => mq_havens ok h _)
theorem lk_32 {L : Nat} {xs y : Nat → Int32} {i : Int32} {s0 : hp_I} {u0 : hp_L} {j : hp_I → hp_L → Option Int32} (hy : SL L xs i y) (r : REL s0) : ∃ s3 u3, lc_32 L xs j i s0 u0 = j s3 u3 ∧ REL s3 := by
  obtain ⟨A, ok, cx, cm, tp, ct⟩ := r
  unfold lc_32 fn_L_crowd
  simp only [e_let, e_bd, sl_1 hy]
  exact ask_1 ok cx cm tp ct (xq_crowd ok cx _) (qi_1 _) (fun s h _ => mq_crowd ok h _)
theorem lk_34 {L : Nat} {xs y : Nat → Int32} {i : Int32} {s0 : hp_I} {u0 : hp_L} {j : hp_I → hp_L → Option Int32} (hy : SL L xs i y) (r : REL s0) : ∃ s3 u3, lc_34 L xs j i s0 u0 = j s3 u3 ∧ REL s3 := by
  obtain ⟨A, ok, cx, cm, tp, ct⟩ := r
  unfold lc_34 fn_L_escapes
  simp only [e_let, e_bd, sl_1 hy]
  exact ask_0 ok cx cm tp ct (xq_esc ok cx _) (qo_2 _) (fun s h _ => mq_esc ok h _)
theorem lk_35 {L : Nat} {xs y : Nat → Int32} {i : Int32} {s0 : hp_I} {u0 : hp_L} {j : hp_I → hp_L → Option Int32} (hy : SL L xs i y) (r : REL s0) : ∃ s3 u3, lc_35 L xs j i s0 u0 = j s3 u3 ∧ REL s3 := by
  obtain ⟨A, ok, cx, cm, tp, ct⟩ := r
  unfold lc_35 fn_L_weight
  simp only [e_let, e_bd, sl_1 hy]
  exact ask_0 ok cx cm tp ct (xq_weight ok cx _) (qo_2 _) (fun s h _ => mq_weight ok h _)
theorem lk_7 {L : Nat} {xs y : Nat → Int32} {i : Int32} {s0 : hp_I} {u0 : hp_L} {j : hp_I → hp_L → Option Int32} (hy : SL L xs i y) (r : REL s0) : ∃ s3 u3, lc_7 L xs j i s0 u0 = j s3 u3 ∧ REL s3 := by
  obtain ⟨A, ok, cx, cm, tp, ct⟩ := r
  unfold lc_7 fn_L_told
  simp only [e_let, e_bd, sl_1 hy]
  exact ask_1 ok cx cm tp ct (xq_told ok cx _) (qi_1 _) (fun s h e => mq_told ok h _ _ (e.trans ct.1))
theorem lk_5 {L : Nat} {xs y : Nat → Int32} {i : Int32} {s0 : hp_I} {u0 : hp_L} {j : hp_I → hp_L → Option Int32} (hy : SL L xs i y) (r : REL s0) : ∃ s3 u3, lc_5 L xs j i s0 u0 = j s3 u3 ∧ REL s3 := by
  obtain ⟨A, ok, cx, cm, tp, ct⟩ := r
  unfold lc_5
  simp only [e_bd, t_1]
  exact ask_n ok cx cm tp ct (mq_fault tp)
theorem lk_28 {L : Nat} {xs y : Nat → Int32} {i : Int32} {s0 : hp_I} {u0 : hp_L} {j : hp_I → hp_L → Option Int32} (hy : SL L xs i y) (r : REL s0) : ∃ s3 u3, lc_28 L xs j i s0 u0 = j s3 u3 ∧ REL s3 := by
  obtain ⟨A, ok, cx, cm, tp, ct⟩ := r
  unfold lc_28
  simp only [e_bd, xv_safe ok cx]
  exact ask_n ok cx cm tp ct (mq_safe ok cm)
theorem lk_31 {L : Nat} {xs y : Nat → Int32} {i : Int32} {s0 : hp_I} {u0 : hp_L} {j : hp_I → hp_L → Option Int32} (hy : SL L xs i y) (r : REL s0) : ∃ s3 u3, lc_31 L xs j i s0 u0 = j s3 u3 ∧ REL s3 := by
  obtain ⟨A, ok, cx, cm, tp, ct⟩ := r
  unfold lc_31
  simp only [e_bd, xv_hungry ok cx]
  exact ask_n ok cx cm tp ct (mq_hungry ok cm)
theorem lk_40 {L : Nat} {xs y : Nat → Int32} {i : Int32} {s0 : hp_I} {u0 : hp_L} {j : hp_I → hp_L → Option Int32} (hy : SL L xs i y) (r : REL s0) : ∃ s3 u3, lc_40 L xs j i s0 u0 = j s3 u3 ∧ REL s3 := by
  obtain ⟨A, ok, cx, cm, tp, ct⟩ := r
  unfold lc_40
  simp only [e_bd, xv_status, sl_1 hy]
  exact ask_n ok cx cm tp ct (mq_status ct _)
theorem lk_41 {L : Nat} {xs y : Nat → Int32} {i : Int32} {s0 : hp_I} {u0 : hp_L} {j : hp_I → hp_L → Option Int32} (hy : SL L xs i y) (r : REL s0) : ∃ s3 u3, lc_41 L xs j i s0 u0 = j s3 u3 ∧ REL s3 := by
  obtain ⟨A, ok, cx, cm, tp, ct⟩ := r
  unfold lc_41
  simp only [e_bd, xv_count, sl_1 hy]
  exact ask_n ok cx cm tp ct (mq_count cx cm tp _)

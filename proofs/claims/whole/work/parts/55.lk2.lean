/-! CALLS of the law over trials -/
theorem lk_14 {L : Nat} {xs y : Nat → Int32} {i : Int32} {s0 : hp_I} {u0 : hp_L} {j : hp_I → hp_L → Option Int32} (hy : SL L xs i y) (r : REL s0) : ∃ s3 u3, lc_14 L xs j i s0 u0 = j s3 u3 ∧ REL s3 := by
  obtain ⟨A, ok, cx, cm, tp, ct⟩ := r
  unfold lc_14 fn_L_ahead
  simp only [e_let, e_bd, sl_1 hy, sl_2 hy]
  exact ask_1 ok cx cm tp ct (xq_ahead ok cx _ _) (qi_n (qi_1 _)) (fun s h _ => mq_ahead ok h _ _)
theorem lk_16 {L : Nat} {xs y : Nat → Int32} {i : Int32} {s0 : hp_I} {u0 : hp_L} {j : hp_I → hp_L → Option Int32} (hy : SL L xs i y) (r : REL s0) : ∃ s3 u3, lc_16 L xs j i s0 u0 = j s3 u3 ∧ REL s3 := by
  obtain ⟨A, ok, cx, cm, tp, ct⟩ := r
  unfold lc_16 fn_L_lasts
  simp only [e_let, e_bd, sl_1 hy]
  exact ask_0 ok cx cm tp ct (xq_lasts ok cx _) (qo_2 _) (fun s h _ => mq_lasts ok h _)
theorem lk_33 {L : Nat} {xs y : Nat → Int32} {i : Int32} {s0 : hp_I} {u0 : hp_L} {j : hp_I → hp_L → Option Int32} (hy : SL L xs i y) (r : REL s0) : ∃ s3 u3, lc_33 L xs j i s0 u0 = j s3 u3 ∧ REL s3 := by
  obtain ⟨A, ok, cx, cm, tp, ct⟩ := r
  unfold lc_33 fn_L_grown
  simp only [e_let, e_bd, sl_1 hy, sl_2 hy]
  exact ask_2 ok cx cm tp ct (xq_grown ok cx _ _) (fun s h _ => mq_grown ok h _ _)
theorem lk_36 {L : Nat} {xs y : Nat → Int32} {i : Int32} {s0 : hp_I} {u0 : hp_L} {j : hp_I → hp_L → Option Int32} (hy : SL L xs i y) (r : REL s0) : ∃ s3 u3, lc_36 L xs j i s0 u0 = j s3 u3 ∧ REL s3 := by
  obtain ⟨A, ok, cx, cm, tp, ct⟩ := r
  unfold lc_36 fn_L_season
  simp only [e_let, e_bd, sl_1 hy, sl_2 hy, sl_3 hy, sl_4 hy]
  exact ask_1 ok cx cm tp ct (xq_season ok cx _ _ _ _) (qi_n (qi_n (qi_1 _))) (fun s h _ => mq_season ok h _ _ _ _)
theorem lk_37 {L : Nat} {xs y : Nat → Int32} {i : Int32} {s0 : hp_I} {u0 : hp_L} {j : hp_I → hp_L → Option Int32} (hy : SL L xs i y) (r : REL s0) : ∃ s3 u3, lc_37 L xs j i s0 u0 = j s3 u3 ∧ REL s3 := by
  obtain ⟨A, ok, cx, cm, tp, ct⟩ := r
  unfold lc_37 fn_L_span
  simp only [e_let, e_bd, sl_1 hy, sl_2 hy, sl_3 hy, sl_4 hy, sl_5 hy, sl_6 hy]
  exact ask_1 ok cx cm tp ct (xq_span ok cx _ _ _ _ _ _) (qi_n (qi_n (qi_n (qi_n (qi_1 _))))) (fun s h _ => mq_span ok h _ _ _ _ _ _)
theorem lk_29 {L : Nat} {xs y : Nat → Int32} {i : Int32} {s0 : hp_I} {u0 : hp_L} {j : hp_I → hp_L → Option Int32} (hy : SL L xs i y) (r : REL s0) : ∃ s3 u3, lc_29 L xs j i s0 u0 = j s3 u3 ∧ REL s3 := by
  obtain ⟨A, ok, cx, cm, tp, ct⟩ := r
  unfold lc_29
  obtain ⟨s1, h1, h2⟩ := xv_doomed ok cx
  rw [h1, e_b2]
  exact ask_n2 (t2 := 1) ok cx cm tp ct h2 (fun s h => mq_doomed ok h)

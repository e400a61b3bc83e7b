/-! LAW: variables -/
section LV
variable {X : tx} {s t : hp_I} {p q : Nat}
theorem b_var (te : TE X) (h : JT X s t p q 0 (-1)) : (∃ i s' t' p' q', i < 7 ∧ isL X p = true ∧ fn_Law_readVariable 1 s = some (Int32.ofNat i, s') ∧ fn_M_knownHere 52 t = some (Int32.ofNat i, t') ∧ JT X s' t' p' q' 0 (-1) ∧ p < p' ∧ XF s s' ∧ MF t t') ∨ (∃ s' t' q', fn_Law_readVariable 1 s = some (-1, s') ∧ fn_M_knownHere 52 t = some (-1, t') ∧ JT X s' t' p q' 0 (-1) ∧ XF s s' ∧ MF t t') := by
  unfold fn_Law_readVariable fn_M_knownHere
  rcases b_takesW te h w_size with ⟨g0, s0, t0, p0, q0, a0, b0, j0, l0, fx0, fm0⟩ | ⟨g0, s0, t0, q0, a0, b0, j0, -, fx0, fm0⟩
  · refine Or.inl ⟨0, s0, t0, p0, q0, by decide, wd_L te w_size g0, ?_, ?_, j0, l0, fx0, fm0⟩
    · rw [a0, e_b2, if_neg (show ¬ (1 : Int32) = 0 from by decide)]; rfl
    · rw [b0, e_b2, if_neg (show ¬ (1 : Int32) = 0 from by decide)]; rfl
  rcases b_takesW te j0 w_grow with ⟨g1, s1, t1, p1, q1, a1, b1, j1, l1, fx1, fm1⟩ | ⟨g1, s1, t1, q1, a1, b1, j1, -, fx1, fm1⟩
  · refine Or.inl ⟨1, s1, t1, p1, q1, by decide, wd_L te w_grow g1, ?_, ?_, j1, l1, (fx0.trans fx1), (fm0.trans fm1)⟩
    · rw [a0, e_b2, if_pos (show (0 : Int32) = 0 from rfl), a1, e_b2, if_neg (show ¬ (1 : Int32) = 0 from by decide)]; rfl
    · rw [b0, e_b2, if_pos (show (0 : Int32) = 0 from rfl), b1, e_b2, if_neg (show ¬ (1 : Int32) = 0 from by decide)]; rfl
  rcases b_takesW te j1 w_hide with ⟨g2, s2, t2, p2, q2, a2, b2, j2, l2, fx2, fm2⟩ | ⟨g2, s2, t2, q2, a2, b2, j2, -, fx2, fm2⟩
  · refine Or.inl ⟨2, s2, t2, p2, q2, by decide, wd_L te w_hide g2, ?_, ?_, j2, l2, ((fx0.trans fx1).trans fx2), ((fm0.trans fm1).trans fm2)⟩
    · rw [a0, e_b2, if_pos (show (0 : Int32) = 0 from rfl), a1, e_b2, if_pos (show (0 : Int32) = 0 from rfl), a2, e_b2, if_neg (show ¬ (1 : Int32) = 0 from by decide)]; rfl
    · rw [b0, e_b2, if_pos (show (0 : Int32) = 0 from rfl), b1, e_b2, if_pos (show (0 : Int32) = 0 from rfl), b2, e_b2, if_neg (show ¬ (1 : Int32) = 0 from by decide)]; rfl
  rcases b_takesW te j2 w_cats with ⟨g3, s3, t3, p3, q3, a3, b3, j3, l3, fx3, fm3⟩ | ⟨g3, s3, t3, q3, a3, b3, j3, -, fx3, fm3⟩
  · refine Or.inl ⟨3, s3, t3, p3, q3, by decide, wd_L te w_cats g3, ?_, ?_, j3, l3, (((fx0.trans fx1).trans fx2).trans fx3), (((fm0.trans fm1).trans fm2).trans fm3)⟩
    · rw [a0, e_b2, if_pos (show (0 : Int32) = 0 from rfl), a1, e_b2, if_pos (show (0 : Int32) = 0 from rfl), a2, e_b2, if_pos (show (0 : Int32) = 0 from rfl), a3, e_b2, if_neg (show ¬ (1 : Int32) = 0 from by decide)]; rfl
    · rw [b0, e_b2, if_pos (show (0 : Int32) = 0 from rfl), b1, e_b2, if_pos (show (0 : Int32) = 0 from rfl), b2, e_b2, if_pos (show (0 : Int32) = 0 from rfl), b3, e_b2, if_neg (show ¬ (1 : Int32) = 0 from by decide)]; rfl
  rcases b_takesW te j3 w_night with ⟨g4, s4, t4, p4, q4, a4, b4, j4, l4, fx4, fm4⟩ | ⟨g4, s4, t4, q4, a4, b4, j4, -, fx4, fm4⟩
  · refine Or.inl ⟨4, s4, t4, p4, q4, by decide, wd_L te w_night g4, ?_, ?_, j4, l4, ((((fx0.trans fx1).trans fx2).trans fx3).trans fx4), ((((fm0.trans fm1).trans fm2).trans fm3).trans fm4)⟩
    · rw [a0, e_b2, if_pos (show (0 : Int32) = 0 from rfl), a1, e_b2, if_pos (show (0 : Int32) = 0 from rfl), a2, e_b2, if_pos (show (0 : Int32) = 0 from rfl), a3, e_b2, if_pos (show (0 : Int32) = 0 from rfl), a4, e_b2, if_neg (show ¬ (1 : Int32) = 0 from by decide)]; rfl
    · rw [b0, e_b2, if_pos (show (0 : Int32) = 0 from rfl), b1, e_b2, if_pos (show (0 : Int32) = 0 from rfl), b2, e_b2, if_pos (show (0 : Int32) = 0 from rfl), b3, e_b2, if_pos (show (0 : Int32) = 0 from rfl), b4, e_b2, if_neg (show ¬ (1 : Int32) = 0 from by decide)]; rfl
  rcases b_takesW te j4 w_mat with ⟨g5, s5, t5, p5, q5, a5, b5, j5, l5, fx5, fm5⟩ | ⟨g5, s5, t5, q5, a5, b5, j5, -, fx5, fm5⟩
  · refine Or.inl ⟨5, s5, t5, p5, q5, by decide, wd_L te w_mat g5, ?_, ?_, j5, l5, (((((fx0.trans fx1).trans fx2).trans fx3).trans fx4).trans fx5), (((((fm0.trans fm1).trans fm2).trans fm3).trans fm4).trans fm5)⟩
    · rw [a0, e_b2, if_pos (show (0 : Int32) = 0 from rfl), a1, e_b2, if_pos (show (0 : Int32) = 0 from rfl), a2, e_b2, if_pos (show (0 : Int32) = 0 from rfl), a3, e_b2, if_pos (show (0 : Int32) = 0 from rfl), a4, e_b2, if_pos (show (0 : Int32) = 0 from rfl), a5, e_b2, if_neg (show ¬ (1 : Int32) = 0 from by decide)]; rfl
    · rw [b0, e_b2, if_pos (show (0 : Int32) = 0 from rfl), b1, e_b2, if_pos (show (0 : Int32) = 0 from rfl), b2, e_b2, if_pos (show (0 : Int32) = 0 from rfl), b3, e_b2, if_pos (show (0 : Int32) = 0 from rfl), b4, e_b2, if_pos (show (0 : Int32) = 0 from rfl), b5, e_b2, if_neg (show ¬ (1 : Int32) = 0 from by decide)]; rfl
  rcases b_takesW te j5 w_scheme with ⟨g6, s6, t6, p6, q6, a6, b6, j6, l6, fx6, fm6⟩ | ⟨g6, s6, t6, q6, a6, b6, j6, -, fx6, fm6⟩
  · refine Or.inl ⟨6, s6, t6, p6, q6, by decide, wd_L te w_scheme g6, ?_, ?_, j6, l6, ((((((fx0.trans fx1).trans fx2).trans fx3).trans fx4).trans fx5).trans fx6), ((((((fm0.trans fm1).trans fm2).trans fm3).trans fm4).trans fm5).trans fm6)⟩
    · rw [a0, e_b2, if_pos (show (0 : Int32) = 0 from rfl), a1, e_b2, if_pos (show (0 : Int32) = 0 from rfl), a2, e_b2, if_pos (show (0 : Int32) = 0 from rfl), a3, e_b2, if_pos (show (0 : Int32) = 0 from rfl), a4, e_b2, if_pos (show (0 : Int32) = 0 from rfl), a5, e_b2, if_pos (show (0 : Int32) = 0 from rfl), a6, e_b2, e_jn, if_neg (show ¬ (1 : Int32) = 0 from by decide)]; rfl
    · rw [b0, e_b2, if_pos (show (0 : Int32) = 0 from rfl), b1, e_b2, if_pos (show (0 : Int32) = 0 from rfl), b2, e_b2, if_pos (show (0 : Int32) = 0 from rfl), b3, e_b2, if_pos (show (0 : Int32) = 0 from rfl), b4, e_b2, if_pos (show (0 : Int32) = 0 from rfl), b5, e_b2, if_pos (show (0 : Int32) = 0 from rfl), b6, e_b2, e_jn, if_neg (show ¬ (1 : Int32) = 0 from by decide)]; rfl
  · refine Or.inr ⟨s6, t6, q6, ?_, ?_, j6, ((((((fx0.trans fx1).trans fx2).trans fx3).trans fx4).trans fx5).trans fx6), ((((((fm0.trans fm1).trans fm2).trans fm3).trans fm4).trans fm5).trans fm6)⟩
    · rw [a0, e_b2, if_pos (show (0 : Int32) = 0 from rfl), a1, e_b2, if_pos (show (0 : Int32) = 0 from rfl), a2, e_b2, if_pos (show (0 : Int32) = 0 from rfl), a3, e_b2, if_pos (show (0 : Int32) = 0 from rfl), a4, e_b2, if_pos (show (0 : Int32) = 0 from rfl), a5, e_b2, if_pos (show (0 : Int32) = 0 from rfl), a6, e_b2, e_jn, if_pos (show (0 : Int32) = 0 from rfl)]
    · rw [b0, e_b2, if_pos (show (0 : Int32) = 0 from rfl), b1, e_b2, if_pos (show (0 : Int32) = 0 from rfl), b2, e_b2, if_pos (show (0 : Int32) = 0 from rfl), b3, e_b2, if_pos (show (0 : Int32) = 0 from rfl), b4, e_b2, if_pos (show (0 : Int32) = 0 from rfl), b5, e_b2, if_pos (show (0 : Int32) = 0 from rfl), b6, e_b2, e_jn, if_pos (show (0 : Int32) = 0 from rfl)]
theorem c_var0 {k : Nat} {pl : Int32} (te : TE X) (h : XT X s p k pl) (hk : k ≠ 0) : ∃ s', fn_Law_readVariable 1 s = some (-1, s') ∧ XT X s' p k pl ∧ XF s s' := by
  unfold fn_Law_readVariable
  obtain ⟨s0, a0, x0, f0⟩ := c_noword te h hk w_size
  obtain ⟨s1, a1, x1, f1⟩ := c_noword te x0 hk w_grow
  obtain ⟨s2, a2, x2, f2⟩ := c_noword te x1 hk w_hide
  obtain ⟨s3, a3, x3, f3⟩ := c_noword te x2 hk w_cats
  obtain ⟨s4, a4, x4, f4⟩ := c_noword te x3 hk w_night
  obtain ⟨s5, a5, x5, f5⟩ := c_noword te x4 hk w_mat
  obtain ⟨s6, a6, x6, f6⟩ := c_noword te x5 hk w_scheme
  refine ⟨s6, ?_, x6, ((((((f0.trans f1).trans f2).trans f3).trans f4).trans f5).trans f6)⟩
  rw [a0, e_b2, if_pos (show (0 : Int32) = 0 from rfl), a1, e_b2, if_pos (show (0 : Int32) = 0 from rfl), a2, e_b2, if_pos (show (0 : Int32) = 0 from rfl), a3, e_b2, if_pos (show (0 : Int32) = 0 from rfl), a4, e_b2, if_pos (show (0 : Int32) = 0 from rfl), a5, e_b2, if_pos (show (0 : Int32) = 0 from rfl), a6, e_b2, e_jn, if_pos (show (0 : Int32) = 0 from rfl)]
end LV

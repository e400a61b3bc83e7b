/-! HOUSE: a clause of any kind, and all of them -/
theorem DX.fr {s s' : hp_I} {H : ab_H} (h : DX s H) (e : ∀ i, 12 ≤ i → i ≤ 20 → s' i = s i) : DX s' H := by
  unfold DX
  rw [e 12 (by decide) (by decide), e 13 (by decide) (by decide), e 14 (by decide) (by decide), e 15 (by decide) (by decide), e 16 (by decide) (by decide), e 17 (by decide) (by decide), e 18 (by decide) (by decide), e 19 (by decide) (by decide), e 20 (by decide) (by decide)]
  exact h
theorem DM.fr {t t' : hp_I} {H : ab_H} (h : DM t H) (e : ∀ i, i ≠ 52 → t' i = t i) : DM t' H := by
  obtain ⟨h0, h1, h2, h3, h4⟩ := h
  exact ⟨by rw [e 55 (by decide)]; exact h0, fun r hr => by rw [e _ (by omega)]; exact h1 r hr, fun r hr => by rw [e _ (by omega)]; exact h2 r hr, fun r hr => by rw [e _ (by omega)]; exact h3 r hr, fun r hr => by rw [e _ (by omega)]; exact h4 r hr⟩
theorem CL.tr {X : tx} {s t s1 t1 s' t' : hp_I} {p : Nat} {H : ab_H} (h : CL X s1 t1 p H s' t') (fx : XF s s1) (fm : MF t t1) : CL X s t p H s' t' := by
  obtain ⟨p', q', k', pl', h1, h2, h3, h4⟩ := h
  exact ⟨p', q', k', pl', h1, fx.g.trans h2, fm.g.trans h3, h4⟩
section HC2
variable {X : tx} {s t : hp_I} {p q : Nat} {H : ab_H}
theorem b_clause (te : TE X) (h : JT X s t p q 0 (-1)) (ok : HOK H) (dx : DX s H) (dm : DM t H) (h7 : t 52 7 = Int32.ofNat (tot H)) : ∃ s' t', fn_House_readClause 12 1 s = some s' ∧ fn_M_clause 52 t = some t' ∧ CL X s t p H s' t' := by
  have hn0 : fn_Tape_next 1 s = some (Int32.ofNat p) := by unfold fn_Tape_next; rw [h.1.1.2.1]
  have bt : ¬ bI true = 0 := by decide
  have bf : bI false = 0 := rfl
  obtain ⟨s1, t1, q1, a1, b1, f1, g1, fx1, fm1, e1⟩ := b_word te h w_room
  by_cases c1 : wdB X p 0 [114, 111, 111, 109] = true
  · obtain ⟨x2, m2⟩ := g1 c1
    rw [c1] at a1 b1
    have hk : fn_M_kindHere 52 t = some (0, t1) := by unfold fn_M_kindHere; rw [b1, e_b2, if_neg bt]
    obtain ⟨s3, s', t', r1, r2, r3, r4⟩ := b_room te x2 m2 c1 ok (dx.fr (fun i u1 u2 => fx1.1 i (by omega))) (dm.fr fm1.1) (by rw [fm1.2 7 (by decide) (by decide) (by decide)]; exact h7) hk
    refine ⟨s', t', ?_, r3, r4.tr fx1 fm1⟩
    unfold fn_House_readClause
    rw [hn0, e_bd, e_let, a1, e_b2, e_jn, if_neg bt, r1, e_bd]; try dsimp only; rw [r2, e_bd]
  · rw [Bool.not_eq_true] at c1
    have h1 := f1 c1
    rw [c1] at a1 b1
    have q1e := e1 rfl
    obtain ⟨s2, t2, q2, a2, b2, f2, g2, fx2, fm2, e2⟩ := b_word te h1 w_way
    have fx12 := fx1.trans fx2
    have fm12 := fm1.trans fm2
    by_cases c2 : wdB X p 0 [119, 97, 121] = true
    · obtain ⟨x2, m2⟩ := g2 c2
      rw [c2] at a2 b2
      have hk : fn_M_kindHere 52 t = some (1, t2) := by unfold fn_M_kindHere; rw [b1, e_b2, if_pos bf, b2, e_b2, if_neg bt]
      obtain ⟨s3, s', t', r1, r2, r3, r4⟩ := b_way te x2 m2 c2 ok (dx.fr (fun i u1 u2 => fx12.1 i (by omega))) (dm.fr fm12.1) (by rw [fm12.2 7 (by decide) (by decide) (by decide)]; exact h7) hk
      refine ⟨s', t', ?_, r3, r4.tr fx12 fm12⟩
      unfold fn_House_readClause
      rw [hn0, e_bd, e_let, a1, e_b2, e_jn, if_pos bf, a2, e_b2, if_neg bt, r1, e_bd]; try dsimp only; rw [r2, e_bd]
    · rw [Bool.not_eq_true] at c2
      have h2 := f2 c2
      rw [c2] at a2 b2
      obtain ⟨s3, t3, q3, a3, b3, f3, g3, fx3, fm3, e3⟩ := b_word te h2 w_scheme
      have fx13 := fx12.trans fx3
      have fm13 := fm12.trans fm3
      by_cases c3 : wdB X p 0 [115, 99, 104, 101, 109, 101] = true
      · obtain ⟨x2, m2⟩ := g3 c3
        rw [c3] at a3 b3
        have hk : fn_M_kindHere 52 t = some (2, t3) := by unfold fn_M_kindHere; rw [b1, e_b2, if_pos bf, b2, e_b2, if_pos bf, b3, e_b2, if_neg bt]
        obtain ⟨s4, s', t', r1, r2, r3, r4⟩ := b_scheme te x2 m2 c3 ok (dx.fr (fun i u1 u2 => fx13.1 i (by omega))) (dm.fr fm13.1) (by rw [fm13.2 7 (by decide) (by decide) (by decide)]; exact h7) hk
        refine ⟨s', t', ?_, r3, r4.tr fx13 fm13⟩
        unfold fn_House_readClause
        rw [hn0, e_bd, e_let, a1, e_b2, e_jn, if_pos bf, a2, e_b2, if_pos bf, a3, e_b2, if_neg bt, r1, e_bd]; try dsimp only; rw [r2, e_bd]
      · rw [Bool.not_eq_true] at c3
        have h3 := f3 c3
        rw [c3] at a3 b3
        obtain ⟨s4, t4, q4, a4, b4, f4, g4, fx4, fm4, e4⟩ := b_word te h3 w_cat
        have fx14 := fx13.trans fx4
        have fm14 := fm13.trans fm4
        by_cases c4 : wdB X p 0 [99, 97, 116] = true
        · obtain ⟨x2, m2⟩ := g4 c4
          rw [c4] at a4 b4
          have hk : fn_M_kindHere 52 t = some (3, t4) := by unfold fn_M_kindHere; rw [b1, e_b2, if_pos bf, b2, e_b2, if_pos bf, b3, e_b2, if_pos bf, b4, e_b2, e_jn, if_neg bt]
          obtain ⟨s5, s', t', r1, r2, r3, r4⟩ := b_cat te x2 m2 c4 ok (dx.fr (fun i u1 u2 => fx14.1 i (by omega))) (dm.fr fm14.1) (by rw [fm14.2 7 (by decide) (by decide) (by decide)]; exact h7) hk
          refine ⟨s', t', ?_, r3, r4.tr fx14 fm14⟩
          unfold fn_House_readClause
          rw [hn0, e_bd, e_let, a1, e_b2, e_jn, if_pos bf, a2, e_b2, if_pos bf, a3, e_b2, if_pos bf, a4, e_b2, if_neg bt, r1, e_bd]; try dsimp only; rw [r2, e_bd]
        · rw [Bool.not_eq_true] at c4
          have h4 := f4 c4
          rw [c4] at a4 b4
          have q4e := e4 rfl
          have hk : fn_M_kindHere 52 t = some (-1, t4) := by unfold fn_M_kindHere; rw [b1, e_b2, if_pos bf, b2, e_b2, if_pos bf, b3, e_b2, if_pos bf, b4, e_b2, e_jn, if_pos bf]
          obtain ⟨s5, r1, r2, r3⟩ := c_fail0 h4.1 (kd := 1) (by decide) (Int32.ofNat p)
          obtain ⟨t5, u1, u2, u3⟩ := m_wrong0 h4.2.1 (kd := 1) (by decide) (Int32.ofNat p)
          obtain ⟨s6, d1, d2, d3⟩ := c_noexp te r2 (by decide) (c := 59) (by decide)
          refine ⟨s6, t5, ?_, ?_, _, _, 1, _, ⟨d2, u2, fun e => (by cases e), fun e => (by cases e)⟩, ((fx14.trans r3).trans d3).g, (fm14.trans u3).g, fun e => (by cases e)⟩
          · unfold fn_House_readClause
            rw [hn0, e_bd, e_let, a1, e_b2, e_jn, if_pos bf, a2, e_b2, if_pos bf, a3, e_b2, if_pos bf, a4, e_b2, if_pos bf, show fn_Tape_fail 1 (1 : Int32) (Int32.ofNat p) s4 = some s5 from r1, e_bd]; try dsimp only; rw [show fn_Tape_expect 1 (59 : Int32) s5 = some s6 from d1, e_bd]
          · unfold fn_M_clause
            rw [hk, e_b2, e_let, e_jn, if_pos (show (-1 : Int32) = -1 from rfl), h4.2.1.1.2.1, q4e, show fn_M_wrong 52 (1 : Int32) (Int32.ofNat p) t4 = some t5 from u1, e_bd]; try dsimp only; rw [u2.1.2.2.1, if_neg (show ¬ Int32.ofNat 1 = 0 from by decide)]
theorem h_xc {k : Nat} {pl : Int32} (te : TE X) (h : XT X s p k pl) (ho : ovB X p k = true) {K : hp_I → Option hp_I} {fu : Nat} {x2 : Int32} : fn_House_read_L22 12 1 K (fu + 1) x2 s = K s := by
  rw [fn_House_read_L22, c_over te h, e_bd, ho, if_neg (show ¬ bI true = 0 from by decide)]
  split <;> rfl
theorem h_xm {k : Nat} {pl : Int32} (te : TE X) (h : MT X t q k pl) (ho : k ≠ 0 ∨ X.2 ≤ q) {M : hp_I → Option (Int32 × hp_I)} {fv : Nat} : fn_M_house_L42 52 M (fv + 1) t = M t := by
  have h6 := te.1
  have hq := h.2.1
  rw [fn_M_house_L42, h.1.2.2.1, h.1.2.1, h.1.1]
  by_cases c : k = 0
  · rw [if_pos ((k_0 h.2.2.1).mpr c), if_neg (zl_nlt (by omega) (by omega))]
  · rw [if_neg (fun e => c ((k_0 h.2.2.1).mp e))]
end HC2
theorem b_house {X : tx} (te : TE X) (K : hp_I → Option hp_I) (M : hp_I → Option (Int32 × hp_I)) : ∀ n s t p q k pl H fu fv, X.2 - p < n → n ≤ fu → n ≤ fv → JT X s t p q k pl → (k = 0 → q = p) → (k = 0 → HOK H ∧ DX s H ∧ DM t H ∧ t 52 7 = Int32.ofNat (tot H)) → ∃ s' t' p' q' k' pl' H', fn_House_read_L22 12 1 K fu (Int32.ofNat (tot H)) s = K s' ∧ fn_M_house_L42 52 M fv t = M t' ∧ JT X s' t' p' q' k' pl' ∧ XG hsP s s' ∧ MG hmP hmJ t t' ∧ (k' = 0 → HOK H' ∧ DX s' H' ∧ DM t' H') := by
  have h6 := te.1
  intro n
  induction n with
  | zero => intro s t p q k pl H fu fv h; omega
  | succ n ih =>
    intro s t p q k pl H fu fv hn hfu hfv h hq hd
    obtain ⟨fu, rfl⟩ : ∃ f, fu = f + 1 := ⟨fu - 1, by omega⟩
    obtain ⟨fv, rfl⟩ : ∃ f, fv = f + 1 := ⟨fv - 1, by omega⟩
    by_cases ho : ovB X p k = true
    · refine ⟨s, t, p, q, k, pl, H, h_xc te h.1 ho, h_xm te h.2.1 ?_, h, XG.refl, MG.refl, fun e => ⟨(hd e).1, (hd e).2.1, (hd e).2.2.1⟩⟩
      rcases ov_t ho with e | e
      · exact Or.inl e
      · by_cases e2 : k = 0
        · right; rw [hq e2]; exact e
        · exact Or.inl e2
    · obtain ⟨k0, hp⟩ := ov_f ho
      have ov0 : ovB X p k = false := by simpa using ho
      subst k0
      obtain ⟨ok, dx, dm, h7⟩ := hd rfl
      have hpl := h.2.2.2 rfl
      subst hpl
      have htot : tot H ≤ 33 := by
        obtain ⟨o1, o2, o3, o4, -⟩ := ok
        unfold tot; omega
      have hfu1 : 1 ≤ fu := by omega
      have hfv1 : 1 ≤ fv := by omega
      obtain ⟨s1, t1, r1, r2, p1, q1, k1, pl1, h1, fx1, fm1, hd1⟩ := b_clause te h ok dx dm h7
      obtain ⟨t2, q2, m2, h2, f2, hq2⟩ := b_blanks te h1
      have ec : fn_House_read_L22 12 1 K (fu + 1) (Int32.ofNat (tot H)) s = fn_House_read_L22 12 1 K fu (Int32.ofNat (tot H + 1)) s1 := by
        rw [fn_House_read_L22, if_pos (show Int32.ofNat (tot H) ≤ 60 from zl_le (b := 60) (by omega) (by decide)), c_over te h.1, e_bd, ov0, if_pos (show bI false = 0 from rfl), e_jn, if_neg (show ¬ Int32.ofNat (tot H) = 60 from zl_ne (b := 60) (by omega) (by omega) (by decide))]; try dsimp only; rw [r1, e_bd, e_let, zi_succ]
      have em : fn_M_house_L42 52 M (fv + 1) t = fn_M_house_L42 52 M fv t2 := by
        rw [fn_M_house_L42, h.2.1.1.2.2.1, if_pos (show Int32.ofNat 0 = 0 from rfl), h.2.1.1.2.1, h.2.1.1.1, hq rfl, if_pos (zl_lt hp (by omega)), r2, e_bd, m2, e_bd]
      by_cases c1 : k1 = 0
      · obtain ⟨hlt, H1, ok1, dx1, dm1, h71, ht1⟩ := hd1 c1
        obtain ⟨s', t', p', q', k', pl', H', z1, z2, z3, z4, z5, z6⟩ := ih s1 t2 p1 q2 k1 pl1 H1 fu fv (by have := h1.le; omega) (by omega) (by omega) h2 hq2 (fun _ => ⟨ok1, dx1, dm1.fr f2.1, by rw [f2.2 7 (by decide) (by decide) (by decide)]; exact h71⟩)
        exact ⟨s', t', p', q', k', pl', H', by rw [ec, ← ht1]; exact z1, em.trans z2, z3, fx1.trans z4, (fm1.trans f2.g).trans z5, z6⟩
      · have ov1 : ovB X p1 k1 = true := by unfold ovB; rw [decide_eq_true (show k1 ≠ 0 from c1)]; rfl
        obtain ⟨fu, rfl⟩ := Nat.exists_eq_add_of_le' hfu1
        obtain ⟨fv, rfl⟩ := Nat.exists_eq_add_of_le' hfv1
        exact ⟨s1, t2, p1, q2, k1, pl1, H, ec.trans (h_xc te h1.1 ov1), em.trans (h_xm te h2.2.1 (Or.inl c1)), h2, fx1, fm1.trans f2.g, fun e => absurd e c1⟩

/-! LAW: units -/
theorem PK.ex {X : tx} {s t s' t' : hp_I} {p k n m d : Nat} {lw : ab_L} (h : PK X s t p k lw n m d s' t') : ∃ p' q' k' pl' l, JT X s' t' p' q' k' pl' ∧ XL s s' ∧ MG lwP lwJ t t' ∧ zB (s' 21 3) 151 ∧ (k' = 0 → k = 0 ∧ p ≤ p' ∧ t' 52 8 = Int32.ofNat d ∧ LD s' t' (lw ++ l) ∧ okr l n m ∧ l.length + p ≤ p' ∧ (n ≠ m → p < p')) := by
  obtain ⟨p', q', k', pl', h1, h2, h3, h4, h5⟩ := h
  by_cases c : k' = 0
  · obtain ⟨a1, a2, a3, l, a4, a5, a6, a7⟩ := h5 c
    exact ⟨p', q', k', pl', l, h1, h2, h3, h4, fun _ => ⟨a1, a2, a3, a4, a5, a6, a7⟩⟩
  · exact ⟨p', q', k', pl', [], h1, h2, h3, h4, fun e => absurd e c⟩
section LU
variable {X : tx} {d : Nat} {rs : Nat → Nat → Int32 → hp_I → Option hp_I} {rm : Nat → hp_I → Option hp_I}
theorem b_pair {s t : hp_I} {p n kd : Nat} {lw : ab_L} {code kI : Int32} {W : List Int32} {w : List Nat} {a b c e f g : Int32} (te : TE X) (hX : X.2 ≤ 150) (hs : d < 6 → SP X 0 (d + 1) (rs 21 1 (Int32.ofNat (d + 1))) (rm 52)) (hd : d ≤ 6) (hw : WD W w a b c e f g) (hx : XT X s (sk X (p + w.length)) 0 (-1)) (hm : MT X t p 0 (-1)) (hwd : wdB X p 0 w = true) (ld : LD s t lw) (h8 : t 52 8 = Int32.ofNat d) (hn : n ≤ 3 * d + 2) (hl : lw.length ≤ p) (hkI : kI = Int32.ofNat kd) (hcode : code = lcode (kd, 0)) (hk2 : 2 ≤ kd) (hk8 : kd ≤ 8) : ∃ s' t', bd_Law_readPair rs 21 1 (Int32.ofNat p) (Int32.ofNat d) code s = some s' ∧ (px_b2 (fn_M_opensOne 52 t) fun z8 s9 => if z8 = 0 then some s9 else (Option.bind (fn_M_skipWord 52 s9) fun s11 => Option.bind (fn_M_sign 52 (91 : Int32) s11) fun s13 => Option.bind (rm 52 s13) fun s15 => Option.bind (fn_M_sign 52 (44 : Int32) s15) fun s17 => Option.bind (rm 52 s17) fun s19 => Option.bind (fn_M_sign 52 (93 : Int32) s19) fun s21 => Option.bind (fn_M_notes 52 kI (0 : Int32) s21) fun s23 => px_let (hp_s s23 52 8 ((s23 52 8) - (1 : Int32))) fun s24 => some s24)) = some t' ∧ PK X s t p 0 lw n (n + 1) d s' t' := by
  unfold bd_Law_readPair
  have hz : zB (s 21 3) 151 := ld.z (by have := hm.2.1; omega)
  by_cases c6 : d = 6
  · subst c6
    obtain ⟨t1, u1, u2, u3⟩ := m_opens6 hm h8
    obtain ⟨s1, v1, v2, v3⟩ := c_fail0 hx (kd := 3) (by decide) (Int32.ofNat p)
    refine ⟨s1, t1, ?_, ?_, _, _, 3, _, ⟨v2, u2, fun q => (by cases q), fun q => (by cases q)⟩, v3.l, u3.g, hz.xf v3, fun q => (by cases q)⟩
    · rw [if_pos (show (6 : Int32) ≤ Int32.ofNat 6 from zl_le (a := 6) (by decide) (by decide)), show fn_Tape_fail 1 (3 : Int32) (Int32.ofNat p) s = some s1 from v1, e_bd]
    · rw [u1, e_b2, if_pos rfl]
  · have hd6 : d < 6 := by omega
    have sp := hs hd6
    rw [if_neg (show ¬ (6 : Int32) ≤ Int32.ofNat d from zl_nle (a := 6) (by omega) (by decide)), m_opens hm h8 hd6, e_b2, if_neg (show ¬ (1 : Int32) = 0 from by decide), zi_succ]
    obtain ⟨t4, b1, j4, fm4, hlt4⟩ := b_skip te hx (hm.slot (j := 8) (v := Int32.ofNat (d + 1)) (by decide) (by decide) (by decide) (by decide)) hw hwd
    have e84 : t4 52 8 = Int32.ofNat (d + 1) := by rw [fm4.2 8 (by decide) (by decide) (by decide), hs_at]
    have ld4 : LD s t4 lw := (ld.sl (j := 8) (by decide)).fr XF.refl fm4
    obtain ⟨s5, t5, p5, q5, k5, pl5, a5, b5, j5, fx5, fm5, hk5, -⟩ := b_sign te j4 (c := 91) (by decide)
    have z5 := hz.xf fx5
    obtain ⟨s6, t6, a6, b6, pk6⟩ := sp.any (lw := lw) (n := n) j5 z5 (fun q => ⟨ld4.fr fx5 fm5, by rw [fm5.2 8 (by decide) (by decide) (by decide)]; exact e84, by have := (hk5 q).2; omega⟩) (by omega)
    obtain ⟨p6, q6, k6, pl6, l6, j6, fx6, fm6, z6, hd6'⟩ := pk6.ex
    obtain ⟨s7, t7, p7, q7, k7, pl7, a7, b7, j7, fx7, fm7, hk7, -⟩ := b_sign te j6 (c := 44) (by decide)
    obtain ⟨s8, t8, a8, b8, pk8⟩ := sp.any (lw := lw ++ l6) (n := n + 1) j7 (z6.xf fx7) (fun q => by
      obtain ⟨q6, q7⟩ := hk7 q
      obtain ⟨r1, r2, r3, r4, r5, r6, r7⟩ := hd6' q6
      have := (hk5 r1).2
      exact ⟨r4.fr fx7 fm7, by rw [fm7.2 8 (by decide) (by decide) (by decide)]; exact r3, by rw [List.length_append]; omega⟩) (by omega)
    obtain ⟨p8, q8, k8, pl8, l8, j8, fx8, fm8, z8, hd8⟩ := pk8.ex
    obtain ⟨s9, t9, p9, q9, k9, pl9, a9, b9, j9, fx9, fm9, hk9, -⟩ := b_sign te j8 (c := 93) (by decide)
    have dat : k9 = 0 → LD s9 t9 (lw ++ l6 ++ l8) ∧ okr (l6 ++ l8) n (n + 2) ∧ (l6 ++ l8).length + 1 + p ≤ p9 ∧ t9 52 8 = Int32.ofNat (d + 1) := fun q => by
      obtain ⟨q8, q9⟩ := hk9 q
      obtain ⟨r1, r2, r3, r4, r5, r6, r7⟩ := hd8 q8
      obtain ⟨q6, q7⟩ := hk7 r1
      obtain ⟨u1, u2, u3, u4, u5, u6, u7⟩ := hd6' q6
      have := (hk5 u1).2
      refine ⟨r4.fr fx9 fm9, okr_app _ _ _ _ _ u5 r5, by rw [List.length_append]; omega, by rw [fm9.2 8 (by decide) (by decide) (by decide)]; exact r3⟩
    have hp9 := j9.le
    obtain ⟨s10, t10, a10, b10, j10, fx10, fm10, z10, hd10, e10⟩ := b_put (kd := kd) (v := 0) (code := code) (kI := kI) (lw := lw ++ l6 ++ l8) j9 (z8.xf fx9) (fun q => ⟨(dat q).1, by have h3 := (dat q).2.2.1; rw [List.length_append] at h3; rw [List.length_append, List.length_append]; omega⟩) hkI (fun _ => hcode)
    refine ⟨s10, hp_s t10 52 8 (t10 52 8 - 1), ?_, ?_, p9, q9, k9, pl9, j10.ws (by decide) (by decide) (by decide) (by decide), ((((fx5.l.trans fx6).trans fx7.l).trans fx8).trans fx9.l).trans fx10, ?_, z10, fun q => ?_⟩
    · rw [show fn_Tape_expect 1 (91 : Int32) s = some s5 from a5, e_bd, a6, e_bd, show fn_Tape_expect 1 (44 : Int32) s6 = some s7 from a7, e_bd, a8, e_bd, show fn_Tape_expect 1 (93 : Int32) s8 = some s9 from a9, e_bd, a10, e_bd]
    · rw [b1, e_bd, show fn_M_sign 52 (91 : Int32) t4 = some t5 from b5, e_bd, b6, e_bd, show fn_M_sign 52 (44 : Int32) t6 = some t7 from b7, e_bd, b8, e_bd, show fn_M_sign 52 (93 : Int32) t8 = some t9 from b9, e_bd, b10, e_bd, e_let]
    · exact ((((((((MG.slot (k := 8) (Or.inl rfl)).trans fm4.g).trans fm5.g).trans fm6).trans fm7.g).trans fm8).trans fm9.g).trans fm10).trans (MG.slot (k := 8) (Or.inl rfl))
    · obtain ⟨d1, d2, d3, d4⟩ := dat q
      refine ⟨rfl, by omega, ?_, l6 ++ l8 ++ [(kd, 0)], ?_, okr_app _ _ _ _ _ d2 (okr_op hk2 hk8), ?_, fun _ => by omega⟩
      · rw [hs_at, e10, d4, zi_sub1 (by omega)]; rfl
      · have h10 := (hd10 q).sl (j := 8) (v := t10 52 8 - 1) (by decide)
        rw [List.append_assoc lw l6 l8] at h10
        rw [← List.append_assoc lw]
        exact h10
      · rw [List.length_append]
        show (l6 ++ l8).length + 1 + p ≤ p9
        omega
theorem c_numNext {s : hp_I} {p k : Nat} {pl : Int32} (te : TE X) (h : XT X s p k pl) : fn_Tape_numberIsNext 1 s = some (bI (isD X p)) := by
  unfold fn_Tape_numberIsNext
  rw [h.1.2.1, c_digit te h h.2.1, e_bd, bI_z]
theorem sp_unit (te : TE X) (hX : X.2 ≤ 150) (hs : d < 6 → SP X 0 (d + 1) (rs 21 1 (Int32.ofNat (d + 1))) (rm 52)) (hd : d ≤ 6) : SP X 2 d (bd_Law_readUnit (bd_Law_readBracket rs) (bd_Law_readPair rs) 21 1 (Int32.ofNat d)) (bd_M_one rm 52) := by
  have bt : ¬ bI true = 0 := by decide
  have bf : bI false = 0 := rfl
  have o0 : ¬ (1 : Int32) = 0 := by decide
  refine ⟨fun s p k pl hx hk hz => ?_, fun t q k pl hm hk => ?_, fun s t p q lw n j ld h8 hn hl => ?_⟩
  · unfold bd_Law_readUnit fn_Tape_next
    rw [e_bd, e_let, c_numNext te hx, e_bd, e_jn, hx.1.2.1]
    by_cases cd : isD X p = true
    · obtain ⟨s1, a1, a2, a3, -⟩ := c_num te hx 0 999
      rw [nm_k hk, if_pos rfl] at a2
      obtain ⟨s2, b1, b2, b3, b4, b5, -⟩ := c_put (code := Int32.ofNat (nv X p)) (hz.xf a3)
      refine ⟨s2, _, ?_, a2.fr b4 b5, a3.l.trans b2, b3⟩
      rw [cd, if_neg bt, a1, e_b2, b1, e_bd]
    · have cf : isD X p = false := by simpa using cd
      obtain ⟨s1, a1, a2, a3⟩ := c_sign te hx (c := 40) (by decide)
      rw [sg_k hk] at a1 a2
      rw [if_neg (by decide)] at a2
      obtain ⟨s2, b1, b2, b3⟩ := c_noword te a2 hk w_least
      obtain ⟨s3, c1, c2, c3⟩ := c_noword te b2 hk w_most
      obtain ⟨s4, d1, d2, d3⟩ := c_var0 te c2 hk
      obtain ⟨s5, e1, e2, e3, -⟩ := c_fail d2 (kd := 1) (by decide) (Int32.ofNat p)
      rw [if_neg hk, if_neg hk] at e2
      refine ⟨s5, p, ?_, e2, ((((a3.trans b3).trans c3).trans d3).trans e3).l, hz.xf ((((a3.trans b3).trans c3).trans d3).trans e3)⟩
      rw [cf, if_pos bf, show fn_Tape_takesSign 1 (40 : Int32) s = some (bI false, s1) from a1, e_b2, if_pos bf, b1, e_b2, if_pos rfl, c1, e_b2, if_pos rfl, d1, e_b2, e_let, if_pos rfl, show fn_Tape_fail 1 (1 : Int32) (Int32.ofNat p) s4 = some s5 from e1, e_bd]
  · unfold bd_M_one
    rw [if_neg (hm.z hk)]
  · have hpX := j.le
    have hz : zB (s 21 3) 151 := ld.z (by omega)
    obtain ⟨t1, q1, m1, j1, f1, hq1⟩ := b_blanks te j
    unfold bd_Law_readUnit fn_Tape_next bd_M_one
    rw [e_bd, e_let, c_numNext te j.1, e_bd, e_jn, j.1.1.2.1, j.2.1.1.2.2.1, if_pos (show Int32.ofNat 0 = 0 from rfl), m1, e_bd]
    by_cases cd : isD X p = true
    · have nl := D_nL cd
      obtain ⟨sx2, t2, q2, -, b2, f2, -, -, fm2, e2⟩ := b_word te j1 w_least
      have g2 : wdB X p 0 [108, 101, 97, 115, 116] = false := nL_wd te w_least nl
      rw [g2] at b2
      have j2 : JT X s t2 p q2 0 (-1) := ⟨j.1, (f2 g2).2⟩
      obtain ⟨sx3, t3, q3, -, b3, f3, -, -, fm3, e3⟩ := b_word te j2 w_most
      have g3 : wdB X p 0 [109, 111, 115, 116] = false := nL_wd te w_most nl
      rw [g3] at b3
      have j3 : JT X s t3 p q3 0 (-1) := ⟨j.1, (f3 g3).2⟩
      have hb : ¬ byI X p = 40 := fun e => by
        have h4 := ((by_eq te (i := p) (c := 40) (by decide)).mp e).2
        unfold isD at cd
        simp at cd
        omega
      rcases b_var te j3 with ⟨i, s', t', p', q', -, hL, -⟩ | ⟨s', t4, q4, -, b4, j4, -, fm4⟩
      · rw [nl] at hL; cases hL
      · have j4' : JT X s t4 p q4 0 (-1) := ⟨j.1, j4.2⟩
        have fm14 : MF t t4 := (((f1.trans fm2).trans fm3).trans fm4)
        obtain ⟨s5, t5, v, p5, q5, k5, pl5, a5, b5, j5, fx5, fm5, -, hv, hk5, -⟩ := b_num te j4' 0 999
        obtain ⟨s6, t6, a6, b6, j6, fx6, fm6, z6, hd6, e86⟩ := b_put (kd := 0) (v := if k5 = 0 then Int32.ofNat v else 0) (code := Int32.ofNat v) (kI := 0) (lw := lw) j5 (hz.xf fx5) (fun q => ⟨ld.fr fx5 (fm14.trans fm5), by have := (hk5 q).2.2; have := j5.le; omega⟩) rfl (fun q => by unfold lcode; rw [if_pos rfl, if_pos q])
        refine ⟨s6, t6, ?_, ?_, p5, q5, k5, pl5, j6, fx5.l.trans fx6, (fm14.trans fm5).g.trans fm6, z6, fun q => ?_⟩
        · rw [cd, if_neg bt, a5, e_b2, a6, e_bd]
        · rw [b2, e_b2, e_jn, if_pos bf, b3, e_b2, if_pos bf]; try dsimp only; rw [e_let, if_pos rfl, j3.2.1.1.2.1, e3 rfl, m_byte te j3.2.1 (by have := te.1; omega), e_bd, if_neg hb, b4, e_b2, e_let, e_jn, if_pos rfl, b5, e_b2, b6, e_bd]
        · obtain ⟨-, r2, r3⟩ := hk5 q
          have r4 := in_nat (a := 0) (b := 999) hv (by decide) (by decide) r2
          refine ⟨rfl, by omega, ?_, [(0, if k5 = 0 then Int32.ofNat v else 0)], hd6 q, ?_, by show 1 + p ≤ p5; omega, fun _ => r3⟩
          · rw [e86, fm5.2 8 (by decide) (by decide) (by decide), fm14.2 8 (by decide) (by decide) (by decide)]; exact h8
          · rw [if_pos q]; exact okr_num (by omega) (by omega)
    · have cf : isD X p = false := by simpa using cd
      obtain ⟨s1, a1, x1, fx1⟩ := c_sign te j.1 (c := 40) (by decide)
      rw [cf, if_pos bf, show fn_Tape_takesSign 1 (40 : Int32) s = some (bI (sgB X p 0 40), s1) from a1, e_b2]
      by_cases cg : sgB X p 0 40 = true
      · have nl := S_nL cg (by decide)
        rw [if_pos cg] at x1
        obtain ⟨sx2, t2, q2, -, b2, f2, -, -, fm2, e2⟩ := b_word te j1 w_least
        have g2 : wdB X p 0 [108, 101, 97, 115, 116] = false := nL_wd te w_least nl
        rw [g2] at b2
        have j2 : JT X s t2 p q2 0 (-1) := ⟨j.1, (f2 g2).2⟩
        obtain ⟨sx3, t3, q3, -, b3, f3, -, -, fm3, e3⟩ := b_word te j2 w_most
        have g3 : wdB X p 0 [109, 111, 115, 116] = false := nL_wd te w_most nl
        rw [g3] at b3
        have j3 : JT X s t3 p q3 0 (-1) := ⟨j.1, (f3 g3).2⟩
        have q3p := e3 rfl
        subst q3p
        have fm13 : MF t t3 := (f1.trans fm2).trans fm3
        have hb : byI X q3 = 40 := (by_eq te (i := q3) (c := 40) (by decide)).mpr ⟨(sg_0 cg).2.1, (sg_0 cg).2.2⟩
        have h83 : t3 52 8 = Int32.ofNat d := by rw [fm13.2 8 (by decide) (by decide) (by decide)]; exact h8
        rw [cg, if_neg bt, b2, e_b2, e_jn, if_pos bf, b3, e_b2, if_pos bf]; try dsimp only; rw [e_let, if_pos rfl, j3.2.1.1.2.1, m_byte te j3.2.1 (by have := te.1; omega), e_bd, if_pos hb]
        unfold bd_Law_readBracket
        by_cases c6 : d = 6
        · subst c6
          obtain ⟨t4, u1, u2, u3⟩ := m_opens6 j3.2.1 h83
          obtain ⟨s2, v1, v2, v3⟩ := c_fail0 x1 (kd := 3) (by decide) (Int32.ofNat q3)
          refine ⟨s2, t4, ?_, ?_, _, _, 3, _, ⟨v2, u2, fun q => (by cases q), fun q => (by cases q)⟩, (fx1.trans v3).l, (fm13.trans u3).g, hz.xf (fx1.trans v3), fun q => (by cases q)⟩
          · rw [if_pos (show (6 : Int32) ≤ Int32.ofNat 6 from zl_le (a := 6) (by decide) (by decide)), show fn_Tape_fail 1 (3 : Int32) (Int32.ofNat q3) s1 = some s2 from v1, e_bd, e_bd]
          · rw [u1, e_b2, if_pos rfl]
        · have hd6 : d < 6 := by omega
          have sp := hs hd6
          have hlt : q3 < X.2 := (sg_0 cg).2.1
          have mt5 : MT X (hp_s (hp_s t3 52 8 (Int32.ofNat (d + 1))) 52 4 (Int32.ofNat (q3 + 1))) (q3 + 1) 0 (-1) := (j3.2.1.slot (j := 8) (by decide) (by decide) (by decide) (by decide)).at (by omega)
          have j5 : JT X s1 (hp_s (hp_s t3 52 8 (Int32.ofNat (d + 1))) 52 4 (Int32.ofNat (q3 + 1))) (sk X (q3 + 1)) (q3 + 1) 0 (-1) := ⟨x1, mt5, fun _ => rfl, fun _ => rfl⟩
          have ld5 : LD s1 (hp_s (hp_s t3 52 8 (Int32.ofNat (d + 1))) 52 4 (Int32.ofNat (q3 + 1))) lw := ((ld.fr fx1 fm13).sl (by decide)).sl (by decide)
          have hsk : q3 + 1 ≤ sk X (q3 + 1) := sk_ge
          obtain ⟨s6, t6, a6, b6, pk6⟩ := sp.2.2 _ _ _ _ lw n j5 ld5 (by rw [hs_ne (by omega), hs_at]) (by omega) (by omega)
          obtain ⟨p6, q6, k6, pl6, l6, j6, fx6, fm6, z6, hd6'⟩ := pk6.ex
          obtain ⟨s7, t7, p7, q7, k7, pl7, a7, b7, j7, fx7, fm7, hk7, -⟩ := b_sign te j6 (c := 41) (by decide)
          refine ⟨s7, hp_s t7 52 8 (t7 52 8 - 1), ?_, ?_, p7, q7, k7, pl7, j7.ws (by decide) (by decide) (by decide) (by decide), (fx1.l.trans fx6).trans fx7.l, ?_, z6.xf fx7, fun q => ?_⟩
          · rw [if_neg (show ¬ (6 : Int32) ≤ Int32.ofNat d from zl_nle (a := 6) (by omega) (by decide)), zi_succ, a6, e_bd, show fn_Tape_expect 1 (41 : Int32) s6 = some s7 from a7, e_bd, e_bd]
          · rw [m_opens j3.2.1 h83 hd6, e_b2, if_neg o0, hs_ne (show (52 : Nat) ≠ 52 ∨ (4 : Nat) ≠ 8 from Or.inr (by decide)), j3.2.1.1.2.1, zi_succ, e_let, b6, e_bd, show fn_M_sign 52 (41 : Int32) t6 = some t7 from b7, e_bd, e_let]
          · refine ((((fm13.g.trans (MG.slot (k := 8) (v := Int32.ofNat (d + 1)) (Or.inl rfl))).trans ?_).trans fm6).trans fm7.g).trans (MG.slot (k := 8) (Or.inl rfl))
            exact (MF.put (Or.inl rfl)).g
          · obtain ⟨q6', q7'⟩ := hk7 q
            obtain ⟨r1, r2, r3, r4, r5, r6, r7⟩ := hd6' q6'
            refine ⟨rfl, by omega, ?_, l6, (r4.fr fx7 fm7).sl (by decide), r5, by omega, fun _ => by omega⟩
            rw [hs_at, fm7.2 8 (by decide) (by decide) (by decide), r3, zi_sub1 (by omega)]; rfl
      · have cgf : sgB X p 0 40 = false := by simpa using cg
        rw [cgf] at x1
        rw [if_neg (by decide)] at x1
        rw [cgf, if_pos bf]
        have j1' : JT X s1 t1 p q1 0 (-1) := ⟨x1, j1.2⟩
        obtain ⟨s2, t2, q2, a2, b2, f2, g2, fx2, fm2, e2⟩ := b_word te j1' w_least
        have fx12 := fx1.trans fx2
        have fm12 := f1.trans fm2
        rw [a2, e_b2, b2, e_b2, e_jn]
        by_cases c2 : wdB X p 0 [108, 101, 97, 115, 116] = true
        · obtain ⟨x3, m3⟩ := g2 c2
          obtain ⟨s3, t3, r1, r2, p', q', k', pl', r3, r4, r5, r6, r7⟩ := b_pair (rs := rs) (rm := rm) (kI := 7) (kd := 7) (code := 1015) te hX hs hd w_least x3 m3 c2 (ld.fr fx12 fm12) (by rw [fm12.2 8 (by decide) (by decide) (by decide)]; exact h8) hn hl rfl rfl (by decide) (by decide)
          refine ⟨s3, t3, ?_, ?_, p', q', k', pl', r3, fx12.l.trans r4, fm12.g.trans r5, r6, r7⟩
          · rw [c2, if_neg bt, r1, e_bd]
          · rw [c2, if_neg bt]; try dsimp only; rw [e_let, if_neg (show ¬ (7 : Int32) = -1 from by decide)]; exact r2
        · have c2f : wdB X p 0 [108, 101, 97, 115, 116] = false := by simpa using c2
          have j2 := f2 c2f
          rw [c2f, if_pos bf, if_pos bf]
          obtain ⟨s3, t3, q3, a3, b3, f3, g3, fx3, fm3, e3⟩ := b_word te j2 w_most
          have fx13 := fx12.trans fx3
          have fm13 := fm12.trans fm3
          rw [a3, e_b2, b3, e_b2]
          by_cases c3 : wdB X p 0 [109, 111, 115, 116] = true
          · obtain ⟨x4, m4⟩ := g3 c3
            obtain ⟨s4, t4, r1, r2, p', q', k', pl', r3, r4, r5, r6, r7⟩ := b_pair (rs := rs) (rm := rm) (kI := 8) (kd := 8) (code := 1016) te hX hs hd w_most x4 m4 c3 (ld.fr fx13 fm13) (by rw [fm13.2 8 (by decide) (by decide) (by decide)]; exact h8) hn hl rfl rfl (by decide) (by decide)
            refine ⟨s4, t4, ?_, ?_, p', q', k', pl', r3, fx13.l.trans r4, fm13.g.trans r5, r6, r7⟩
            · rw [c3, if_neg bt, r1, e_bd]
            · rw [c3, if_neg bt]; try dsimp only; rw [e_let, if_neg (show ¬ (8 : Int32) = -1 from by decide)]; exact r2
          · have c3f : wdB X p 0 [109, 111, 115, 116] = false := by simpa using c3
            have j3 := f3 c3f
            have q3p := e3 rfl
            rw [c3f, if_pos bf, if_pos bf]; try dsimp only; rw [e_let, if_pos rfl]
            have hb : ¬ byI X p = 40 := fun e => cg ((sg_by te (by decide)).mp e)
            rw [j3.2.1.1.2.1, q3p, m_byte te j3.2.1 (by have := te.1; omega), e_bd, if_neg hb]
            rcases b_var te j3 with ⟨i, s4, t4, p4, q4, hi, -, a4, b4, j4, hlt4, fx4, fm4⟩ | ⟨s4, t4, q4, a4, b4, j4, fx4, fm4⟩
            · have fx14 := fx13.trans fx4
              have fm14 := fm13.trans fm4
              have ni : ¬ Int32.ofNat i = -1 := fun e => neg_ne (show i < 2147483648 by omega) e.symm
              obtain ⟨s5, t5, a5, b5, j5, fx5, fm5, z5, hd5, e85⟩ := b_put (kd := 1) (v := Int32.ofNat i) (code := 1000 + Int32.ofNat i) (kI := 1) (lw := lw) j4 (hz.xf fx14) (fun q => ⟨ld.fr fx14 fm14, by have := j4.le; omega⟩) rfl (fun _ => by unfold lcode; rw [if_neg (show ¬ (1, Int32.ofNat i).1 = 0 from Nat.one_ne_zero), if_pos rfl])
              refine ⟨s5, t5, ?_, ?_, p4, q4, 0, -1, j5, fx14.l.trans fx5, fm14.g.trans fm5, z5, fun q => ⟨rfl, by omega, ?_, [(1, Int32.ofNat i)], hd5 q, okr_var (by omega) hi, by show 1 + p ≤ p4; omega, fun _ => hlt4⟩⟩
              · rw [a4, e_b2, e_let, if_neg ni, a5, e_bd]
              · rw [b4, e_b2, e_let, e_jn, if_neg ni, b5, e_bd]
              · rw [e85, fm14.2 8 (by decide) (by decide) (by decide)]; exact h8
            · have fx14 := fx13.trans fx4
              have fm14 := fm13.trans fm4
              obtain ⟨s5, a5, x5, fx5⟩ := c_fail0 j4.1 (kd := 1) (by decide) (Int32.ofNat p)
              obtain ⟨t5, q5, b5, m5, fm5, -⟩ := m_num te j4.2.1 0 999
              rw [j4.2.2.1 rfl] at b5 m5
              have hnk : nmK X p 0 0 999 = 1 := by unfold nmK; rw [if_pos rfl, if_pos ((de_p te).mpr cf)]
              rw [hnk, if_neg (by decide)] at b5 m5
              refine ⟨s5, t5, ?_, ?_, p, q5, 1, Int32.ofNat p, ⟨x5, m5, fun q => (by cases q), fun q => (by cases q)⟩, (fx14.trans fx5).l, (fm14.trans fm5).g, hz.xf (fx14.trans fx5), fun q => (by cases q)⟩
              · rw [a4, e_b2, e_let, if_pos rfl, show fn_Tape_fail 1 (1 : Int32) (Int32.ofNat p) s4 = some s5 from a5, e_bd]
              · rw [b4, e_b2, e_let, e_jn, if_pos rfl, b5, e_b2]
                unfold fn_M_notes
                rw [m5.1.2.2.1, if_neg (show ¬ Int32.ofNat 1 = 0 from by decide), e_bd]
end LU

/-! LAW: sums, products, units -/
def PK (X : tx) (s t : hp_I) (p k : Nat) (lw : ab_L) (n m d : Nat) (s' t' : hp_I) : Prop := ∃ p' q' k' pl', JT X s' t' p' q' k' pl' ∧ XL s s' ∧ MG lwP lwJ t t' ∧ zB (s' 21 3) 151 ∧ (k' = 0 → k = 0 ∧ p ≤ p' ∧ t' 52 8 = Int32.ofNat d ∧ ∃ l, LD s' t' (lw ++ l) ∧ okr l n m ∧ l.length + p ≤ p' ∧ (n ≠ m → p < p'))
def SPc (X : tx) (r : hp_I → Option hp_I) : Prop := ∀ s p k pl, XT X s p k pl → k ≠ 0 → zB (s 21 3) 151 → ∃ s' p', r s = some s' ∧ XT X s' p' k pl ∧ XL s s' ∧ zB (s' 21 3) 151
def SPm (X : tx) (r' : hp_I → Option hp_I) : Prop := ∀ t q k pl, MT X t q k pl → k ≠ 0 → r' t = some t
def SPj (X : tx) (c d : Nat) (r r' : hp_I → Option hp_I) : Prop := ∀ s t p q lw n, JT X s t p q 0 (-1) → LD s t lw → t 52 8 = Int32.ofNat d → n ≤ 3 * d + c → lw.length ≤ p → ∃ s' t', r s = some s' ∧ r' t = some t' ∧ PK X s t p 0 lw n (n + 1) d s' t'
def SP (X : tx) (c d : Nat) (r r' : hp_I → Option hp_I) : Prop := SPc X r ∧ SPm X r' ∧ SPj X c d r r'
theorem LD.z {s t : hp_I} {lw : ab_L} (h : LD s t lw) (hl : lw.length ≤ 150) : zB (s 21 3) 151 := ⟨lw.length, by omega, h.1⟩
theorem MT.z {X : tx} {t : hp_I} {q k : Nat} {pl : Int32} (h : MT X t q k pl) (hk : k ≠ 0) : ¬ t 52 5 = 0 := by rw [h.1.2.2.1]; exact fun e => hk ((k_0 h.2.2.1).mp e)
theorem sg_k {X : tx} {p k c : Nat} (hk : k ≠ 0) : sgB X p k c = false := by unfold sgB; rw [decide_eq_false hk, Bool.false_and]
/-- a part that is read, whether there was a fault or not -/
theorem SP.any {X : tx} {c d p q k n : Nat} {r r' : hp_I → Option hp_I} {s t : hp_I} {pl : Int32} {lw : ab_L} (h : SP X c d r r') (j : JT X s t p q k pl) (hz : zB (s 21 3) 151) (hd : k = 0 → LD s t lw ∧ t 52 8 = Int32.ofNat d ∧ lw.length ≤ p) (hn : n ≤ 3 * d + c) : ∃ s' t', r s = some s' ∧ r' t = some t' ∧ PK X s t p k lw n (n + 1) d s' t' := by
  by_cases c0 : k = 0
  · subst c0
    have hpl := j.2.2.2 rfl
    subst hpl
    obtain ⟨h1, h2, h3⟩ := hd rfl
    exact h.2.2 s t p q lw n j h1 h2 hn h3
  · obtain ⟨s', p', a1, a2, a3, a4⟩ := h.1 s p k pl j.1 c0 hz
    exact ⟨s', t, a1, h.2.1 t q k pl j.2.1 c0, p', q, k, pl, ⟨a2, j.2.1, fun e => absurd e c0, fun e => absurd e c0⟩, a3, MG.refl, a4, fun e => absurd e c0⟩
section LSum
variable {X : tx} {d : Nat} {rp : Nat → Nat → Int32 → hp_I → Option hp_I} {rm : Nat → hp_I → Option hp_I}
theorem sum_c0 {s : hp_I} {p k fu : Nat} {pl a2 x : Int32} (te : TE X) (h : XT X s p k pl) (hk : k ≠ 0) : ∃ s', bd_Law_readSum_L8 rp 21 1 a2 (fun s => some s) (fu + 1) x s = some s' ∧ XT X s' p k pl ∧ XF s s' := by
  rw [bd_Law_readSum_L8]
  by_cases c : x < 150
  · rw [if_pos c]
    obtain ⟨s0, a0, x0, f0⟩ := c_sign te h (c := 43) (by decide)
    rw [sg_k hk] at a0 x0
    rw [if_neg (by decide)] at x0
    obtain ⟨s1, a1, x1, f1⟩ := c_sign te x0 (c := 45) (by decide)
    rw [sg_k hk] at a1 x1
    rw [if_neg (by decide)] at x1
    refine ⟨s1, ?_, x1, (f0.trans f1)⟩
    rw [show fn_Tape_takesSign 1 (43 : Int32) s = some (bI false, s0) from a0, e_b2, e_jn, if_pos (show bI false = 0 from rfl), show fn_Tape_takesSign 1 (45 : Int32) s0 = some (bI false, s1) from a1, e_b2, if_pos (show bI false = 0 from rfl)]; try dsimp only; rw [e_let, if_pos (show (-1 : Int32) = -1 from rfl)]
  · rw [if_neg c]
    exact ⟨s, rfl, h, XF.refl⟩
theorem sum_m0 {t : hp_I} {q k fv : Nat} {pl : Int32} (h : MT X t q k pl) (hk : k ≠ 0) : bd_M_sum_L4 rm 52 (fun s => some s) (fv + 1) t = some t := by
  rw [bd_M_sum_L4, if_neg (h.z hk)]
theorem sum_go (te : TE X) (hX : X.2 ≤ 150) (hs : SP X 1 d (rp 21 1 (Int32.ofNat d)) (rm 52)) : ∀ m s t p q k pl fu fv i lw n, X.2 - p < m → m ≤ fu → m ≤ fv → JT X s t p q k pl → zB (s 21 3) 151 → (k = 0 → LD s t lw ∧ t 52 8 = Int32.ofNat d ∧ lw.length ≤ p ∧ i < p) → n ≤ 3 * d + 0 → ∃ s' t', bd_Law_readSum_L8 rp 21 1 (Int32.ofNat d) (fun s => some s) fu (Int32.ofNat i) s = some s' ∧ bd_M_sum_L4 rm 52 (fun s => some s) fv t = some t' ∧ PK X s t p k lw (n + 1) (n + 1) d s' t' := by
  have h6 := te.1
  intro m
  induction m with
  | zero => intro s t p q k pl fu fv i lw n h; omega
  | succ m ih =>
    intro s t p q k pl fu fv i lw n hm hfu hfv h hz hd hn
    obtain ⟨fu, rfl⟩ : ∃ f, fu = f + 1 := ⟨fu - 1, by omega⟩
    obtain ⟨fv, rfl⟩ : ∃ f, fv = f + 1 := ⟨fv - 1, by omega⟩
    by_cases c0 : k = 0
    · subst c0
      have hpl := h.2.2.2 rfl
      subst hpl
      obtain ⟨ld, h8, hlp, hip⟩ := hd rfl
      have hpX := h.le
      have go : ∀ (code : Int32) (kd : Nat) (kI : Int32) (s1 t1 : hp_I) (p1 q1 : Nat), JT X s1 t1 p1 q1 0 (-1) → XF s s1 → MF t t1 → p < p1 → p1 ≤ X.2 → kI = Int32.ofNat kd → code = lcode (kd, 0) → 2 ≤ kd → kd ≤ 8 → ∃ s' t', (Option.bind (rp 21 1 (Int32.ofNat d) s1) fun s10 => Option.bind (fn_Law_put 21 code s10) fun s12 => px_let (Int32.ofNat i + 1) fun v3_13 => bd_Law_readSum_L8 rp 21 1 (Int32.ofNat d) (fun s => some s) fu v3_13 s12) = some s' ∧ (Option.bind (rm 52 t1) fun s9 => Option.bind (fn_M_notes 52 kI (0 : Int32) s9) fun s11 => bd_M_sum_L4 rm 52 (fun s => some s) fv s11) = some t' ∧ PK X s t p 0 lw (n + 1) (n + 1) d s' t' := by
        intro code kd kI s1 t1 p1 q1 j1 fx1 fm1 hp1 hp1X hkI hcode hk2 hk8
        obtain ⟨s2, t2, r1, r2, p2, q2, k2, pl2, j2, fx2, fm2, z2, hd2⟩ := hs.2.2 s1 t1 p1 q1 lw (n + 1) j1 (ld.fr fx1 fm1) (by rw [fm1.2 8 (by decide) (by decide) (by decide)]; exact h8) (by omega) (by omega)
        have hp2X := j2.le
        by_cases ck : k2 = 0
        · obtain ⟨-, hp12, h82, l, ld2, ok2, hl2, hlt2⟩ := hd2 ck
          have hlen : (lw ++ l).length < 150 := by rw [List.length_append]; have := hlt2 (by omega); omega
          obtain ⟨s3, t3, u1, u2, j3, fx3, fm3, z3, hd3, e8⟩ := b_put (kd := kd) (v := 0) (code := code) (kI := kI) j2 z2 (fun _ => ⟨ld2, hlen⟩) hkI (fun _ => hcode)
          have hlt := hlt2 (by omega)
          obtain ⟨s', t', v1, v2, p', q', k', pl', j', fx', fm', z', hd'⟩ := ih s3 t3 p2 q2 k2 pl2 fu fv (i + 1) (lw ++ l ++ [(kd, 0)]) n (by omega) (by omega) (by omega) j3 z3 (fun e => ⟨hd3 e, by rw [e8]; exact h82, by rw [List.length_append, List.length_append]; show lw.length + l.length + 1 ≤ p2; omega, by omega⟩) hn
          refine ⟨s', t', ?_, ?_, p', q', k', pl', j', ((fx1.l.trans fx2).trans fx3).trans fx', ((fm1.g.trans fm2).trans fm3).trans fm', z', fun e => ?_⟩
          · rw [r1, e_bd, u1, e_bd, e_let, zi_succ]; exact v1
          · rw [r2, e_bd, u2, e_bd]; exact v2
          · obtain ⟨-, hpp, h8', l', ld', ok', hl', -⟩ := hd' e
            refine ⟨rfl, by omega, h8', l ++ [(kd, 0)] ++ l', by rw [← List.append_assoc, ← List.append_assoc]; exact ld', okr_app _ _ _ _ _ (okr_app _ _ _ _ _ ok2 (okr_op hk2 hk8)) ok', ?_, fun e => absurd rfl e⟩
            rw [List.length_append, List.length_append]
            show l.length + 1 + l'.length + p ≤ p'
            omega
        · obtain ⟨s3, t3, u1, u2, j3, fx3, fm3, z3, -, -⟩ := b_put (kd := kd) (v := 0) (code := code) (kI := kI) (lw := lw) j2 z2 (fun e => absurd e ck) hkI (fun e => absurd e ck)
          obtain ⟨fu, rfl⟩ : ∃ f, fu = f + 1 := ⟨fu - 1, by omega⟩
          obtain ⟨fv, rfl⟩ : ∃ f, fv = f + 1 := ⟨fv - 1, by omega⟩
          obtain ⟨s4, v1, v2, v3⟩ := sum_c0 (rp := rp) (fu := fu) (a2 := Int32.ofNat d) (x := Int32.ofNat (i + 1)) te j3.1 ck
          refine ⟨s4, t3, ?_, ?_, p2, q2, k2, pl2, ⟨v2, j3.2⟩, ((fx1.l.trans fx2).trans fx3).trans v3.l, (fm1.g.trans fm2).trans fm3, z3.xf v3, fun e => absurd e ck⟩
          · rw [r1, e_bd, u1, e_bd, e_let, zi_succ]; exact v1
          · rw [r2, e_bd, u2, e_bd]; exact sum_m0 j3.2.1 ck
      rw [bd_Law_readSum_L8, if_pos (show Int32.ofNat i < 150 from zl_lt (b := 150) (by omega) (by decide)), bd_M_sum_L4, h.2.1.1.2.2.1, if_pos (show Int32.ofNat 0 = 0 from rfl)]
      obtain ⟨s0, t0, p0, q0, a0, b0, j0, fx0, fm0, ht0, hf0⟩ := b_takes te h (c := 43) (by decide)
      rw [show fn_Tape_takesSign 1 (43 : Int32) s = some (bI (sgB X p 0 43), s0) from a0, e_b2, e_jn, show fn_M_takesSign 52 (43 : Int32) t = some (bI (sgB X p 0 43), t0) from b0, e_b2, e_jn]
      by_cases g0 : sgB X p 0 43 = true
      · have hlt := (ht0 g0).2
        rw [g0, if_neg (show ¬ bI true = 0 from by decide), if_neg (show ¬ bI true = 0 from by decide)]; try dsimp only; rw [e_let, if_neg (show ¬ (1010 : Int32) = -1 from by decide), e_let, if_neg (show ¬ (2 : Int32) = -1 from by decide)]
        exact go 1010 2 2 s0 t0 p0 q0 j0 fx0 fm0 (by omega) j0.le rfl rfl (by decide) (by decide)
      · have gf0 : sgB X p 0 43 = false := by simpa using g0
        rw [gf0, if_pos (show bI false = 0 from rfl), if_pos (show bI false = 0 from rfl)]
        obtain ⟨s1, t1, p1, q1, a1, b1, j1, fx1, fm1, ht1, hf1⟩ := b_takes te j0 (c := 45) (by decide)
        rw [show fn_Tape_takesSign 1 (45 : Int32) s0 = some (bI (sgB X p0 0 45), s1) from a1, e_b2, show fn_M_takesSign 52 (45 : Int32) t0 = some (bI (sgB X p0 0 45), t1) from b1, e_b2]
        by_cases g1 : sgB X p0 0 45 = true
        · have hlt := (ht1 g1).2
          have e0 := hf0 (by simpa using g0)
          rw [g1, if_neg (show ¬ bI true = 0 from by decide), if_neg (show ¬ bI true = 0 from by decide)]; try dsimp only; rw [e_let, if_neg (show ¬ (1011 : Int32) = -1 from by decide), e_let, if_neg (show ¬ (3 : Int32) = -1 from by decide)]
          exact go 1011 3 3 s1 t1 p1 q1 j1 (fx0.trans fx1) (fm0.trans fm1) (by omega) j1.le rfl rfl (by decide) (by decide)
        · have gf1 : sgB X p0 0 45 = false := by simpa using g1
          rw [gf1, if_pos (show bI false = 0 from rfl), if_pos (show bI false = 0 from rfl)]
          have e0 := hf0 gf0
          have e1 := hf1 gf1
          try dsimp only
          rw [e_let, if_pos (show (-1 : Int32) = -1 from rfl), e_let, if_pos (show (-1 : Int32) = -1 from rfl)]
          refine ⟨s1, t1, rfl, rfl, p1, q1, 0, -1, j1, (fx0.trans fx1).l, (fm0.trans fm1).g, hz.xf (fx0.trans fx1), fun _ => ⟨rfl, by omega, by rw [(fm0.trans fm1).2 8 (by decide) (by decide) (by decide)]; exact h8, [], by rw [List.append_nil]; exact ld.fr (fx0.trans fx1) (fm0.trans fm1), rfl, by show 0 + p ≤ p1; omega, fun e => absurd rfl e⟩⟩
    · obtain ⟨s', a1, a2, a3⟩ := sum_c0 (rp := rp) (fu := fu) (a2 := Int32.ofNat d) (x := Int32.ofNat i) te h.1 c0
      exact ⟨s', t, a1, sum_m0 h.2.1 c0, p, q, k, pl, ⟨a2, h.2⟩, a3.l, MG.refl, hz.xf a3, fun e => absurd e c0⟩
theorem sp_sum (te : TE X) (hX : X.2 ≤ 150) (hs : SP X 1 d (rp 21 1 (Int32.ofNat d)) (rm 52)) : SP X 0 d (bd_Law_readSum rp 21 1 (Int32.ofNat d)) (bd_M_sum rm 52) := by
  refine ⟨fun s p k pl hx hk hz => ?_, fun t q k pl hm hk => ?_, fun s t p q lw n j ld h8 hn hl => ?_⟩
  · obtain ⟨s1, p1, a1, a2, a3, a4⟩ := hs.1 s p k pl hx hk hz
    obtain ⟨s2, b1, b2, b3⟩ := sum_c0 (rp := rp) (fu := 99999) (a2 := Int32.ofNat d) (x := 0) te a2 hk
    refine ⟨s2, p1, ?_, b2, a3.trans b3.l, a4.xf b3⟩
    unfold bd_Law_readSum
    rw [a1, e_bd, e_let]
    exact b1
  · unfold bd_M_sum
    rw [hs.2.1 t q k pl hm hk, e_bd]
    exact sum_m0 (fv := 99999) hm hk
  · obtain ⟨s1, t1, a1, a2, p1, q1, k1, pl1, j1, fx1, fm1, z1, hd1⟩ := hs.2.2 s t p q lw n j ld h8 (by omega) hl
    by_cases ck : k1 = 0
    · obtain ⟨-, hp, h81, l, ld1, ok1, hl1, hlt1⟩ := hd1 ck
      have hlt := hlt1 (by omega)
      obtain ⟨s2, t2, b1, b2, p2, q2, k2, pl2, j2, fx2, fm2, z2, hd2⟩ := sum_go (rp := rp) (rm := rm) te hX hs 601 s1 t1 p1 q1 k1 pl1 FU FU 0 (lw ++ l) n (by omega) (by decide) (by decide) j1 z1 (fun _ => ⟨ld1, h81, by rw [List.length_append]; omega, by omega⟩) hn
      refine ⟨s2, t2, ?_, ?_, p2, q2, k2, pl2, j2, fx1.trans fx2, fm1.trans fm2, z2, fun e => ?_⟩
      · unfold bd_Law_readSum
        rw [a1, e_bd, e_let]
        exact b1
      · unfold bd_M_sum
        rw [a2, e_bd]
        exact b2
      · obtain ⟨-, hp2, h82, l2, ld2, ok2, hl2, -⟩ := hd2 e
        refine ⟨rfl, by omega, h82, l ++ l2, by rw [← List.append_assoc]; exact ld2, okr_app _ _ _ _ _ ok1 ok2, ?_, fun _ => by omega⟩
        rw [List.length_append]
        omega
    · obtain ⟨s2, b1, b2, b3⟩ := sum_c0 (rp := rp) (fu := 99999) (a2 := Int32.ofNat d) (x := 0) te j1.1 ck
      refine ⟨s2, t1, ?_, ?_, p1, q1, k1, pl1, ⟨b2, j1.2⟩, fx1.trans b3.l, fm1, z1.xf b3, fun e => absurd e ck⟩
      · unfold bd_Law_readSum
        rw [a1, e_bd, e_let]
        exact b1
      · unfold bd_M_sum
        rw [a2, e_bd]
        exact sum_m0 (fv := 99999) j1.2.1 ck
end LSum
section LProduct
variable {X : tx} {d : Nat} {rp : Nat → Nat → Int32 → hp_I → Option hp_I} {rm : Nat → hp_I → Option hp_I}
theorem product_c0 {s : hp_I} {p k fu : Nat} {pl a2 x : Int32} (te : TE X) (h : XT X s p k pl) (hk : k ≠ 0) : ∃ s', bd_Law_readProduct_L8 rp 21 1 a2 (fun s => some s) (fu + 1) x s = some s' ∧ XT X s' p k pl ∧ XF s s' := by
  rw [bd_Law_readProduct_L8]
  by_cases c : x < 150
  · rw [if_pos c]
    obtain ⟨s0, a0, x0, f0⟩ := c_sign te h (c := 42) (by decide)
    rw [sg_k hk] at a0 x0
    rw [if_neg (by decide)] at x0
    obtain ⟨s1, a1, x1, f1⟩ := c_sign te x0 (c := 47) (by decide)
    rw [sg_k hk] at a1 x1
    rw [if_neg (by decide)] at x1
    obtain ⟨s2, a2, x2, f2⟩ := c_sign te x1 (c := 37) (by decide)
    rw [sg_k hk] at a2 x2
    rw [if_neg (by decide)] at x2
    refine ⟨s2, ?_, x2, ((f0.trans f1).trans f2)⟩
    rw [show fn_Tape_takesSign 1 (42 : Int32) s = some (bI false, s0) from a0, e_b2, e_jn, if_pos (show bI false = 0 from rfl), show fn_Tape_takesSign 1 (47 : Int32) s0 = some (bI false, s1) from a1, e_b2, if_pos (show bI false = 0 from rfl), show fn_Tape_takesSign 1 (37 : Int32) s1 = some (bI false, s2) from a2, e_b2, if_pos (show bI false = 0 from rfl)]; try dsimp only; rw [e_let, if_pos (show (-1 : Int32) = -1 from rfl)]
  · rw [if_neg c]
    exact ⟨s, rfl, h, XF.refl⟩
theorem product_m0 {t : hp_I} {q k fv : Nat} {pl : Int32} (h : MT X t q k pl) (hk : k ≠ 0) : bd_M_product_L4 rm 52 (fun s => some s) (fv + 1) t = some t := by
  rw [bd_M_product_L4, if_neg (h.z hk)]
theorem product_go (te : TE X) (hX : X.2 ≤ 150) (hs : SP X 2 d (rp 21 1 (Int32.ofNat d)) (rm 52)) : ∀ m s t p q k pl fu fv i lw n, X.2 - p < m → m ≤ fu → m ≤ fv → JT X s t p q k pl → zB (s 21 3) 151 → (k = 0 → LD s t lw ∧ t 52 8 = Int32.ofNat d ∧ lw.length ≤ p ∧ i < p) → n ≤ 3 * d + 1 → ∃ s' t', bd_Law_readProduct_L8 rp 21 1 (Int32.ofNat d) (fun s => some s) fu (Int32.ofNat i) s = some s' ∧ bd_M_product_L4 rm 52 (fun s => some s) fv t = some t' ∧ PK X s t p k lw (n + 1) (n + 1) d s' t' := by
  have h6 := te.1
  intro m
  induction m with
  | zero => intro s t p q k pl fu fv i lw n h; omega
  | succ m ih =>
    intro s t p q k pl fu fv i lw n hm hfu hfv h hz hd hn
    obtain ⟨fu, rfl⟩ : ∃ f, fu = f + 1 := ⟨fu - 1, by omega⟩
    obtain ⟨fv, rfl⟩ : ∃ f, fv = f + 1 := ⟨fv - 1, by omega⟩
    by_cases c0 : k = 0
    · subst c0
      have hpl := h.2.2.2 rfl
      subst hpl
      obtain ⟨ld, h8, hlp, hip⟩ := hd rfl
      have hpX := h.le
      have go : ∀ (code : Int32) (kd : Nat) (kI : Int32) (s1 t1 : hp_I) (p1 q1 : Nat), JT X s1 t1 p1 q1 0 (-1) → XF s s1 → MF t t1 → p < p1 → p1 ≤ X.2 → kI = Int32.ofNat kd → code = lcode (kd, 0) → 2 ≤ kd → kd ≤ 8 → ∃ s' t', (Option.bind (rp 21 1 (Int32.ofNat d) s1) fun s10 => Option.bind (fn_Law_put 21 code s10) fun s12 => px_let (Int32.ofNat i + 1) fun v3_13 => bd_Law_readProduct_L8 rp 21 1 (Int32.ofNat d) (fun s => some s) fu v3_13 s12) = some s' ∧ (Option.bind (rm 52 t1) fun s9 => Option.bind (fn_M_notes 52 kI (0 : Int32) s9) fun s11 => bd_M_product_L4 rm 52 (fun s => some s) fv s11) = some t' ∧ PK X s t p 0 lw (n + 1) (n + 1) d s' t' := by
        intro code kd kI s1 t1 p1 q1 j1 fx1 fm1 hp1 hp1X hkI hcode hk2 hk8
        obtain ⟨s2, t2, r1, r2, p2, q2, k2, pl2, j2, fx2, fm2, z2, hd2⟩ := hs.2.2 s1 t1 p1 q1 lw (n + 1) j1 (ld.fr fx1 fm1) (by rw [fm1.2 8 (by decide) (by decide) (by decide)]; exact h8) (by omega) (by omega)
        have hp2X := j2.le
        by_cases ck : k2 = 0
        · obtain ⟨-, hp12, h82, l, ld2, ok2, hl2, hlt2⟩ := hd2 ck
          have hlen : (lw ++ l).length < 150 := by rw [List.length_append]; have := hlt2 (by omega); omega
          obtain ⟨s3, t3, u1, u2, j3, fx3, fm3, z3, hd3, e8⟩ := b_put (kd := kd) (v := 0) (code := code) (kI := kI) j2 z2 (fun _ => ⟨ld2, hlen⟩) hkI (fun _ => hcode)
          have hlt := hlt2 (by omega)
          obtain ⟨s', t', v1, v2, p', q', k', pl', j', fx', fm', z', hd'⟩ := ih s3 t3 p2 q2 k2 pl2 fu fv (i + 1) (lw ++ l ++ [(kd, 0)]) n (by omega) (by omega) (by omega) j3 z3 (fun e => ⟨hd3 e, by rw [e8]; exact h82, by rw [List.length_append, List.length_append]; show lw.length + l.length + 1 ≤ p2; omega, by omega⟩) hn
          refine ⟨s', t', ?_, ?_, p', q', k', pl', j', ((fx1.l.trans fx2).trans fx3).trans fx', ((fm1.g.trans fm2).trans fm3).trans fm', z', fun e => ?_⟩
          · rw [r1, e_bd, u1, e_bd, e_let, zi_succ]; exact v1
          · rw [r2, e_bd, u2, e_bd]; exact v2
          · obtain ⟨-, hpp, h8', l', ld', ok', hl', -⟩ := hd' e
            refine ⟨rfl, by omega, h8', l ++ [(kd, 0)] ++ l', by rw [← List.append_assoc, ← List.append_assoc]; exact ld', okr_app _ _ _ _ _ (okr_app _ _ _ _ _ ok2 (okr_op hk2 hk8)) ok', ?_, fun e => absurd rfl e⟩
            rw [List.length_append, List.length_append]
            show l.length + 1 + l'.length + p ≤ p'
            omega
        · obtain ⟨s3, t3, u1, u2, j3, fx3, fm3, z3, -, -⟩ := b_put (kd := kd) (v := 0) (code := code) (kI := kI) (lw := lw) j2 z2 (fun e => absurd e ck) hkI (fun e => absurd e ck)
          obtain ⟨fu, rfl⟩ : ∃ f, fu = f + 1 := ⟨fu - 1, by omega⟩
          obtain ⟨fv, rfl⟩ : ∃ f, fv = f + 1 := ⟨fv - 1, by omega⟩
          obtain ⟨s4, v1, v2, v3⟩ := product_c0 (rp := rp) (fu := fu) (a2 := Int32.ofNat d) (x := Int32.ofNat (i + 1)) te j3.1 ck
          refine ⟨s4, t3, ?_, ?_, p2, q2, k2, pl2, ⟨v2, j3.2⟩, ((fx1.l.trans fx2).trans fx3).trans v3.l, (fm1.g.trans fm2).trans fm3, z3.xf v3, fun e => absurd e ck⟩
          · rw [r1, e_bd, u1, e_bd, e_let, zi_succ]; exact v1
          · rw [r2, e_bd, u2, e_bd]; exact product_m0 j3.2.1 ck
      rw [bd_Law_readProduct_L8, if_pos (show Int32.ofNat i < 150 from zl_lt (b := 150) (by omega) (by decide)), bd_M_product_L4, h.2.1.1.2.2.1, if_pos (show Int32.ofNat 0 = 0 from rfl)]
      obtain ⟨s0, t0, p0, q0, a0, b0, j0, fx0, fm0, ht0, hf0⟩ := b_takes te h (c := 42) (by decide)
      rw [show fn_Tape_takesSign 1 (42 : Int32) s = some (bI (sgB X p 0 42), s0) from a0, e_b2, e_jn, show fn_M_takesSign 52 (42 : Int32) t = some (bI (sgB X p 0 42), t0) from b0, e_b2, e_jn]
      by_cases g0 : sgB X p 0 42 = true
      · have hlt := (ht0 g0).2
        rw [g0, if_neg (show ¬ bI true = 0 from by decide), if_neg (show ¬ bI true = 0 from by decide)]; try dsimp only; rw [e_let, if_neg (show ¬ (1012 : Int32) = -1 from by decide), e_let, if_neg (show ¬ (4 : Int32) = -1 from by decide)]
        exact go 1012 4 4 s0 t0 p0 q0 j0 fx0 fm0 (by omega) j0.le rfl rfl (by decide) (by decide)
      · have gf0 : sgB X p 0 42 = false := by simpa using g0
        rw [gf0, if_pos (show bI false = 0 from rfl), if_pos (show bI false = 0 from rfl)]
        obtain ⟨s1, t1, p1, q1, a1, b1, j1, fx1, fm1, ht1, hf1⟩ := b_takes te j0 (c := 47) (by decide)
        rw [show fn_Tape_takesSign 1 (47 : Int32) s0 = some (bI (sgB X p0 0 47), s1) from a1, e_b2, show fn_M_takesSign 52 (47 : Int32) t0 = some (bI (sgB X p0 0 47), t1) from b1, e_b2]
        by_cases g1 : sgB X p0 0 47 = true
        · have hlt := (ht1 g1).2
          have e0 := hf0 (by simpa using g0)
          rw [g1, if_neg (show ¬ bI true = 0 from by decide), if_neg (show ¬ bI true = 0 from by decide)]; try dsimp only; rw [e_let, if_neg (show ¬ (1013 : Int32) = -1 from by decide), e_let, if_neg (show ¬ (5 : Int32) = -1 from by decide)]
          exact go 1013 5 5 s1 t1 p1 q1 j1 (fx0.trans fx1) (fm0.trans fm1) (by omega) j1.le rfl rfl (by decide) (by decide)
        · have gf1 : sgB X p0 0 47 = false := by simpa using g1
          rw [gf1, if_pos (show bI false = 0 from rfl), if_pos (show bI false = 0 from rfl)]
          obtain ⟨s2, t2, p2, q2, a2, b2, j2, fx2, fm2, ht2, hf2⟩ := b_takes te j1 (c := 37) (by decide)
          rw [show fn_Tape_takesSign 1 (37 : Int32) s1 = some (bI (sgB X p1 0 37), s2) from a2, e_b2, show fn_M_takesSign 52 (37 : Int32) t1 = some (bI (sgB X p1 0 37), t2) from b2, e_b2]
          by_cases g2 : sgB X p1 0 37 = true
          · have hlt := (ht2 g2).2
            have e0 := hf0 (by simpa using g0)
            have e1 := hf1 (by simpa using g1)
            rw [g2, if_neg (show ¬ bI true = 0 from by decide), if_neg (show ¬ bI true = 0 from by decide)]; try dsimp only; rw [e_let, if_neg (show ¬ (1014 : Int32) = -1 from by decide), e_let, if_neg (show ¬ (6 : Int32) = -1 from by decide)]
            exact go 1014 6 6 s2 t2 p2 q2 j2 ((fx0.trans fx1).trans fx2) ((fm0.trans fm1).trans fm2) (by omega) j2.le rfl rfl (by decide) (by decide)
          · have gf2 : sgB X p1 0 37 = false := by simpa using g2
            rw [gf2, if_pos (show bI false = 0 from rfl), if_pos (show bI false = 0 from rfl)]
            have e0 := hf0 gf0
            have e1 := hf1 gf1
            have e2 := hf2 gf2
            try dsimp only
            rw [e_let, if_pos (show (-1 : Int32) = -1 from rfl), e_let, if_pos (show (-1 : Int32) = -1 from rfl)]
            refine ⟨s2, t2, rfl, rfl, p2, q2, 0, -1, j2, ((fx0.trans fx1).trans fx2).l, ((fm0.trans fm1).trans fm2).g, hz.xf ((fx0.trans fx1).trans fx2), fun _ => ⟨rfl, by omega, by rw [((fm0.trans fm1).trans fm2).2 8 (by decide) (by decide) (by decide)]; exact h8, [], by rw [List.append_nil]; exact ld.fr ((fx0.trans fx1).trans fx2) ((fm0.trans fm1).trans fm2), rfl, by show 0 + p ≤ p2; omega, fun e => absurd rfl e⟩⟩
    · obtain ⟨s', a1, a2, a3⟩ := product_c0 (rp := rp) (fu := fu) (a2 := Int32.ofNat d) (x := Int32.ofNat i) te h.1 c0
      exact ⟨s', t, a1, product_m0 h.2.1 c0, p, q, k, pl, ⟨a2, h.2⟩, a3.l, MG.refl, hz.xf a3, fun e => absurd e c0⟩
theorem sp_product (te : TE X) (hX : X.2 ≤ 150) (hs : SP X 2 d (rp 21 1 (Int32.ofNat d)) (rm 52)) : SP X 1 d (bd_Law_readProduct rp 21 1 (Int32.ofNat d)) (bd_M_product rm 52) := by
  refine ⟨fun s p k pl hx hk hz => ?_, fun t q k pl hm hk => ?_, fun s t p q lw n j ld h8 hn hl => ?_⟩
  · obtain ⟨s1, p1, a1, a2, a3, a4⟩ := hs.1 s p k pl hx hk hz
    obtain ⟨s2, b1, b2, b3⟩ := product_c0 (rp := rp) (fu := 99999) (a2 := Int32.ofNat d) (x := 0) te a2 hk
    refine ⟨s2, p1, ?_, b2, a3.trans b3.l, a4.xf b3⟩
    unfold bd_Law_readProduct
    rw [a1, e_bd, e_let]
    exact b1
  · unfold bd_M_product
    rw [hs.2.1 t q k pl hm hk, e_bd]
    exact product_m0 (fv := 99999) hm hk
  · obtain ⟨s1, t1, a1, a2, p1, q1, k1, pl1, j1, fx1, fm1, z1, hd1⟩ := hs.2.2 s t p q lw n j ld h8 (by omega) hl
    by_cases ck : k1 = 0
    · obtain ⟨-, hp, h81, l, ld1, ok1, hl1, hlt1⟩ := hd1 ck
      have hlt := hlt1 (by omega)
      obtain ⟨s2, t2, b1, b2, p2, q2, k2, pl2, j2, fx2, fm2, z2, hd2⟩ := product_go (rp := rp) (rm := rm) te hX hs 601 s1 t1 p1 q1 k1 pl1 FU FU 0 (lw ++ l) n (by omega) (by decide) (by decide) j1 z1 (fun _ => ⟨ld1, h81, by rw [List.length_append]; omega, by omega⟩) hn
      refine ⟨s2, t2, ?_, ?_, p2, q2, k2, pl2, j2, fx1.trans fx2, fm1.trans fm2, z2, fun e => ?_⟩
      · unfold bd_Law_readProduct
        rw [a1, e_bd, e_let]
        exact b1
      · unfold bd_M_product
        rw [a2, e_bd]
        exact b2
      · obtain ⟨-, hp2, h82, l2, ld2, ok2, hl2, -⟩ := hd2 e
        refine ⟨rfl, by omega, h82, l ++ l2, by rw [← List.append_assoc]; exact ld2, okr_app _ _ _ _ _ ok1 ok2, ?_, fun _ => by omega⟩
        rw [List.length_append]
        omega
    · obtain ⟨s2, b1, b2, b3⟩ := product_c0 (rp := rp) (fu := 99999) (a2 := Int32.ofNat d) (x := 0) te j1.1 ck
      refine ⟨s2, t1, ?_, ?_, p1, q1, k1, pl1, ⟨b2, j1.2⟩, fx1.trans b3.l, fm1, z1.xf b3, fun e => absurd e ck⟩
      · unfold bd_Law_readProduct
        rw [a1, e_bd, e_let]
        exact b1
      · unfold bd_M_product
        rw [a2, e_bd]
        exact product_m0 (fv := 99999) j1.2.1 ck
end LProduct

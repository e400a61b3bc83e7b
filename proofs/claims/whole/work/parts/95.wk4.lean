/-! WORK: again -/
def SJ (X : tx) (H : ab_H) (d : Nat) (r r' : hp_I → Option hp_I) : Prop := ∀ s t p q N, JT X s t p q 0 (-1) → CNX s H → CNM t H → CTN s t N → t 52 8 = Int32.ofNat d → 6 * N ≤ p → ∃ s' t', r s = some s' ∧ r' t = some t' ∧ PS X H s t p N d s' t'
def SE (X : tx) (r' : hp_I → Option hp_I) : Prop := ∀ t q, MT X t q 0 (-1) → X.2 ≤ sk X q → ∃ t' q', r' t = some t' ∧ MT X t' q' 1 (Int32.ofNat (sk X q)) ∧ MF t t'
theorem m_nosign {X : tx} {t : hp_I} {q k : Nat} {pl c : Int32} (h : MT X t q k pl) (hk : k ≠ 0) : fn_M_sign 52 c t = some t := by
  unfold fn_M_sign
  rw [if_neg (h.z hk)]
section WB
variable {X : tx} {H : ab_H} {d : Nat} {rs : Nat → Nat → Nat → Int32 → hp_I → Option hp_I} {rm : Nat → hp_I → Option hp_I}
theorem body_go {a5 : Int32} {row : Nat} (te : TE X) (hX : X.2 ≤ 150) (hs : SJ X H (d + 1) (rs 27 1 3 (Int32.ofNat (d + 1))) (rm 52)) (he : SE X (rm 52)) (G G' : hp_I → Option hp_I) : ∀ m s t p q k pl N fu fv i, X.2 - p < m → m < fu → m < fv → JT X s t p q k pl → (k = 0 → q = p) → CNX s H → CNM t H → zB (s 27 4) 26 → (k = 0 → CTN s t N ∧ t 52 8 = Int32.ofNat (d + 1) ∧ 6 * N ≤ p ∧ i < p) → ∃ s' t' p' q' k' pl', bd_Steps_readAgain_L43 rs 27 1 3 (Int32.ofNat d) a5 (fun s => Option.bind (fn_Tape_expect 1 (93 : Int32) s) G) fu (Int32.ofNat i) s = G s' ∧ bd_M_readsStep_L224 rm 52 row (fun t => Option.bind (fn_M_sign 52 (93 : Int32) t) G') fv t = G' t' ∧ JT X s' t' p' q' k' pl' ∧ XG wkP s s' ∧ MG wmP wmJ t t' ∧ zB (s' 27 4) 26 ∧ (k' = 0 → k = 0 ∧ ∃ S' N', N ≤ N' ∧ 6 * N' + p + 1 ≤ 6 * N + p' ∧ CTN s' t' N' ∧ FB s t s' t' N ∧ SXR s' t' S' N N' ∧ SEG H S' (N' - N) N N' (d + 1) ∧ t' 52 8 = Int32.ofNat (d + 1)) := by
  have h6 := te.1
  intro m
  induction m with
  | zero => intro s t p q k pl N fu fv i h; omega
  | succ m ih =>
    intro s t p q k pl N fu fv i hm hfu hfv h hq cx cm hz hd
    obtain ⟨fu, rfl⟩ : ∃ f, fu = f + 1 := ⟨fu - 1, by omega⟩
    obtain ⟨fv, rfl⟩ : ∃ f, fv = f + 1 := ⟨fv - 1, by omega⟩
    have hpX := h.le
    -- the class leaves the loop
    have xc : ∀ {s : hp_I} {p k : Nat} {pl : Int32} {fu : Nat} {x : Int32}, XT X s p k pl → ovB X p k = true → bd_Steps_readAgain_L43 rs 27 1 3 (Int32.ofNat d) a5 (fun s => Option.bind (fn_Tape_expect 1 (93 : Int32) s) G) (fu + 1) x s = Option.bind (fn_Tape_expect 1 (93 : Int32) s) G := by
      intro s p k pl fu x hx ho
      rw [bd_Steps_readAgain_L43, c_over te hx, e_bd, ho, if_neg (show ¬ bI true = 0 from by decide)]
      split <;> rfl
    have xm : ∀ {t : hp_I} {q k : Nat} {pl : Int32} {fv : Nat}, MT X t q k pl → k ≠ 0 → bd_M_readsStep_L224 rm 52 row (fun t => Option.bind (fn_M_sign 52 (93 : Int32) t) G') (fv + 1) t = G' t := by
      intro t q k pl fv hm hk
      rw [bd_M_readsStep_L224, if_neg (hm.z hk), m_nosign hm hk, e_bd]
    by_cases c0 : k = 0
    · subst c0
      have hpl := h.2.2.2 rfl
      subst hpl
      have hqp := hq rfl
      subst hqp
      obtain ⟨sd, h8, h6N, hip⟩ := hd rfl
      have hskp := h.2.2.1 rfl
      by_cases co : X.2 ≤ q
      · -- the text ends
        obtain ⟨s1, a1, a2, a3⟩ := c_expect te h.1 (c := 93) (by decide)
        have gf : sgB X q 0 93 = false := by unfold sgB; rw [decide_eq_false (show ¬ q < X.2 by omega), Bool.false_and, Bool.and_false]
        simp only [gf, Bool.false_eq_true, if_false, if_true] at a2
        obtain ⟨t1, q1, b1, b2, b3⟩ := he t q h.2.1 (by rw [hskp]; exact co)
        rw [hskp] at b2
        obtain ⟨t2, c1, c2, c3⟩ := m_blanks te b2
        have hfv1 : 1 ≤ fv := by omega
        obtain ⟨fv, rfl⟩ := Nat.exists_eq_add_of_le' hfv1
        refine ⟨s1, t2, q, _, 1, Int32.ofNat q, ?_, ?_, ⟨a2, c2, fun e => (by cases e), fun e => (by cases e)⟩, a3.g, (b3.trans c3).g, hz.xg a3, fun e => (by cases e)⟩
        · rw [xc h.1 (by unfold ovB; rw [decide_eq_true co, Bool.or_true]), show fn_Tape_expect 1 (93 : Int32) s = some s1 from a1, e_bd]
        · have hb : ¬ byI X q = 93 := fun e => by
            have := ((by_eq te (i := q) (c := 93) (by decide)).mp e).1
            omega
          rw [bd_M_readsStep_L224, h.2.1.1.2.2.1, if_pos (show Int32.ofNat 0 = 0 from rfl), h.2.1.1.2.1, m_byte te h.2.1 (by omega), e_bd, if_neg hb, b1, e_bd, c1, e_bd]
          exact xm c2 (by decide)
      · have ov0 : ovB X q 0 = false := by unfold ovB; rw [decide_eq_false co]; rfl
        by_cases cg : sgB X q 0 93 = true
        · -- the bracket closes
          obtain ⟨s1, t1, p1, q1, k1, pl1, a1, b1, j1, fx1, fm1, hk1, -⟩ := b_sign te h (c := 93) (by decide)
          refine ⟨s1, t1, p1, q1, k1, pl1, ?_, ?_, j1, fx1.g, fm1.g, hz.xg fx1, fun e => ⟨rfl, fun _ => (0, 0, 0, 0), N, Nat.le_refl _, ?_, sd.fr fx1 fm1, FB.mf fx1 fm1, ⟨by have := h.le; omega, fun i a b => absurd b (by omega)⟩, by rw [Nat.sub_self]; rfl, by rw [fm1.2 8 (by decide) (by decide) (by decide)]; exact h8⟩⟩
          · rw [bd_Steps_readAgain_L43, if_pos (show Int32.ofNat i < 150 from zl_lt (b := 150) (by omega) (by decide)), c_over te h.1, e_bd, ov0, if_pos (show bI false = 0 from rfl), c_peek te h.1, e_bd, if_pos (show pkI X q 0 = 93 from (pk_sg te (c := 93) (by decide) hpX).mpr cg), show fn_Tape_expect 1 (93 : Int32) s = some s1 from a1, e_bd]
          · rw [bd_M_readsStep_L224, h.2.1.1.2.2.1, if_pos (show Int32.ofNat 0 = 0 from rfl), h.2.1.1.2.1, m_byte te h.2.1 (by omega), e_bd, if_pos (show byI X q = 93 from (sg_by te (c := 93) (by decide)).mpr cg), show fn_M_sign 52 (93 : Int32) t = some t1 from b1, e_bd]
          · have := (hk1 e).2; omega
        · have cgf : sgB X q 0 93 = false := by simpa using cg
          have hfu1 : 1 ≤ fu := by omega
          have hfv1 : 1 ≤ fv := by omega
          obtain ⟨s1, t1, r1, r2, p1, q1, k1, pl1, j1, fx1, fm1, z1, hd1⟩ := hs s t q q N h cx cm sd h8 h6N
          obtain ⟨t2, q2, m2, j2, fm2, hq2⟩ := b_blanks te j1
          have cx1 : CNX s1 H := cx.fr (fx1.1 3 (by decide) (by unfold wkP; omega))
          have cm2 : CNM t2 H := cm.fr (by rw [fm2.1 56 (by decide), fm1.1 56 (by decide) (by unfold wmP; omega)])
          have ec : bd_Steps_readAgain_L43 rs 27 1 3 (Int32.ofNat d) a5 (fun s => Option.bind (fn_Tape_expect 1 (93 : Int32) s) G) (fu + 1) (Int32.ofNat i) s = bd_Steps_readAgain_L43 rs 27 1 3 (Int32.ofNat d) a5 (fun s => Option.bind (fn_Tape_expect 1 (93 : Int32) s) G) fu (Int32.ofNat (i + 1)) s1 := by
            rw [bd_Steps_readAgain_L43, if_pos (show Int32.ofNat i < 150 from zl_lt (b := 150) (by omega) (by decide)), c_over te h.1, e_bd, ov0, if_pos (show bI false = 0 from rfl), c_peek te h.1, e_bd, if_neg (show ¬ pkI X q 0 = 93 from fun e => cg ((pk_sg te (c := 93) (by decide) hpX).mp e)), zi_succ d, r1, e_bd, e_let, zi_succ]
          have em : bd_M_readsStep_L224 rm 52 row (fun t => Option.bind (fn_M_sign 52 (93 : Int32) t) G') (fv + 1) t = bd_M_readsStep_L224 rm 52 row (fun t => Option.bind (fn_M_sign 52 (93 : Int32) t) G') fv t2 := by
            rw [bd_M_readsStep_L224, h.2.1.1.2.2.1, if_pos (show Int32.ofNat 0 = 0 from rfl), h.2.1.1.2.1, m_byte te h.2.1 (by omega), e_bd, if_neg (show ¬ byI X q = 93 from fun e => cg ((sg_by te (c := 93) (by decide)).mp e)), r2, e_bd, m2, e_bd]
          by_cases c1 : k1 = 0
          · obtain ⟨S1, N1, u1, u2, u3, u4, u4b, u5, u6⟩ := hd1 c1
            have hp1X := j1.le
            obtain ⟨s', t', p', q', k', pl', w1, w2, w3, w4, w5, w6, w7⟩ := ih s1 t2 p1 q2 k1 pl1 N1 fu fv (i + 1) (by omega) (by omega) (by omega) j2 hq2 cx1 cm2 z1 (fun _ => ⟨u3.fr XF.refl fm2, by rw [fm2.2 8 (by decide) (by decide) (by decide)]; exact u6, by omega, by omega⟩)
            refine ⟨s', t', p', q', k', pl', ec.trans w1, em.trans w2, w3, fx1.trans w4, (fm1.trans fm2.g).trans w5, w6, fun e => ?_⟩
            obtain ⟨-, S', N', v1, v2, v3, v4, v4b, v5, v6⟩ := w7 e
            have fb12 : FB s1 t1 s' t' N1 := (FB.mf (N := N1) XF.refl fm2).trans v4 (Nat.le_refl _)
            have sa : SXR s' t' (fun i => if i < N1 then S1 i else S' i) N N1 := (u4b.fb fb12 (Nat.le_refl _)).congr (fun i _ hi => if_pos hi)
            have sb : SXR s' t' (fun i => if i < N1 then S1 i else S' i) N1 N' := v4b.congr (fun i hi _ => if_neg (by omega))
            refine ⟨rfl, fun i => if i < N1 then S1 i else S' i, N', by omega, by omega, v3, u4.trans fb12 (by omega), ⟨sb.1, fun i a b => ?_⟩, ?_, v6⟩
            · by_cases e : i < N1
              · exact sa.2 i a e
              · exact sb.2 i (by omega) b
            · have g1 : SEG H (fun i => if i < N1 then S1 i else S' i) (N1 - N) N N1 (d + 1) := SEG.congr _ _ _ _ (fun i _ hi => if_pos hi) u5
              have g2 : SEG H (fun i => if i < N1 then S1 i else S' i) (N' - N1) N1 N' (d + 1) := SEG.congr _ _ _ _ (fun i hi _ => if_neg (by omega)) v5
              rw [show N' - N = (N1 - N) + (N' - N1) by omega]
              exact SEG.app _ _ _ _ _ _ g1 v1 g2
          · have ov1 : ovB X p1 k1 = true := by unfold ovB; rw [decide_eq_true (show k1 ≠ 0 from c1)]; rfl
            obtain ⟨fu, rfl⟩ := Nat.exists_eq_add_of_le' hfu1
            obtain ⟨fv, rfl⟩ := Nat.exists_eq_add_of_le' hfv1
            obtain ⟨s2, a1, a2, a3⟩ := c_noexp te j1.1 c1 (c := 93) (by decide)
            refine ⟨s2, t2, p1, q2, k1, pl1, ?_, em.trans (xm j2.2.1 c1), ⟨a2, j2.2⟩, fx1.trans a3.g, fm1.trans fm2.g, z1.xg a3, fun e => absurd e c1⟩
            rw [ec, xc j1.1 ov1, show fn_Tape_expect 1 (93 : Int32) s1 = some s2 from a1, e_bd]
    · obtain ⟨s2, a1, a2, a3⟩ := c_noexp te h.1 c0 (c := 93) (by decide)
      refine ⟨s2, t, p, q, k, pl, ?_, xm h.2.1 c0, ⟨a2, h.2⟩, a3.g, MG.refl, hz.xg a3, fun e => absurd e c0⟩
      rw [xc h.1 (by unfold ovB; rw [decide_eq_true (show k ≠ 0 from c0)]; rfl), show fn_Tape_expect 1 (93 : Int32) s = some s2 from a1, e_bd]
end WB

/-! LAW: what is read -/
def okr : ab_L → Nat → Nat → Prop
  | [], n, m => n = m
  | q :: t, n, m => if q.1 < 2 then (q.1 = 0 → zB q.2 1000) ∧ (q.1 = 1 → zB q.2 7) ∧ n < 32 ∧ okr t (n + 1) m else q.1 ≤ 8 ∧ 2 ≤ n ∧ okr t (n - 1) m
theorem okr_app : ∀ (a b : ab_L) (n m r : Nat), okr a n m → okr b m r → okr (a ++ b) n r := by
  intro a
  induction a with
  | nil =>
    intro b n m r h1 h2
    have e : n = m := h1
    rw [e]; exact h2
  | cons q t ih =>
    intro b n m r h1 h2
    unfold okr at h1
    show okr (q :: (t ++ b)) n r
    unfold okr
    by_cases c : q.1 < 2
    · rw [if_pos c] at h1 ⊢
      exact ⟨h1.1, h1.2.1, h1.2.2.1, ih b (n + 1) m r h1.2.2.2 h2⟩
    · rw [if_neg c] at h1 ⊢
      exact ⟨h1.1, h1.2.1, ih b (n - 1) m r h1.2.2 h2⟩
theorem okr_okl : ∀ (a : ab_L) (n : Nat), okr a n 1 → okl a n := by
  intro a
  induction a with
  | nil => intro n h; exact h
  | cons q t ih =>
    intro n h
    unfold okr at h
    unfold okl
    by_cases c : q.1 < 2
    · rw [if_pos c] at h ⊢
      exact ⟨h.1, h.2.1, h.2.2.1, ih (n + 1) h.2.2.2⟩
    · rw [if_neg c] at h ⊢
      exact ⟨h.1, h.2.1, ih (n - 1) h.2.2⟩
theorem okr_op {k n : Nat} {v : Int32} (h2 : 2 ≤ k) (h8 : k ≤ 8) : okr [(k, v)] (n + 2) (n + 1) := by
  unfold okr
  rw [if_neg (show ¬ (k, v).1 < 2 by show ¬ k < 2; omega)]
  exact ⟨h8, by omega, by show n + 2 - 1 = n + 1; omega⟩
theorem okr_num {n v : Nat} (hn : n < 32) (hv : v < 1000) : okr [(0, Int32.ofNat v)] n (n + 1) := by
  unfold okr
  rw [if_pos (show (0, Int32.ofNat v).1 < 2 from Nat.zero_lt_two)]
  exact ⟨fun _ => ⟨v, hv, rfl⟩, fun e => (by cases e), hn, rfl⟩
theorem okr_var {n v : Nat} (hn : n < 32) (hv : v < 7) : okr [(1, Int32.ofNat v)] n (n + 1) := by
  unfold okr
  rw [if_pos (show (1, Int32.ofNat v).1 < 2 from Nat.one_lt_two)]
  exact ⟨fun e => (by cases e), fun _ => ⟨v, hv, rfl⟩, hn, rfl⟩
def LD (s t : hp_I) (lw : ab_L) : Prop := s 21 3 = Int32.ofNat lw.length ∧ t 52 16 = Int32.ofNat lw.length ∧ ∀ i (h : i < lw.length), s 23 i = lcode lw[i] ∧ t (317 + i) 0 = Int32.ofNat lw[i].1 ∧ t (317 + i) 1 = lw[i].2
def XL (s s' : hp_I) : Prop := (∀ i, i ≠ 1 → i ≠ 21 → i ≠ 23 → s' i = s i) ∧ s' 1 1 = s 1 1 ∧ ∀ j, j ≠ 3 → s' 21 j = s 21 j
theorem XL.refl {s : hp_I} : XL s s := ⟨fun _ _ _ _ => rfl, rfl, fun _ _ => rfl⟩
theorem XL.trans {a b c : hp_I} (h1 : XL a b) (h2 : XL b c) : XL a c := ⟨fun i u1 u2 u3 => (h2.1 i u1 u2 u3).trans (h1.1 i u1 u2 u3), h2.2.1.trans h1.2.1, fun j hj => (h2.2.2 j hj).trans (h1.2.2 j hj)⟩
theorem XF.l {s s' : hp_I} (h : XF s s') : XL s s' := ⟨fun i u1 _ _ => h.1 i u1, h.2, fun j _ => by rw [h.1 21 (by decide)]⟩
def lwP (i : Nat) : Prop := 317 ≤ i ∧ i < 477
def lwJ (j : Nat) : Prop := j = 8 ∨ j = 16
theorem LD.fr {s t s' t' : hp_I} {lw : ab_L} (h : LD s t lw) (fx : XF s s') (fm : MF t t') : LD s' t' lw := by
  refine ⟨by rw [fx.1 21 (by decide)]; exact h.1, by rw [fm.2 16 (by decide) (by decide) (by decide)]; exact h.2.1, fun i hi => ?_⟩
  rw [fx.1 23 (by decide), fm.1 _ (by omega)]
  exact h.2.2 i hi
theorem LD.sl {s t : hp_I} {lw : ab_L} {j : Nat} {v : Int32} (h : LD s t lw) (hj : j ≠ 16) : LD s (hp_s t 52 j v) lw := by
  refine ⟨h.1, by rw [hs_ne (by omega)]; exact h.2.1, fun i hi => ?_⟩
  rw [hp_s_n (by omega)]
  exact h.2.2 i hi
theorem zB.xf {s s' : hp_I} (h : zB (s 21 3) 151) (fx : XF s s') : zB (s' 21 3) 151 := by rw [fx.1 21 (by decide)]; exact h
theorem lf_2 : sh_rf 21 2 = 23 := by decide +kernel
theorem ln_23 : sh_ln 23 = 150 := by decide +kernel
theorem mf_316 (a : Nat) : sh_rf 316 a = 317 + a := by unfold sh_rf; rw [if_pos (by decide +kernel)]
theorem mn_316 : sh_ln 316 = 160 := by decide +kernel
theorem mn_317 : ∀ a, a < 160 → sh_ln (317 + a) = 2 := by decide +kernel
theorem XT.fr {X : tx} {s s' : hp_I} {p k : Nat} {pl : Int32} (h : XT X s p k pl) (e1 : s' 1 = s 1) (e2 : s' 2 = s 2) : XT X s' p k pl := by
  unfold XT
  rw [e1, e2]
  exact h
section LP
variable {X : tx} {s t : hp_I} {p q k : Nat} {pl : Int32} {lw : ab_L}
theorem c_put {code : Int32} (hz : zB (s 21 3) 151) : ∃ s', fn_Law_put 21 code s = some s' ∧ XL s s' ∧ zB (s' 21 3) 151 ∧ s' 1 = s 1 ∧ s' 2 = s 2 ∧ ∀ m, m < 150 → s 21 3 = Int32.ofNat m → s' 21 3 = Int32.ofNat (m + 1) ∧ s' 23 m = code ∧ ∀ j, j ≠ m → s' 23 j = s 23 j := by
  obtain ⟨m, hm, e⟩ := hz
  unfold fn_Law_put
  rw [e_jn, e]
  by_cases c : m < 150
  · rw [if_pos (show Int32.ofNat m < 150 from zl_lt (b := 150) c (by decide)), lf_2, zi_ast (by rw [ln_23]; exact c) (by omega), e_bd, e_let, hp_s_n (show 21 ≠ 23 by decide), e, zi_succ]
    refine ⟨_, rfl, ⟨fun i _ h2 h3 => by rw [hp_s_n h2, hp_s_n h3], by rw [hp_s_n (by decide), hp_s_n (by decide)], fun j hj => by rw [hs_ne (Or.inr hj), hs_ne (by omega)]⟩, ⟨m + 1, by omega, hs_at⟩, by rw [hp_s_n (by decide), hp_s_n (by decide)], by rw [hp_s_n (by decide), hp_s_n (by decide)], fun m' hm' e' => ?_⟩
    have em : m = m' := by
      rw [zi_inj (by omega) (by omega)] at e'
      exact e'
    subst em
    exact ⟨hs_at, by rw [hs_ne (by omega), hs_at], fun j hj => by rw [hs_ne (by omega), hs_ne (by omega)]⟩
  · rw [if_neg (show ¬ Int32.ofNat m < 150 from zl_nlt (b := 150) (by omega) (by omega))]
    refine ⟨s, rfl, XL.refl, ⟨m, hm, e⟩, rfl, rfl, fun m' hm' e' => ?_⟩
    rw [zi_inj (by omega) (by omega)] at e'
    omega
theorem m_notes0 {m : Nat} {kd v : Int32} (h : t 52 5 = 0) (e : t 52 16 = Int32.ofNat m) (hm : m < 160) : fn_M_notes 52 kd v t = some (hp_s (hp_s (hp_s t (317 + m) 0 kd) (317 + m) 1 v) 52 16 (Int32.ofNat (m + 1))) := by
  unfold fn_M_notes
  rw [if_pos h, sm_18, e, zi_rld (by rw [mn_316]; exact hm) (by omega), e_bd, mf_316, show px_ast t (317 + m) (0 : Int32) kd = some (hp_s t (317 + m) 0 kd) from zi_ast (a := 0) (by rw [mn_317 m hm]; decide) (by decide), e_bd, hp_s_n (show 52 ≠ 317 + m by omega), e, zi_rld (by rw [mn_316]; exact hm) (by omega), e_bd, mf_316, show px_ast (hp_s t (317 + m) 0 kd) (317 + m) (1 : Int32) v = some (hp_s (hp_s t (317 + m) 0 kd) (317 + m) 1 v) from zi_ast (a := 1) (by rw [mn_317 m hm]; decide) (by decide), e_bd, hp_s_n (show 52 ≠ 317 + m by omega), hp_s_n (show 52 ≠ 317 + m by omega), e, zi_succ, e_let]
theorem b_put {kd : Nat} {v code kI : Int32} (h : JT X s t p q k pl) (hz : zB (s 21 3) 151) (hd : k = 0 → LD s t lw ∧ lw.length < 150) (hk : kI = Int32.ofNat kd) (hc : k = 0 → code = lcode (kd, v)) : ∃ s' t', fn_Law_put 21 code s = some s' ∧ fn_M_notes 52 kI v t = some t' ∧ JT X s' t' p q k pl ∧ XL s s' ∧ MG lwP lwJ t t' ∧ zB (s' 21 3) 151 ∧ (k = 0 → LD s' t' (lw ++ [(kd, v)])) ∧ t' 52 8 = t 52 8 := by
  subst hk
  obtain ⟨s', a1, a2, a3, a4, a5, a6⟩ := c_put (s := s) (code := code) hz
  have x' := h.1.fr a4 a5
  by_cases c0 : k = 0
  · obtain ⟨ld, hl⟩ := hd c0
    obtain ⟨b1, b2, b3⟩ := a6 lw.length hl ld.1
    have h5 : t 52 5 = 0 := by rw [h.2.1.1.2.2.1]; exact (k_0 h.2.1.2.2.1).mpr c0
    refine ⟨s', _, a1, m_notes0 h5 ld.2.1 (by omega), ⟨x', ((h.2.1.put (by omega) (by omega)).put (by omega) (by omega)).slot (by decide) (by decide) (by decide) (by decide), h.2.2⟩, a2, ((MG.put (by unfold lwP; omega) (by omega)).trans (MG.put (by unfold lwP; omega) (by omega))).trans (MG.slot (by unfold lwJ; omega)), a3, fun _ => ⟨?_, ?_, fun i hi => ?_⟩, ?_⟩
    · rw [b1, List.length_append]; rfl
    · rw [hs_at, List.length_append]; rfl
    · rw [List.length_append] at hi
      have hi2 : i < lw.length + 1 := hi
      by_cases e : i < lw.length
      · rw [List.getElem_append_left e, b3 i (by omega), hp_s_n (by omega), hp_s_n (by omega), hp_s_n (by omega)]
        exact ld.2.2 i e
      · have e2 : i = lw.length := by omega
        subst e2
        rw [List.getElem_append_right (by omega), b2, hp_s_n (by omega)]
        simp only [Nat.sub_self, List.getElem_singleton]
        exact ⟨hc c0, by rw [hs_ne (by omega), hs_at], by rw [hs_at]⟩
    · rw [hs_ne (by omega), hs_ne (by omega), hs_ne (by omega)]
  · refine ⟨s', t, a1, ?_, ⟨x', h.2⟩, a2, MG.refl, a3, fun e => absurd e c0, rfl⟩
    unfold fn_M_notes
    rw [h.2.1.1.2.2.1, if_neg (fun e => c0 ((k_0 h.2.1.2.2.1).mp e))]
theorem m_opens6 (h : MT X t p 0 (-1)) (e : t 52 8 = Int32.ofNat 6) : ∃ t', fn_M_opensOne 52 t = some (0, t') ∧ MT X t' p 3 (Int32.ofNat p) ∧ MF t t' := by
  obtain ⟨t', b1, b2, b3⟩ := m_wrong0 h (kd := 3) (by decide) (Int32.ofNat p)
  refine ⟨t', ?_, b2, b3⟩
  unfold fn_M_opensOne
  rw [e_jn, e_jn, h.1.2.2.1, if_pos (show Int32.ofNat 0 = 0 from rfl), e, if_pos (show Int32.ofNat 6 = 6 from rfl), h.1.2.1, show fn_M_wrong 52 (3 : Int32) (Int32.ofNat p) t = some t' from b1, e_bd]; try dsimp only; rw [e_jn, b2.1.2.2.1, if_neg (show ¬ Int32.ofNat 3 = 0 from by decide)]; try dsimp only; rw [e_z0]
theorem m_opens {d : Nat} (h : MT X t p 0 (-1)) (e : t 52 8 = Int32.ofNat d) (hd : d < 6) : fn_M_opensOne 52 t = some (1, hp_s t 52 8 (Int32.ofNat (d + 1))) := by
  unfold fn_M_opensOne
  rw [e_jn, e_jn, h.1.2.2.1, if_pos (show Int32.ofNat 0 = 0 from rfl), if_pos (show Int32.ofNat 0 = 0 from rfl), e, if_neg (show ¬ Int32.ofNat d = 6 from zl_ne (b := 6) (by omega) (by omega) (by decide)), zi_succ, e_let]; try dsimp only; rw [e_jn, hs_ne (by omega), h.1.2.2.1, if_pos (show Int32.ofNat 0 = 0 from rfl)]; try dsimp only; rw [e_z1]
theorem wd_L (te : TE X) {W : List Int32} {w : List Nat} {a b c d e f : Int32} (hw : WD W w a b c d e f) (g : wdB X p k w = true) : isL X p = true := by
  have h1 := (wd_end te hw.2.1 g).1
  have h0 := hw.2.2.2.2.2
  exact lE_all (i := p) (j := p) (Nat.le_refl _) (by omega)
theorem L_nD (h : isL X p = true) : isD X p = false := by
  have h1 := isL_b h
  unfold isD
  rw [decide_eq_false (show ¬ X.1 p ≤ 57 by omega), Bool.and_false, Bool.and_false]
theorem L_nS {c : Nat} (h : isL X p = true) (hc : c < 97) : sgB X p k c = false := by
  have h1 := isL_b h
  unfold sgB
  rw [decide_eq_false (show ¬ X.1 p = c by omega), Bool.and_false, Bool.and_false]
theorem S_nL {c : Nat} (h : sgB X p k c = true) (hc : c < 97) : isL X p = false := by
  have h1 := (sg_0 h).2.2
  unfold isL
  rw [decide_eq_false (show ¬ 97 ≤ X.1 p by omega), Bool.false_and, Bool.and_false]
theorem nL_wd (te : TE X) {W : List Int32} {w : List Nat} {a b c d e f : Int32} (hw : WD W w a b c d e f) (h : isL X p = false) : wdB X p k w = false := by
  cases g : wdB X p k w with
  | false => rfl
  | true => rw [wd_L te hw g] at h; cases h
theorem D_nL (h : isD X p = true) : isL X p = false := by
  cases g : isL X p with
  | false => rfl
  | true => rw [L_nD g] at h; cases h
/-- the model takes a word -/
theorem b_takesW (te : TE X) (h : JT X s t p q 0 (-1)) {W : List Int32} {w : List Nat} {a b c d e f : Int32} (hw : WD W w a b c d e f) : (wdB X p 0 w = true ∧ ∃ s' t' p' q', fn_Tape_takesWord 1 W s = some (1, s') ∧ fn_M_takes 52 a b c d e f t = some (1, t') ∧ JT X s' t' p' q' 0 (-1) ∧ p < p' ∧ XF s s' ∧ MF t t') ∨ (wdB X p 0 w = false ∧ ∃ s' t' q', fn_Tape_takesWord 1 W s = some (0, s') ∧ fn_M_takes 52 a b c d e f t = some (0, t') ∧ JT X s' t' p q' 0 (-1) ∧ q' = p ∧ XF s s' ∧ MF t t') := by
  obtain ⟨s1, t1, q1, a1, b1, f1, g1, fx1, fm1, e1⟩ := b_word te h hw
  cases c1 : wdB X p 0 w with
  | true =>
    left
    rw [c1] at a1 b1
    obtain ⟨x2, m2⟩ := g1 c1
    obtain ⟨t2, k1, k2, k3, k4⟩ := b_skip te x2 m2 hw c1
    refine ⟨rfl, s1, t2, _, _, a1, ?_, k2, k4, fx1, fm1.trans k3⟩
    unfold fn_M_takes
    rw [b1, e_b2, e_let, e_jn, if_neg (show ¬ bI true = 0 from by decide), k1, e_bd]
    rfl
  | false =>
    right
    rw [c1] at a1 b1
    refine ⟨rfl, s1, t1, q1, a1, ?_, f1 c1, e1 rfl, fx1, fm1⟩
    unfold fn_M_takes
    rw [b1, e_b2, e_let, e_jn, if_pos (show bI false = 0 from rfl)]
    rfl
end LP

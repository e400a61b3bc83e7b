/-! WORK: one step done, class and model -/
theorem less_min (v : Int32) : (if (999 : Int32) < v then 999 else v) = px_min 999 v := by
  unfold px_min
  by_cases h : (999 : Int32) < v
  · rw [if_pos h, if_neg (fun e => absurd (Int32.lt_trans h e) Int32.lt_irrefl)]
  · rw [if_neg h]
    by_cases h2 : v < 999
    · rw [if_pos h2]
    · rw [if_neg h2]
      exact Int32.le_antisymm (Int32.not_lt.mp h) (Int32.not_lt.mp h2)
def jnB (ρ : ab_R) (a b : Nat) : Bool := decide (a ≠ b) && (hasB (ρ 1) a && (hasB (ρ 1) b && decide (ρ (5 + a) = ρ (5 + b))))
def jnR (ρ : ab_R) (a b : Nat) : ab_R := upd (upd (upd ρ (13 + a) (px_min 999 (ρ (13 + a) + ρ (13 + b)))) 1 (ρ 1 &&& (bitI b ^^^ (-1 : Int32)))) 3 (ρ 3 ||| bitI b)
def fdB (ρ : ab_R) (a : Nat) : Bool := hasB (ρ 1) a && decide (ρ (13 + a) ≠ 999)
def stC (H : ab_H) (k a b : Nat) (ρ : ab_R) : Bool := match k with
  | 0 => hasB (ρ 1) a && hasB (sp_bes H ρ (ρ (5 + a))) b
  | 1 => hasB (sp_bes H ρ (ρ (37 + a))) b
  | 2 => fdB ρ a
  | 3 => jnB ρ a b
  | 4 => true
  | _ => !decide ((900 : Int32) ≤ ρ 0)
def stR (H : ab_H) (lw : ab_L) (k a b : Nat) (ρ : ab_R) : ab_R := match k with
  | 0 => if hasB (ρ 1) a = true then sp_hide H 5 a b ρ else ρ
  | 1 => sp_hide H 37 a b ρ
  | 2 => if fdB ρ a = true then upd ρ (13 + a) (px_min 999 (ρ (13 + a) + Int32.ofNat b)) else ρ
  | 3 => if jnB ρ a b = true then jnR ρ a b else ρ
  | 4 => upd ρ 4 (ρ 4 ^^^ bitI a)
  | _ => if (900 : Int32) ≤ ρ 0 then ρ else sp_night H lw ρ
def stV (H : ab_H) (k a b : Nat) : Prop := (k = 0 ∧ a < hS H ∧ b < hR H) ∨ (k = 1 ∧ a < hC H ∧ b < hR H) ∨ (k = 2 ∧ a < hS H ∧ 1 ≤ b ∧ b ≤ 60) ∨ (k = 3 ∧ a < hS H ∧ b < hS H) ∨ (k = 4 ∧ a < hW H) ∨ k = 5
section WK
variable {s t : hp_I} {H : ab_H} {lw : ab_L} {ρ : ab_R} {k a b : Nat}
theorem rok_free {v : Int32} {j : Nat} (hj : j = 3 ∨ j = 4) (ro : ROK H ρ) : ROK H (upd ρ j v) := by
  obtain ⟨r1, r2, r3, r4, r5⟩ := ro
  refine ⟨fun s hs => ?_, fun c hc => ?_, ?_, ?_, ?_⟩
  · rw [upd_n (by omega), upd_n (by omega)]; exact r1 s hs
  · rw [upd_n (by omega)]; exact r2 c hc
  · rw [upd_n (by omega)]; exact r3
  · rw [upd_n (by omega)]; exact r4
  · rw [upd_n (by omega), upd_n (by omega)]; exact r5
theorem rok_live {w : Int32} (ok : HOK H) (ro : ROK H ρ) : ROK H (upd ρ 1 (ρ 1 &&& w)) := by
  obtain ⟨r1, r2, r3, r4, r5⟩ := ro
  have h8 := ok.2.2.1
  have hp : 2 ^ hS H ≤ 2147483648 := Nat.le_trans (Nat.pow_le_pow_right (by decide) h8) (by decide)
  refine ⟨fun s hs => ?_, fun c hc => ?_, ?_, ?_, ?_⟩
  · rw [upd_n (by omega), upd_n (by omega)]; exact r1 s hs
  · rw [upd_n (by omega)]; exact r2 c hc
  · rw [upd_i]; exact zB_and hp r3
  · rw [upd_n (by omega)]; exact r4
  · rw [upd_i, upd_n (by omega), Int32.and_assoc, Int32.and_comm w, ← Int32.and_assoc, r5, Int32.zero_and]
theorem rok_stR (ok : HOK H) (ro : ROK H ρ) (v : stV H k a b) : ROK H (stR H lw k a b ρ) := by
  rcases v with ⟨rfl, h1, h2⟩ | ⟨rfl, h1, h2⟩ | ⟨rfl, h1, h2, h3⟩ | ⟨rfl, h1, h2⟩ | ⟨rfl, h1⟩ | rfl
  · show ROK H (if hasB (ρ 1) a = true then sp_hide H 5 a b ρ else ρ)
    split
    · exact rok_hide ok ro h1 h2
    · exact ro
  · exact rok_call ok ro h1 h2
  · show ROK H (if fdB ρ a = true then upd ρ (13 + a) (px_min 999 (ρ (13 + a) + Int32.ofNat b)) else ρ)
    split
    · obtain ⟨z, z1, z2, z3⟩ := (ro.1 a h1).2
      refine rok_size ok ro h1 ?_
      rw [z3]
      exact min_size z1 z2 (by omega)
    · exact ro
  · show ROK H (if jnB ρ a b = true then jnR ρ a b else ρ)
    split
    · obtain ⟨z, z1, z2, z3⟩ := (ro.1 a h1).2
      obtain ⟨y, y1, y2, y3⟩ := (ro.1 b h2).2
      have r1 : ROK H (upd ρ (13 + a) (px_min 999 (ρ (13 + a) + ρ (13 + b)))) := by
        refine rok_size ok ro h1 ?_
        rw [z3, y3]
        exact min_size z1 z2 (by omega)
      have r2 := rok_live (w := bitI b ^^^ (-1 : Int32)) ok r1
      rw [show upd ρ (13 + a) (px_min 999 (ρ (13 + a) + ρ (13 + b))) 1 = ρ 1 from upd_n (by omega)] at r2
      exact rok_free (Or.inl rfl) r2
    · exact ro
  · exact rok_free (Or.inr rfl) ro
  · show ROK H (if (900 : Int32) ≤ ρ 0 then ρ else sp_night H lw ρ)
    split
    · exact ro
    · exact rok_night ok ro
theorem xs_feedS (rx : RX s 33 H ρ) (ok : HOK H) (h1 : a < hS H) : ∃ s', fn_State_feedScheme 32 (Int32.ofNat a) (Int32.ofNat b) s = some (bI (fdB ρ a), s') ∧ RX s' 33 H (if fdB ρ a = true then upd ρ (13 + a) (px_min 999 (ρ (13 + a) + Int32.ofNat b)) else ρ) ∧ Fc [33] s s' := by
  have so := so_32
  unfold fn_State_feedScheme fdB
  rw [xs_lives so rx, e_bd, e_jn, bI_if, xs_size so rx ok a h1, e_bd, xs_enlarge so rx ok a h1, e_bd, e_z0, e_z1]
  by_cases c1 : hasB (ρ 1) a = true
  · rw [if_pos c1, c1, Bool.true_and]
    by_cases c2 : ρ (13 + a) = 999
    · rw [if_pos c2, decide_eq_false (fun e => e c2)]
      exact ⟨s, rfl, rx, Fc.refl⟩
    · rw [if_neg c2, decide_eq_true c2]
      exact ⟨_, rfl, rx.put, Fc.put (by simp)⟩
  · rw [if_neg c1]
    rw [Bool.not_eq_true] at c1
    rw [c1, Bool.false_and]
    exact ⟨s, rfl, rx, Fc.refl⟩
theorem xs_joinS (rx : RX s 33 H ρ) (ok : HOK H) (h1 : a < hS H) (h2 : b < hS H) : ∃ s', fn_State_joinSchemes 32 (Int32.ofNat a) (Int32.ofNat b) s = some (bI (jnB ρ a b), s') ∧ RX s' 33 H (if jnB ρ a b = true then jnR ρ a b else ρ) ∧ Fc [33] s s' := by
  have so := so_32
  have h8 := ok.2.2.1
  unfold fn_State_joinSchemes jnB
  rw [e_jn, e_z0]
  have no : ∀ {x : Bool}, x = false → ∃ s', some ((0 : Int32), s) = some (bI x, s') ∧ RX s' 33 H (if x = true then jnR ρ a b else ρ) ∧ Fc [33] s s' := fun {x} hx => by
    rw [hx]
    exact ⟨s, rfl, rx, Fc.refl⟩
  by_cases c0 : a = b
  · rw [if_pos (by rw [c0])]
    exact no (by rw [decide_eq_false (fun e => e c0), Bool.false_and])
  · rw [if_neg (zl_ne c0 (by omega) (by omega)), xs_lives so rx, e_bd, bI_if]
    by_cases c1 : hasB (ρ 1) a = true
    · rw [if_pos c1, xs_lives so rx, e_bd, bI_if]
      by_cases c2 : hasB (ρ 1) b = true
      · rw [if_pos c2, xs_roomOf so rx ok a h1, e_bd, xs_roomOf so rx ok b h2, e_bd]
        by_cases c3 : ρ (5 + a) = ρ (5 + b)
        · have rx1 := rx.put (k := 13 + a) (v := px_min 999 (ρ (13 + a) + ρ (13 + b)))
          have e1 : upd ρ (13 + a) (px_min 999 (ρ (13 + a) + ρ (13 + b))) 1 = ρ 1 := upd_n (by omega)
          have rx2 := rx1.put (k := 1) (v := ρ 1 &&& (bitI b ^^^ (-1 : Int32)))
          have e3 : upd (upd ρ (13 + a) (px_min 999 (ρ (13 + a) + ρ (13 + b)))) 1 (ρ 1 &&& (bitI b ^^^ (-1 : Int32))) 3 = ρ 3 := by rw [upd_n (by omega), upd_n (by omega)]
          rw [if_pos c3, xs_size so rx ok b h2, e_bd, xs_enlarge so rx ok a h1, e_bd, so.2.2.1, rx_1 rx1, e_bd, e1, show ∀ v : Int32, px_ast (hp_s s 33 (13 + a) (px_min 999 (ρ (13 + a) + ρ (13 + b)))) 33 (1 : Int32) v = _ from fun v => rx_w0 (k := 1) so (by decide), e_bd]
          rw [show px_ald (hp_s (hp_s s 33 (13 + a) (px_min 999 (ρ (13 + a) + ρ (13 + b)))) 33 1 (ρ 1 &&& ((1 : Int32) <<< (Int32.ofNat b &&& 31) ^^^ (-1 : Int32)))) 33 (3 : Int32) = some (ρ 3) from by rw [← e3]; exact rx_3 rx2, e_bd, show ∀ (f : hp_I) (v : Int32), px_ast f 33 (3 : Int32) v = some (hp_s f 33 3 v) from fun f v => rx_w0 (k := 3) so (by decide), e_bd, e_z1, c1, c2, decide_eq_true c0, decide_eq_true c3]
          exact ⟨_, rfl, rx2.put, ((Fc.put (by simp)).trans (Fc.put (by simp))).trans (Fc.put (by simp))⟩
        · rw [if_neg c3]
          exact no (by rw [decide_eq_false c3, Bool.and_false, Bool.and_false, Bool.and_false])
      · rw [if_neg c2]
        rw [Bool.not_eq_true] at c2
        exact no (by rw [c2, Bool.false_and, Bool.and_false, Bool.and_false])
    · rw [if_neg c1]
      rw [Bool.not_eq_true] at c1
      exact no (by rw [c1, Bool.false_and, Bool.and_false])
theorem xs_done (hx : HX s H) (lx : LX s lw) (rx : RX s 33 H ρ) (ok : HOK H) (lo : LOK lw) (ro : ROK H ρ) (v : stV H k a b) : ∃ s', fn_Steps_isDone 32 (Int32.ofNat k) (Int32.ofNat a) (Int32.ofNat b) s = some (bI (stC H k a b ρ), s') ∧ RX s' 33 H (stR H lw k a b ρ) ∧ Fc [33, 34, 24, 25] s s' := by
  have so := so_32
  have up : ∀ {s' : hp_I}, Fc [33] s s' → Fc [33, 34, 24, 25] s s' := fun h => h.mono (by intro i hi; simp at hi; simp [hi])
  unfold fn_Steps_isDone
  rcases v with ⟨rfl, h1, h2⟩ | ⟨rfl, h1, h2⟩ | ⟨rfl, h1, h2, h3⟩ | ⟨rfl, h1, h2⟩ | ⟨rfl, h1⟩ | rfl
  · obtain ⟨v, s', a1, a2, a3, a4⟩ := xs_hide so hx rx ok (t := a) (q := b) h1
    rw [e_swc, if_pos (show Int32.ofNat 0 = 0 from rfl), a1, e_b2, a2, bI_z]
    exact ⟨s', rfl, a3, up a4⟩
  · obtain ⟨v, s', a1, a2, a3, a4⟩ := xs_call so hx rx ok (t := a) (q := b) h1
    rw [e_swc, if_neg (show ¬ Int32.ofNat 1 = 0 from by decide), e_swc, if_pos (show Int32.ofNat 1 = 1 from rfl), a1, e_b2, a2, bI_z]
    exact ⟨s', rfl, a3, up a4⟩
  · obtain ⟨s', a1, a3, a4⟩ := xs_feedS (b := b) rx ok h1
    rw [e_swc, if_neg (show ¬ Int32.ofNat 2 = 0 from by decide), e_swc, if_neg (show ¬ Int32.ofNat 2 = 1 from by decide), e_swc, if_pos (show Int32.ofNat 2 = 2 from rfl), a1, e_b2, bI_z]
    exact ⟨s', rfl, a3, up a4⟩
  · obtain ⟨s', a1, a3, a4⟩ := xs_joinS rx ok h1 h2
    rw [e_swc, if_neg (show ¬ Int32.ofNat 3 = 0 from by decide), e_swc, if_neg (show ¬ Int32.ofNat 3 = 1 from by decide), e_swc, if_neg (show ¬ Int32.ofNat 3 = 2 from by decide), e_swc, if_pos (show Int32.ofNat 3 = 3 from rfl), a1, e_b2, bI_z]
    exact ⟨s', rfl, a3, up a4⟩
  · rw [e_swc, if_neg (show ¬ Int32.ofNat 4 = 0 from by decide), e_swc, if_neg (show ¬ Int32.ofNat 4 = 1 from by decide), e_swc, if_neg (show ¬ Int32.ofNat 4 = 2 from by decide), e_swc, if_neg (show ¬ Int32.ofNat 4 = 3 from by decide), e_swc, if_pos (show Int32.ofNat 4 = 4 from rfl)]
    unfold fn_State_turnWay
    rw [so.2.2.1, rx_4 rx, e_bd, show ∀ v : Int32, px_ast s 33 (4 : Int32) v = some (hp_s s 33 4 v) from fun v => rx_w0 (k := 4) so (by decide), e_bd, e_z1, e_b2, e_z1]
    exact ⟨_, rfl, rx.put, up (Fc.put (by simp))⟩
  · rw [e_swc, if_neg (show ¬ Int32.ofNat 5 = 0 from by decide), e_swc, if_neg (show ¬ Int32.ofNat 5 = 1 from by decide), e_swc, if_neg (show ¬ Int32.ofNat 5 = 2 from by decide), e_swc, if_neg (show ¬ Int32.ofNat 5 = 3 from by decide), e_swc, if_neg (show ¬ Int32.ofNat 5 = 4 from by decide), e_swn, xs_night so rx, e_bd]
    by_cases c : (900 : Int32) ≤ ρ 0
    · rw [if_pos c, e_z0]
      refine ⟨s, ?_, ?_, Fc.refl⟩
      · show _ = some (bI (!decide ((900 : Int32) ≤ ρ 0)), s)
        rw [decide_eq_true c]; rfl
      · show RX s 33 H (if (900 : Int32) ≤ ρ 0 then ρ else sp_night H lw ρ)
        rw [if_pos c]; exact rx
    · obtain ⟨s', a1, a2, a3, -⟩ := xs_passNight so hx lx rx ok lo ro
      rw [if_neg c, a1, e_b2, e_z1]
      refine ⟨s', ?_, ?_, a3⟩
      · show _ = some (bI (!decide ((900 : Int32) ≤ ρ 0)), s')
        rw [decide_eq_false c]; rfl
      · show RX s' 33 H (if (900 : Int32) ≤ ρ 0 then ρ else sp_night H lw ρ)
        rw [if_neg c]; exact a2
/-! the model -/
theorem ms_joinS (rm : RM t 572 H ρ) (ok : HOK H) (h1 : a < hS H) (h2 : b < hS H) : ∃ t', fn_M_joins 52 572 (Int32.ofNat a) (Int32.ofNat b) t = some (bI (jnB ρ a b), t') ∧ RM t' 572 H (if jnB ρ a b = true then jnR ρ a b else ρ) ∧ Fc [572] t t' := by
  have h8 := ok.2.2.1
  unfold fn_M_joins jnB
  rw [e_jn, e_z0]
  have no : ∀ {x : Bool}, x = false → ∃ t', some ((0 : Int32), t) = some (bI x, t') ∧ RM t' 572 H (if x = true then jnR ρ a b else ρ) ∧ Fc [572] t t' := fun {x} hx => by
    rw [hx]
    exact ⟨t, rfl, rm, Fc.refl⟩
  by_cases c0 : a = b
  · rw [if_pos (by rw [c0])]
    exact no (by rw [decide_eq_false (fun e => e c0), Bool.false_and])
  · rw [if_neg (zl_ne c0 (by omega) (by omega)), ms_lives rm, e_bd, bI_if]
    by_cases c1 : hasB (ρ 1) a = true
    · rw [if_pos c1, ms_lives rm, e_bd, bI_if]
      by_cases c2 : hasB (ρ 1) b = true
      · rw [if_pos c2, rm_5 rm ok a h1, e_bd, rm_5 rm ok b h2, e_bd]
        by_cases c3 : ρ (5 + a) = ρ (5 + b)
        · have rm1 := rm.putS (k := 13) (b := 8) (q := a) (v := px_min 999 (ρ (13 + a) + ρ (13 + b))) ok (by omega) (by decide) rfl
          have e1 : upd ρ (13 + a) (px_min 999 (ρ (13 + a) + ρ (13 + b))) 1 = ρ 1 := upd_n (by omega)
          have rm2 := rm1.put (k := 1) (v := ρ 1 &&& (bitI b ^^^ (-1 : Int32))) ok (by decide)
          have e3 : upd (upd ρ (13 + a) (px_min 999 (ρ (13 + a) + ρ (13 + b)))) 1 (ρ 1 &&& (bitI b ^^^ (-1 : Int32))) 3 = ρ 3 := by rw [upd_n (by omega), upd_n (by omega)]
          have rm3 := rm2.put (k := 3) (v := ρ 3 ||| bitI b) ok (by decide)
          have hw42 : ∀ (f : hp_I) (v : Int32), px_ast f 572 (42 : Int32) v = some (hp_s f 572 42 v) := fun f v => zi_ast (a := 42) (by rw [rm.1]; decide) (by decide)
          have hw44 : ∀ (f : hp_I) (v : Int32), px_ast f 572 (44 : Int32) v = some (hp_s f 572 44 v) := fun f v => zi_ast (a := 44) (by rw [rm.1]; decide) (by decide)
          rw [if_pos c3, rm_13 rm ok a h1, e_bd, rm_13 rm ok b h2, e_bd, ms_less, less_min, e_bd, show px_ast t 572 ((8 : Int32) + Int32.ofNat a) (px_min 999 (ρ (13 + a) + ρ (13 + b))) = _ from rm_w (k := 8) rm (by omega), e_bd, rm_1 rm1, e_bd, e1, hw42, e_bd]
          rw [show px_ald (hp_s (hp_s t 572 (8 + a) (px_min 999 (ρ (13 + a) + ρ (13 + b)))) 572 42 (ρ 1 &&& ((1 : Int32) <<< (Int32.ofNat b &&& 31) ^^^ (-1 : Int32)))) 572 (44 : Int32) = some (ρ 3) from by rw [← e3]; exact rm_3 rm2, e_bd, hw44, e_bd, e_z1, c1, c2, decide_eq_true c0, decide_eq_true c3]
          exact ⟨_, rfl, rm3, ((Fc.put (by simp)).trans (Fc.put (by simp))).trans (Fc.put (by simp))⟩
        · rw [if_neg c3]
          exact no (by rw [decide_eq_false c3, Bool.and_false, Bool.and_false, Bool.and_false])
      · rw [if_neg c2]
        rw [Bool.not_eq_true] at c2
        exact no (by rw [c2, Bool.false_and, Bool.and_false, Bool.and_false])
    · rw [if_neg c1]
      rw [Bool.not_eq_true] at c1
      exact no (by rw [c1, Bool.false_and, Bool.and_false])
theorem ms_does {r : Nat} (hm : HM t H) (lm : LM t lw) (rm : RM t 572 H ρ) (ok : HOK H) (lo : LOK lw) (ro : ROK H ρ) (v : stV H k a b) (hr : sh_ln r = 4) (r0 : t r 0 = Int32.ofNat k) (r1 : k ≠ 5 → t r 1 = Int32.ofNat a) (r2 : k < 4 → t r 2 = Int32.ofNat b) : ∃ t', fn_M_does 52 572 r t = some (bI (stC H k a b ρ), t') ∧ RM t' 572 H (stR H lw k a b ρ) ∧ Fc [572, 489, 490] t t' := by
  have h8 := ok.2.2.1
  have h5 := ok.2.2.2.1
  have up : ∀ {t' : hp_I}, Fc [572] t t' → Fc [572, 489, 490] t t' := fun h => h.mono (by intro i hi; simp at hi; simp [hi])
  have l0 : px_ald t r (0 : Int32) = some (Int32.ofNat k) := by rw [← r0]; exact zi_ald (a := 0) (by rw [hr]; decide) (by decide)
  have l1 : px_ald t r (1 : Int32) = some (t r 1) := zi_ald (a := 1) (by rw [hr]; decide) (by decide)
  have l2 : px_ald t r (2 : Int32) = some (t r 2) := zi_ald (a := 2) (by rw [hr]; decide) (by decide)
  unfold fn_M_does
  rw [l1, e_bd, e_let, l0, e_bd, l2]
  rcases v with ⟨rfl, h1, h2⟩ | ⟨rfl, h1, h2⟩ | ⟨rfl, h1, h2, h3⟩ | ⟨rfl, h1, h2⟩ | ⟨rfl, h1⟩ | rfl
  · rw [r1 (by decide), r2 (by decide), e_swc, if_pos (show Int32.ofNat 0 = 0 from rfl), ms_lives rm, e_bd, e_jn, e_jn, bI_if]
    show ∃ t', _ = some (bI (hasB (ρ 1) a && hasB (sp_bes H ρ (ρ (5 + a))) b), t') ∧ RM t' 572 H (if hasB (ρ 1) a = true then sp_hide H 5 a b ρ else ρ) ∧ _
    by_cases c1 : hasB (ρ 1) a = true
    · obtain ⟨t', a1, a2, a3⟩ := ms_goes hm rm ok (k := 5) (b := 0) (t := a) (q := b) rfl (by decide) (Or.inr (Or.inl (by omega))) h2
      rw [if_pos c1, e_bd, show fn_M_goesTo 52 572 ((0 : Int32) + Int32.ofNat a) (Int32.ofNat b) t = _ from a1, e_b2, c1, Bool.true_and, if_pos rfl]
      refine ⟨t', ?_, a2, up a3⟩
      cases hasB (sp_bes H ρ (ρ (5 + a))) b <;> rfl
    · rw [if_neg c1, if_neg c1]
      rw [Bool.not_eq_true] at c1
      rw [c1, Bool.false_and]
      exact ⟨t, rfl, rm, Fc.refl⟩
  · obtain ⟨t', a1, a2, a3⟩ := ms_goes hm rm ok (k := 37) (b := 32) (t := a) (q := b) rfl (by decide) (Or.inr (Or.inr (Or.inr (Or.inr (Or.inr (Or.inl (by omega))))))) h2
    rw [r1 (by decide), r2 (by decide), e_swc, if_neg (show ¬ Int32.ofNat 1 = 0 from by decide), e_swc, if_pos (show Int32.ofNat 1 = 1 from rfl), e_bd, show fn_M_goesTo 52 572 ((32 : Int32) + Int32.ofNat a) (Int32.ofNat b) t = _ from a1, e_b2, bI_z]
    exact ⟨t', rfl, a2, up a3⟩
  · rw [r1 (by decide), r2 (by decide), e_swc, if_neg (show ¬ Int32.ofNat 2 = 0 from by decide), e_swc, if_neg (show ¬ Int32.ofNat 2 = 1 from by decide), e_swc, if_pos (show Int32.ofNat 2 = 2 from rfl), ms_lives rm, e_bd, e_jn, e_jn, bI_if]
    show ∃ t', _ = some (bI (fdB ρ a), t') ∧ RM t' 572 H (if fdB ρ a = true then upd ρ (13 + a) (px_min 999 (ρ (13 + a) + Int32.ofNat b)) else ρ) ∧ _
    unfold fdB
    by_cases c1 : hasB (ρ 1) a = true
    · obtain ⟨z, z1, z2, z3⟩ := (ro.1 a h1).2
      unfold fn_M_becomes
      rw [if_pos c1, rm_13 rm ok a h1, e_bd, e_bd, ms_less, less_min, e_bd, e_bd, c1, Bool.true_and]
      have hmin : (ρ (13 + a) = px_min 999 (ρ (13 + a) + Int32.ofNat b)) ↔ ρ (13 + a) = 999 := by
        rw [z3, zi_add, show (999 : Int32) = Int32.ofNat 999 from rfl, min_of (by decide) (by omega), zi_inj (by omega) (by omega), zi_inj (by omega) (by decide)]
        omega
      by_cases c2 : ρ (13 + a) = 999
      · rw [if_pos (hmin.mpr c2), e_z0, e_b2, if_pos rfl, decide_eq_false (fun e => e c2)]
        exact ⟨t, rfl, rm, Fc.refl⟩
      · rw [if_neg (fun e => c2 (hmin.mp e)), show px_ast t 572 ((8 : Int32) + Int32.ofNat a) (px_min 999 (ρ (13 + a) + Int32.ofNat b)) = _ from rm_w (k := 8) rm (by omega), e_bd, e_z1, e_b2, if_neg (show ¬ (1 : Int32) = 0 from by decide), decide_eq_true c2]
        exact ⟨_, rfl, rm.putS (k := 13) ok (by omega) (by decide) rfl, up (Fc.put (by simp))⟩
    · rw [if_neg c1]
      rw [Bool.not_eq_true] at c1
      rw [c1, Bool.false_and]
      exact ⟨t, rfl, rm, Fc.refl⟩
  · obtain ⟨t', a1, a3, a4⟩ := ms_joinS rm ok h1 h2
    rw [r1 (by decide), r2 (by decide), e_swc, if_neg (show ¬ Int32.ofNat 3 = 0 from by decide), e_swc, if_neg (show ¬ Int32.ofNat 3 = 1 from by decide), e_swc, if_neg (show ¬ Int32.ofNat 3 = 2 from by decide), e_swc, if_pos (show Int32.ofNat 3 = 3 from rfl), e_bd, a1, e_b2, bI_z]
    exact ⟨t', rfl, a3, up a4⟩
  · have hne : ¬ ρ 4 = ρ 4 ^^^ ((1 : Int32) <<< (Int32.ofNat a &&& 31)) := fun e => by
      have h12 := ok.2.1
      have e1 : bitI a = 0 := by
        have e0 : ρ 4 ^^^ ρ 4 = ρ 4 ^^^ (ρ 4 ^^^ bitI a) := congrArg (fun x => ρ 4 ^^^ x) e
        rw [← Int32.xor_assoc, Int32.xor_self, Int32.zero_xor] at e0
        exact e0.symm
      have e2 := hasB_bit (j := a) (k := a) (by omega) (by omega)
      rw [e1, hasB_zero (by omega), decide_eq_true rfl] at e2
      cases e2
    rw [r1 (by decide), e_swc, if_neg (show ¬ Int32.ofNat 4 = 0 from by decide), e_swc, if_neg (show ¬ Int32.ofNat 4 = 1 from by decide), e_swc, if_neg (show ¬ Int32.ofNat 4 = 2 from by decide), e_swc, if_neg (show ¬ Int32.ofNat 4 = 3 from by decide), e_swc, if_pos (show Int32.ofNat 4 = 4 from rfl), rm_4 rm, e_bd]
    unfold fn_M_becomes
    rw [rm_4 rm, e_bd, if_neg hne, show ∀ v : Int32, px_ast t 572 (45 : Int32) v = some (hp_s t 572 45 v) from fun v => zi_ast (a := 45) (by rw [rm.1]; decide) (by decide), e_bd, e_z1, e_b2, e_z1]
    exact ⟨_, rfl, rm.put (k := 4) ok (by decide), up (Fc.put (by simp))⟩
  · rw [e_swc, if_neg (show ¬ Int32.ofNat 5 = 0 from by decide), e_swc, if_neg (show ¬ Int32.ofNat 5 = 1 from by decide), e_swc, if_neg (show ¬ Int32.ofNat 5 = 2 from by decide), e_swc, if_neg (show ¬ Int32.ofNat 5 = 3 from by decide), e_swc, if_neg (show ¬ Int32.ofNat 5 = 4 from by decide), e_swn, rm_0 rm, e_bd]
    by_cases c : (900 : Int32) ≤ ρ 0
    · rw [if_pos c, e_z0]
      refine ⟨t, ?_, ?_, Fc.refl⟩
      · show _ = some (bI (!decide ((900 : Int32) ≤ ρ 0)), t)
        rw [decide_eq_true c]; rfl
      · show RM t 572 H (if (900 : Int32) ≤ ρ 0 then ρ else sp_night H lw ρ)
        rw [if_pos c]; exact rm
    · obtain ⟨t', a1, a2, a3⟩ := ms_nightEnds (m := 572) (Or.inl rfl) hm lm rm ok lo ro
      rw [if_neg c, a1, e_bd, e_z1]
      refine ⟨t', ?_, ?_, a3⟩
      · show _ = some (bI (!decide ((900 : Int32) ≤ ρ 0)), t')
        rw [decide_eq_false c]; rfl
      · show RM t' 572 H (if (900 : Int32) ≤ ρ 0 then ρ else sp_night H lw ρ)
        rw [if_neg c]; exact a2
end WK

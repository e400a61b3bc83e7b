/-! WORK: the steps run, class and model -/
abbrev ab_S : Type := Nat → Nat × Nat × Nat × Nat
abbrev sK (S : ab_S) (i : Nat) : Nat := (S i).1
abbrev sA (S : ab_S) (i : Nat) : Nat := (S i).2.1
abbrev sB (S : ab_S) (i : Nat) : Nat := (S i).2.2.1
abbrev sE (S : ab_S) (i : Nat) : Nat := (S i).2.2.2
def SX (s : hp_I) (S : ab_S) (N : Nat) : Prop := N ≤ 25 ∧ ∀ i, i < N → s 28 i = Int32.ofNat (sK S i) ∧ s 29 i = Int32.ofNat (sA S i) ∧ s 30 i = Int32.ofNat (sB S i) ∧ s 31 i = Int32.ofNat (sE S i)
def SM (t : hp_I) (S : ab_S) (N : Nat) : Prop := ∀ i, i < N → t (492 + i) 0 = Int32.ofNat (sK S i) ∧ (sK S i ≠ 5 → t (492 + i) 1 = Int32.ofNat (sA S i)) ∧ (sK S i < 4 → t (492 + i) 2 = Int32.ofNat (sB S i)) ∧ t (492 + i) 3 = Int32.ofNat (sE S i)
def SEG (H : ab_H) (S : ab_S) : Nat → Nat → Nat → Nat → Prop
  | 0, lo, hi, _ => lo = hi
  | n + 1, lo, hi, d => lo = hi ∨ (lo < hi ∧ lo < sE S lo ∧ sE S lo ≤ hi ∧ ((sK S lo = 6 ∧ d < 6 ∧ sA S lo ≤ 60 ∧ SEG H S n (lo + 1) (sE S lo) (d + 1)) ∨ (sE S lo = lo + 1 ∧ stV H (sK S lo) (sA S lo) (sB S lo))) ∧ SEG H S n (sE S lo) hi d)
def RNx (H : ab_H) (lw : ab_L) (S : ab_S) (N : Nat) (s : hp_I) (b : Nat) (ρ : ab_R) (dn rf : Int32) : Prop := HX s H ∧ LX s lw ∧ RX s 33 H ρ ∧ SX s S N ∧ s 27 5 = Int32.ofNat b ∧ s 27 6 = dn ∧ s 27 7 = rf
def RNm (H : ab_H) (lw : ab_L) (S : ab_S) (N : Nat) (t : hp_I) (b : Nat) (ρ : ab_R) (dn rf : Int32) : Prop := HM t H ∧ LM t lw ∧ RM t 572 H ρ ∧ SM t S N ∧ t 52 35 = Int32.ofNat b ∧ t 52 36 = dn ∧ t 52 32 = rf
def FX (s s' : hp_I) : Prop := Fc [24, 25, 27, 33, 34] s s' ∧ s' 27 4 = s 27 4
def FQ (t t' : hp_I) : Prop := Fc [52, 489, 490, 572] t t' ∧ ∀ j, j ≠ 32 → j ≠ 35 → j ≠ 36 → t' 52 j = t 52 j
theorem FX.refl {s : hp_I} : FX s s := ⟨Fc.refl, rfl⟩
theorem FX.trans {a b c : hp_I} (h1 : FX a b) (h2 : FX b c) : FX a c := ⟨h1.1.trans h2.1, h2.2.trans h1.2⟩
theorem FQ.refl {t : hp_I} : FQ t t := ⟨Fc.refl, fun _ _ _ _ => rfl⟩
theorem FQ.trans {a b c : hp_I} (h1 : FQ a b) (h2 : FQ b c) : FQ a c := ⟨h1.1.trans h2.1, fun j u1 u2 u3 => (h2.2 j u1 u2 u3).trans (h1.2 j u1 u2 u3)⟩
theorem FX.put {s : hp_I} {j : Nat} {v : Int32} (h : j ≠ 4) : FX s (hp_s s 27 j v) := ⟨Fc.put (by simp), by rw [hs_ne (by omega)]⟩
theorem FQ.put {t : hp_I} {j : Nat} {v : Int32} (h : j = 32 ∨ j = 35 ∨ j = 36) : FQ t (hp_s t 52 j v) := ⟨Fc.put (by simp), fun i u1 u2 u3 => by rw [hs_ne (by omega)]⟩
section RUN
variable {H : ab_H} {lw : ab_L} {S : ab_S} {N b : Nat} {s t s' t' : hp_I} {ρ ρ' : ab_R} {dn rf : Int32}
theorem RNx.fr (h : RNx H lw S N s b ρ dn rf) (f : Fc [33, 34, 24, 25] s s') (rx : RX s' 33 H ρ') : RNx H lw S N s' b ρ' dn rf := by
  obtain ⟨h1, h2, h3, h4, h5, h6, h7⟩ := h
  have e27 := f 27 (by simp)
  refine ⟨h1.fr (fun i a c => f i (by simp; omega)), h2.fr (f 21 (by simp)) (f 22 (by simp)), rx, ⟨h4.1, fun i hi => ?_⟩, by rw [e27]; exact h5, by rw [e27]; exact h6, by rw [e27]; exact h7⟩
  rw [f 28 (by simp), f 29 (by simp), f 30 (by simp), f 31 (by simp)]
  exact h4.2 i hi
theorem RNx.slot {j : Nat} {v : Int32} {b' : Nat} {dn' rf' : Int32} (h : RNx H lw S N s b ρ dn rf) (h5 : hp_s s 27 j v 27 5 = Int32.ofNat b') (h6 : hp_s s 27 j v 27 6 = dn') (h7 : hp_s s 27 j v 27 7 = rf') : RNx H lw S N (hp_s s 27 j v) b' ρ dn' rf' := by
  obtain ⟨h1, h2, h3, h4, -, -, -⟩ := h
  refine ⟨h1.fr (fun i a c => hp_s_n (by omega)), h2.fr (hp_s_n (by decide)) (hp_s_n (by decide)), h3.fr (hp_s_n (by decide)), ⟨h4.1, fun i hi => ?_⟩, h5, h6, h7⟩
  rw [hp_s_n (by decide), hp_s_n (by decide), hp_s_n (by decide), hp_s_n (by decide)]
  exact h4.2 i hi
theorem RNm.fr (ok : HOK H) (lo : LOK lw) (hN : N ≤ 25) (h : RNm H lw S N t b ρ dn rf) (f : Fc [572, 489, 490] t t') (rm : RM t' 572 H ρ') : RNm H lw S N t' b ρ' dn rf := by
  obtain ⟨h1, h2, h3, h4, h5, h6, h7⟩ := h
  have e52 := f 52 (by simp)
  refine ⟨h1.fr ok (f 56 (by simp)) (fun a ha => f _ (by simp; omega)), h2.fr lo.1 (by rw [e52]) (fun a ha => f _ (by simp; omega)), rm, fun i hi => ?_, by rw [e52]; exact h5, by rw [e52]; exact h6, by rw [e52]; exact h7⟩
  rw [f (492 + i) (by simp; omega)]
  exact h4 i hi
theorem RNm.slot {j : Nat} {v : Int32} {b' : Nat} {dn' rf' : Int32} (ok : HOK H) (lo : LOK lw) (h : RNm H lw S N t b ρ dn rf) (hj : j ≠ 15) (h5 : hp_s t 52 j v 52 35 = Int32.ofNat b') (h6 : hp_s t 52 j v 52 36 = dn') (h7 : hp_s t 52 j v 52 32 = rf') : RNm H lw S N (hp_s t 52 j v) b' ρ dn' rf' := by
  obtain ⟨h1, h2, h3, h4, -, -, -⟩ := h
  refine ⟨h1.fr ok (hp_s_n (by decide)) (fun a ha => hp_s_n (by omega)), h2.fr lo.1 (by rw [hs_ne (by omega)]) (fun a ha => hp_s_n (by omega)), h3.fr (hp_s_n (by decide)), fun i hi => ?_, h5, h6, h7⟩
  rw [hp_s_n (by omega)]
  exact h4 i hi
end RUN
/-- a run of steps, class and model -/
def RunS (H : ab_H) (lw : ab_L) (S : ab_S) (N : Nat) (d : Nat) (r r' : Int32 → Int32 → hp_I → Option hp_I) : Prop := ∀ n lo hi s t b ρ dn rf, SEG H S n lo hi d → hi ≤ N → n ≤ 60 → RNx H lw S N s b ρ dn rf → RNm H lw S N t b ρ dn rf → ROK H ρ → b ≤ 200 → ∃ s' t' b' ρ' dn' rf', r (Int32.ofNat lo) (Int32.ofNat hi) s = some s' ∧ r' (Int32.ofNat lo) (Int32.ofNat hi) t = some t' ∧ RNx H lw S N s' b' ρ' dn' rf' ∧ RNm H lw S N t' b' ρ' dn' rf' ∧ ROK H ρ' ∧ b' ≤ 200 ∧ FX s s' ∧ FQ t t'
theorem kf_0 : sh_rf 27 0 = 28 := by decide +kernel
theorem kf_1 : sh_rf 27 1 = 29 := by decide +kernel
theorem kf_2 : sh_rf 27 2 = 30 := by decide +kernel
theorem kf_3 : sh_rf 27 3 = 31 := by decide +kernel
theorem kn_28 : sh_ln 28 = 25 := by decide +kernel
theorem kn_29 : sh_ln 29 = 25 := by decide +kernel
theorem kn_30 : sh_ln 30 = 25 := by decide +kernel
theorem kn_31 : sh_ln 31 = 25 := by decide +kernel
theorem kf_491 (a : Nat) : sh_rf 491 a = 492 + a := by unfold sh_rf; rw [if_pos (by decide +kernel)]
theorem kn_491 : sh_ln 491 = 80 := by decide +kernel
theorem kn_492 : ∀ a, a < 80 → sh_ln (492 + a) = 4 := by decide +kernel
section RUN2
variable {H : ab_H} {lw : ab_L} {S : ab_S} {N d : Nat}
theorem sx_l {s : hp_I} (h : SX s S N) {i : Nat} (hi : i < N) : px_ald s 28 (Int32.ofNat i) = some (Int32.ofNat (sK S i)) ∧ px_ald s 29 (Int32.ofNat i) = some (Int32.ofNat (sA S i)) ∧ px_ald s 30 (Int32.ofNat i) = some (Int32.ofNat (sB S i)) ∧ px_ald s 31 (Int32.ofNat i) = some (Int32.ofNat (sE S i)) := by
  have hN := h.1
  obtain ⟨a1, a2, a3, a4⟩ := h.2 i hi
  refine ⟨?_, ?_, ?_, ?_⟩
  · rw [zi_ald (by rw [kn_28]; omega) (by omega), a1]
  · rw [zi_ald (by rw [kn_29]; omega) (by omega), a2]
  · rw [zi_ald (by rw [kn_30]; omega) (by omega), a3]
  · rw [zi_ald (by rw [kn_31]; omega) (by omega), a4]
theorem sm_l {t : hp_I} {i j : Nat} (hi : i < 25) (hj : j < 4) : px_rld 491 (Int32.ofNat i) = some (492 + i) ∧ px_ald t (492 + i) (Int32.ofNat j) = some (t (492 + i) j) := by
  refine ⟨?_, zi_ald (by rw [kn_492 i (by omega)]; exact hj) (by omega)⟩
  rw [zi_rld (by rw [kn_491]; omega) (by omega), kf_491]
/-- the body of an again -/
theorem rep_go {rr : Nat → Nat → Int32 → Int32 → Int32 → hp_I → Option hp_I} {rg : Nat → Int32 → Int32 → hp_I → Option hp_I} {K' : hp_I → Option hp_I} {a2 : Int32} (ok : HOK H) (lk : LOK lw) (hr : RunS H lw S N (d + 1) (fun x y => rr 27 32 x y (Int32.ofNat (d + 1))) (fun x y => rg 52 x y)) {lo n : Nat} (hlo : lo < N) (hseg : SEG H S n (lo + 1) (sE S lo) (d + 1)) (hE : sE S lo ≤ N) (hn : n ≤ 60) (h6 : sK S lo = 6) (hA : sA S lo ≤ 60) : ∀ m τ fu fv s t b ρ dn rf, τ + m = sA S lo → m < fu → m < fv → RNx H lw S N s b ρ dn rf → RNm H lw S N t b ρ dn rf → ROK H ρ → b ≤ 200 → ∃ s' t' b' ρ' dn' rf', bd_Steps_repeatBody_L10 rr 27 32 (Int32.ofNat lo) (Int32.ofNat d) (fun s => some s) fu (Int32.ofNat τ) s = some s' ∧ bd_M_goes_L43 rg 52 a2 (Int32.ofNat lo) K' fv (Int32.ofNat τ) t = K' t' ∧ RNx H lw S N s' b' ρ' dn' rf' ∧ RNm H lw S N t' b' ρ' dn' rf' ∧ ROK H ρ' ∧ b' ≤ 200 ∧ FX s s' ∧ FQ t t' := by
  intro m
  induction m with
  | zero =>
    intro τ fu fv s t b ρ dn rf hτ hfu hfv hx hm ro hb
    have hN := hx.2.2.2.1.1
    obtain ⟨fu, rfl⟩ : ∃ f, fu = f + 1 := ⟨fu - 1, by omega⟩
    obtain ⟨fv, rfl⟩ : ∃ f, fv = f + 1 := ⟨fv - 1, by omega⟩
    refine ⟨s, t, b, ρ, dn, rf, ?_, ?_, hx, hm, ro, hb, FX.refl, FQ.refl⟩
    · rw [bd_Steps_repeatBody_L10, kf_1, (sx_l hx.2.2.2.1 hlo).2.1, e_bd, if_neg (zl_nlt (by omega) (by omega))]
    · rw [bd_M_goes_L43, sm_23, (sm_l (t := t) (j := 1) (show lo < 25 by omega) (by decide)).1, e_bd, show px_ald t (492 + lo) (1 : Int32) = _ from (sm_l (j := 1) (show lo < 25 by omega) (by decide)).2, (hm.2.2.2.1 lo hlo).2.1 (by omega), e_bd, if_neg (zl_nlt (by omega) (by omega))]
  | succ m ih =>
    intro τ fu fv s t b ρ dn rf hτ hfu hfv hx hm ro hb
    have hN := hx.2.2.2.1.1
    obtain ⟨fu, rfl⟩ : ∃ f, fu = f + 1 := ⟨fu - 1, by omega⟩
    obtain ⟨fv, rfl⟩ : ∃ f, fv = f + 1 := ⟨fv - 1, by omega⟩
    rw [bd_Steps_repeatBody_L10, kf_1, (sx_l hx.2.2.2.1 hlo).2.1, e_bd, if_pos (zl_lt (by omega) (by omega)), kf_3, (sx_l hx.2.2.2.1 hlo).2.2.2, e_bd, zi_succ lo, zi_succ d, hx.2.2.2.2.1, bd_M_goes_L43, sm_23, (sm_l (t := t) (j := 1) (show lo < 25 by omega) (by decide)).1, e_bd, show px_ald t (492 + lo) (1 : Int32) = _ from (sm_l (j := 1) (show lo < 25 by omega) (by decide)).2, (hm.2.2.2.1 lo hlo).2.1 (by omega), e_bd, if_pos (zl_lt (by omega) (by omega)), hm.2.2.2.2.1, e_bd, show px_ald t (492 + lo) (3 : Int32) = _ from (sm_l (j := 3) (show lo < 25 by omega) (by decide)).2, (hm.2.2.2.1 lo hlo).2.2.2, e_bd, zi_succ lo]
    by_cases c : b < 200
    · obtain ⟨s1, t1, b1, ρ1, dn1, rf1, r1, r2, r3, r4, r5, r6, r7, r8⟩ := hr n (lo + 1) (sE S lo) s t b ρ dn rf hseg hE hn hx hm ro hb
      obtain ⟨s', t', b', ρ', dn', rf', z1, z2, z3, z4, z5, z6, z7, z8⟩ := ih (τ + 1) fu fv s1 t1 b1 ρ1 dn1 rf1 (by omega) (by omega) (by omega) r3 r4 r5 r6
      refine ⟨s', t', b', ρ', dn', rf', ?_, ?_, z3, z4, z5, z6, r7.trans z7, r8.trans z8⟩
      · rw [if_pos (show Int32.ofNat b < 200 from zl_lt (b := 200) c (by decide)), show rr 27 32 (Int32.ofNat (lo + 1)) (Int32.ofNat (sE S lo)) (Int32.ofNat (d + 1)) s = some s1 from r1, e_bd, e_let, zi_succ]
        exact z1
      · rw [if_pos (show Int32.ofNat b < 200 from zl_lt (b := 200) c (by decide)), show rg 52 (Int32.ofNat (lo + 1)) (Int32.ofNat (sE S lo)) t = some t1 from r2, e_bd, e_let, zi_succ]
        exact z2
    · refine ⟨s, t, b, ρ, dn, rf, ?_, ?_, hx, hm, ro, hb, FX.refl, FQ.refl⟩
      · rw [if_neg (show ¬ Int32.ofNat b < 200 from zl_nlt (b := 200) (by omega) (by omega))]
      · rw [if_neg (show ¬ Int32.ofNat b < 200 from zl_nlt (b := 200) (by omega) (by omega))]
theorem run_go {rr : Nat → Nat → Int32 → Int32 → Int32 → hp_I → Option hp_I} {rg : Nat → Int32 → Int32 → hp_I → Option hp_I} (ok : HOK H) (lk : LOK lw) (hr : d < 6 → RunS H lw S N (d + 1) (fun x y => rr 27 32 x y (Int32.ofNat (d + 1))) (fun x y => rg 52 x y)) : ∀ n lo hi fu fv s t b ρ dn rf, SEG H S n lo hi d → hi ≤ N → n ≤ 60 → n < fu → n < fv → RNx H lw S N s b ρ dn rf → RNm H lw S N t b ρ dn rf → ROK H ρ → b ≤ 200 → ∃ s' t' b' ρ' dn' rf', bd_Steps_run_L3 (bd_Steps_repeatBody rr) 27 32 (Int32.ofNat hi) (Int32.ofNat d) (fun s => some s) fu (Int32.ofNat lo) s = some s' ∧ bd_M_goes_L2 rg 52 (Int32.ofNat hi) (fun s => some s) fv (Int32.ofNat lo) t = some t' ∧ RNx H lw S N s' b' ρ' dn' rf' ∧ RNm H lw S N t' b' ρ' dn' rf' ∧ ROK H ρ' ∧ b' ≤ 200 ∧ FX s s' ∧ FQ t t' := by
  intro n
  induction n with
  | zero =>
    intro lo hi fu fv s t b ρ dn rf hseg hhi hn hfu hfv hx hm ro hb
    have hN := hx.2.2.2.1.1
    have e : lo = hi := hseg
    subst e
    obtain ⟨fu, rfl⟩ : ∃ f, fu = f + 1 := ⟨fu - 1, by omega⟩
    obtain ⟨fv, rfl⟩ : ∃ f, fv = f + 1 := ⟨fv - 1, by omega⟩
    refine ⟨s, t, b, ρ, dn, rf, ?_, ?_, hx, hm, ro, hb, FX.refl, FQ.refl⟩
    · rw [bd_Steps_run_L3, if_neg Int32.lt_irrefl]
    · rw [bd_M_goes_L2, if_neg Int32.lt_irrefl]
  | succ n ih =>
    intro lo hi fu fv s t b ρ dn rf hseg hhi hn hfu hfv hx hm ro hb
    have hN := hx.2.2.2.1.1
    obtain ⟨fu, rfl⟩ : ∃ f, fu = f + 1 := ⟨fu - 1, by omega⟩
    obtain ⟨fv, rfl⟩ : ∃ f, fv = f + 1 := ⟨fv - 1, by omega⟩
    rcases hseg with e | ⟨hlt, hE1, hE2, hst, hrest⟩
    · subst e
      refine ⟨s, t, b, ρ, dn, rf, ?_, ?_, hx, hm, ro, hb, FX.refl, FQ.refl⟩
      · rw [bd_Steps_run_L3, if_neg Int32.lt_irrefl]
      · rw [bd_M_goes_L2, if_neg Int32.lt_irrefl]
    · have hlo : lo < N := by omega
      by_cases c : b < 200
      · have hx2 := hx.slot (j := 5) (v := Int32.ofNat (b + 1)) (b' := b + 1) (dn' := dn) (rf' := rf) hs_at (by rw [hs_ne (by omega)]; exact hx.2.2.2.2.2.1) (by rw [hs_ne (by omega)]; exact hx.2.2.2.2.2.2)
        have hm2 := hm.slot (j := 35) (v := Int32.ofNat (b + 1)) (b' := b + 1) (dn' := dn) (rf' := rf) ok lk (by decide) hs_at (by rw [hs_ne (by omega)]; exact hm.2.2.2.2.2.1) (by rw [hs_ne (by omega)]; exact hm.2.2.2.2.2.2)
        have fx2 : FX s (hp_s s 27 5 (Int32.ofNat (b + 1))) := FX.put (by decide)
        have fm2 : FQ t (hp_s t 52 35 (Int32.ofNat (b + 1))) := FQ.put (Or.inr (Or.inl rfl))
        rw [bd_Steps_run_L3, if_pos (zl_lt hlt (by omega)), hx.2.2.2.2.1, if_pos (show Int32.ofNat b < 200 from zl_lt (b := 200) c (by decide)), zi_succ, e_let, kf_0, (sx_l hx2.2.2.2.1 hlo).1, e_bd, e_jn, bd_M_goes_L2, if_pos (zl_lt hlt (by omega)), hm.2.2.2.2.1, if_pos (show Int32.ofNat b < 200 from zl_lt (b := 200) c (by decide)), zi_succ, e_let, sm_23, (sm_l (t := t) (j := 1) (show lo < 25 by omega) (by decide)).1, e_bd, e_bd, show px_ald (hp_s t 52 35 (Int32.ofNat (b + 1))) (492 + lo) (0 : Int32) = _ from (sm_l (j := 0) (show lo < 25 by omega) (by decide)).2, (hm2.2.2.2.1 lo hlo).1, e_bd, e_jn]
        generalize hp_s s 27 5 (Int32.ofNat (b + 1)) = s2 at hx2 fx2 ⊢
        generalize hp_s t 52 35 (Int32.ofNat (b + 1)) = t2 at hm2 fm2 ⊢
        -- what comes behind the step
        have go : ∀ {s3 t3 : hp_I} {b3 : Nat} {ρ3 : ab_R} {dn3 rf3 : Int32}, RNx H lw S N s3 b3 ρ3 dn3 rf3 → RNm H lw S N t3 b3 ρ3 dn3 rf3 → ROK H ρ3 → b3 ≤ 200 → FX s s3 → FQ t t3 → ∃ s' t' b' ρ' dn' rf', (Option.bind (px_ald s3 31 (Int32.ofNat lo)) fun z5 => px_let z5 fun v5_6 => bd_Steps_run_L3 (bd_Steps_repeatBody rr) 27 32 (Int32.ofNat hi) (Int32.ofNat d) (fun s => some s) fu v5_6 s3) = some s' ∧ (Option.bind (some (492 + lo)) fun z6 => Option.bind (px_ald t3 z6 (3 : Int32)) fun z7 => px_let z7 fun v3_8 => bd_M_goes_L2 rg 52 (Int32.ofNat hi) (fun s => some s) fv v3_8 t3) = some t' ∧ RNx H lw S N s' b' ρ' dn' rf' ∧ RNm H lw S N t' b' ρ' dn' rf' ∧ ROK H ρ' ∧ b' ≤ 200 ∧ FX s s' ∧ FQ t t' := by
          intro s3 t3 b3 ρ3 dn3 rf3 hx3 hm3 ro3 hb3 fx3 fm3
          obtain ⟨s', t', b', ρ', dn', rf', z1, z2, z3, z4, z5, z6, z7, z8⟩ := ih (sE S lo) hi fu fv s3 t3 b3 ρ3 dn3 rf3 hrest hhi (by omega) (by omega) (by omega) hx3 hm3 ro3 hb3
          refine ⟨s', t', b', ρ', dn', rf', ?_, ?_, z3, z4, z5, z6, fx3.trans z7, fm3.trans z8⟩
          · rw [(sx_l hx3.2.2.2.1 hlo).2.2.2, e_bd, e_let]; exact z1
          · rw [e_bd, show px_ald t3 (492 + lo) (3 : Int32) = _ from (sm_l (j := 3) (show lo < 25 by omega) (by decide)).2, (hm3.2.2.2.1 lo hlo).2.2.2, e_bd, e_let]; exact z2
        rcases hst with ⟨h6, hd6, hA, hseg2⟩ | ⟨hE, hv⟩
        · obtain ⟨s3, t3, b3, ρ3, dn3, rf3, r1, r2, r3, r4, r5, r6, r7, r8⟩ := rep_go (rr := rr) (rg := rg) (a2 := Int32.ofNat hi) (K' := fun t3 => (Option.bind (some (492 + lo)) fun z6 => Option.bind (px_ald t3 z6 (3 : Int32)) fun z7 => px_let z7 fun v3_8 => bd_M_goes_L2 rg 52 (Int32.ofNat hi) (fun s => some s) fv v3_8 t3)) ok lk (hr hd6) hlo hseg2 (by omega) (by omega) h6 hA (sA S lo) 0 FU FU s2 t2 (b + 1) ρ dn rf (by omega) (FU_gt (by omega)) (FU_gt (by omega)) hx2 hm2 ro (by omega)
          obtain ⟨s', t', b', ρ', dn', rf', z1, z2, z3⟩ := go r3 r4 r5 r6 (fx2.trans r7) (fm2.trans r8)
          refine ⟨s', t', b', ρ', dn', rf', ?_, ?_, z3⟩
          · rw [h6, if_pos (show Int32.ofNat 6 = 6 from rfl)]
            unfold bd_Steps_repeatBody
            rw [if_neg (show ¬ (6 : Int32) ≤ Int32.ofNat d from zl_nle (a := 6) hd6 (by decide)), e_let, show bd_Steps_repeatBody_L10 rr 27 32 (Int32.ofNat lo) (Int32.ofNat d) (fun s_7 => some s_7) FU (0 : Int32) s2 = some s3 from r1, e_bd, kf_3]
            exact z1
          · rw [h6, if_pos (show Int32.ofNat 6 = 6 from rfl), e_let]
            refine Eq.trans r2 ?_
            exact z2
        · have hk6 : sK S lo ≠ 6 := by unfold stV at hv; omega
          have hk6' : sK S lo < 6 := by unfold stV at hv; omega
          obtain ⟨l1, l2, l3, l4⟩ := sx_l hx2.2.2.2.1 hlo
          obtain ⟨s3, a1, a2, a3⟩ := xs_done hx2.1 hx2.2.1 hx2.2.2.1 ok lk ro hv
          obtain ⟨m0, m1, m2', m3'⟩ := hm2.2.2.2.1 lo hlo
          obtain ⟨t3, b1, b2, b3⟩ := ms_does (r := 492 + lo) hm2.1 hm2.2.1 hm2.2.2.1 ok lk ro hv (kn_492 lo (by omega)) m0 m1 m2'
          have hx3 := hx2.fr a3 a2
          have hm3 := hm2.fr ok lk hN b3 b2
          have ro3 : ROK H (stR H lw (sK S lo) (sA S lo) (sB S lo) ρ) := rok_stR ok ro hv
          have fx3 : FX s s3 := fx2.trans ⟨a3.mono (by intro i hi; simp at hi; simp; omega), by rw [a3 27 (by simp)]⟩
          have fm3 : FQ t t3 := fm2.trans ⟨b3.mono (by intro i hi; simp at hi; simp; omega), fun j _ _ _ => by rw [b3 52 (by simp)]⟩
          rw [if_neg (show ¬ Int32.ofNat (sK S lo) = 6 from zl_ne (b := 6) hk6 (by omega) (by decide)), if_neg (show ¬ Int32.ofNat (sK S lo) = 6 from zl_ne (b := 6) hk6 (by omega) (by decide)), kf_1, l2, e_bd, kf_2, l3, e_bd, a1, e_b2, sm_25, e_bd, b1, e_b2]
          cases hc : stC H (sK S lo) (sA S lo) (sB S lo) ρ with
          | false =>
            have hx4 := hx3.slot (j := 7) (v := rf + 1) (b' := b + 1) (dn' := dn) (rf' := rf + 1) (by rw [hs_ne (by omega)]; exact hx3.2.2.2.2.1) (by rw [hs_ne (by omega)]; exact hx3.2.2.2.2.2.1) hs_at
            have hm4 := hm3.slot (j := 36) (v := dn + 0) (b' := b + 1) (dn' := dn) (rf' := rf) ok lk (by decide) (by rw [hs_ne (by omega)]; exact hm3.2.2.2.2.1) (by rw [hs_at, Int32.add_zero]) (by rw [hs_ne (by omega)]; exact hm3.2.2.2.2.2.2)
            have hm5 := hm4.slot (j := 32) (v := rf + 1) (b' := b + 1) (dn' := dn) (rf' := rf + 1) ok lk (by decide) (by rw [hs_ne (by omega)]; exact hm4.2.2.2.2.1) (by rw [hs_ne (by omega)]; exact hm4.2.2.2.2.2.1) hs_at
            obtain ⟨s', t', b', ρ', dn', rf', z1, z2, z3⟩ := go hx4 hm5 ro3 (by omega) (fx3.trans (FX.put (by decide))) ((fm3.trans (FQ.put (Or.inr (Or.inr rfl)))).trans (FQ.put (Or.inl rfl)))
            refine ⟨s', t', b', ρ', dn', rf', ?_, ?_, z3⟩
            · rw [if_pos (show bI false = 0 from rfl), hx3.2.2.2.2.2.2, e_let, kf_3]; exact z1
            · rw [e_let, e_jn, if_pos (show bI false = 0 from rfl)]
              try dsimp only
              rw [hm3.2.2.2.2.2.1, e_let, e_jn, if_pos (show bI false = 0 from rfl)]
              try dsimp only
              rw [hm4.2.2.2.2.2.2, e_let]; exact z2
          | true =>
            have hx4 := hx3.slot (j := 6) (v := dn + 1) (b' := b + 1) (dn' := dn + 1) (rf' := rf) (by rw [hs_ne (by omega)]; exact hx3.2.2.2.2.1) hs_at (by rw [hs_ne (by omega)]; exact hx3.2.2.2.2.2.2)
            have hm4 := hm3.slot (j := 36) (v := dn + 1) (b' := b + 1) (dn' := dn + 1) (rf' := rf) ok lk (by decide) (by rw [hs_ne (by omega)]; exact hm3.2.2.2.2.1) hs_at (by rw [hs_ne (by omega)]; exact hm3.2.2.2.2.2.2)
            have hm5 := hm4.slot (j := 32) (v := rf + 0) (b' := b + 1) (dn' := dn + 1) (rf' := rf) ok lk (by decide) (by rw [hs_ne (by omega)]; exact hm4.2.2.2.2.1) (by rw [hs_ne (by omega)]; exact hm4.2.2.2.2.2.1) (by rw [hs_at, Int32.add_zero])
            obtain ⟨s', t', b', ρ', dn', rf', z1, z2, z3⟩ := go hx4 hm5 ro3 (by omega) (fx3.trans (FX.put (by decide))) ((fm3.trans (FQ.put (Or.inr (Or.inr rfl)))).trans (FQ.put (Or.inl rfl)))
            refine ⟨s', t', b', ρ', dn', rf', ?_, ?_, z3⟩
            · rw [if_neg (show ¬ bI true = 0 from by decide), hx3.2.2.2.2.2.1, e_let, kf_3]; exact z1
            · rw [e_let, e_jn, if_neg (show ¬ bI true = 0 from by decide)]
              try dsimp only
              rw [hm3.2.2.2.2.2.1, e_let, e_jn, if_neg (show ¬ bI true = 0 from by decide)]
              try dsimp only
              rw [hm4.2.2.2.2.2.2, e_let]; exact z2
      · refine ⟨s, t, b, ρ, dn, rf, ?_, ?_, hx, hm, ro, hb, FX.refl, FQ.refl⟩
        · rw [bd_Steps_run_L3, if_pos (zl_lt hlt (by omega)), hx.2.2.2.2.1, if_neg (show ¬ Int32.ofNat b < 200 from zl_nlt (b := 200) (by omega) (by omega))]
        · rw [bd_M_goes_L2, if_pos (zl_lt hlt (by omega)), hm.2.2.2.2.1, if_neg (show ¬ Int32.ofNat b < 200 from zl_nlt (b := 200) (by omega) (by omega))]
/-- all depths -/
theorem run_all (ok : HOK H) (lk : LOK lw) : ∀ e d, d + e = 6 → ∀ g h, 2 * e + 2 ≤ g → e + 1 ≤ h → RunS H lw S N d (fun x y => (gr_Steps_run g).1 27 32 x y (Int32.ofNat d)) (fun x y => gr_M_goes h 52 x y) := by
  have one : ∀ d g h, (d < 6 → RunS H lw S N (d + 1) (fun x y => (gr_Steps_run g).1 27 32 x y (Int32.ofNat (d + 1))) (fun x y => gr_M_goes h 52 x y)) → RunS H lw S N d (fun x y => (gr_Steps_run (g + 2)).1 27 32 x y (Int32.ofNat d)) (fun x y => gr_M_goes (h + 1) 52 x y) := by
    intro d g h hr n lo hi s t b ρ dn rf hseg hhi hn hx hm ro hb
    obtain ⟨s', t', b', ρ', dn', rf', z1, z2, z3⟩ := run_go ok lk hr n lo hi FU FU s t b ρ dn rf hseg hhi hn (FU_gt (by omega)) (FU_gt (by omega)) hx hm ro hb
    refine ⟨s', t', b', ρ', dn', rf', ?_, ?_, z3⟩
    · show bd_Steps_run (bd_Steps_repeatBody (gr_Steps_run g).1) 27 32 (Int32.ofNat lo) (Int32.ofNat hi) (Int32.ofNat d) s = some s'
      unfold bd_Steps_run
      rw [e_let]; exact z1
    · show bd_M_goes (gr_M_goes h) 52 (Int32.ofNat lo) (Int32.ofNat hi) t = some t'
      unfold bd_M_goes
      rw [e_let]; exact z2
  intro e
  induction e with
  | zero =>
    intro d hd g h hg hh
    obtain ⟨g, rfl⟩ : ∃ x, g = x + 2 := ⟨g - 2, by omega⟩
    obtain ⟨h, rfl⟩ : ∃ x, h = x + 1 := ⟨h - 1, by omega⟩
    exact one d g h (fun q => absurd q (by omega))
  | succ e ih =>
    intro d hd g h hg hh
    obtain ⟨g, rfl⟩ : ∃ x, g = x + 2 := ⟨g - 2, by omega⟩
    obtain ⟨h, rfl⟩ : ∃ x, h = x + 1 := ⟨h - 1, by omega⟩
    exact one d g h (fun _ => ih (d + 1) (by omega) g h (by omega) (by omega))
end RUN2

/-! SUMS, CRUMBS -/
theorem hasB_nat (a : Nat) {k : Nat} (hk : k < 32) : hasB (Int32.ofNat a) k = a.testBit k := by
  rw [hasB_bv _ _ hk, Int32.toBitVec_ofNat', BitVec.getLsbD_ofNat]
  simp [hk]
theorem hasB_hi {a n k : Nat} (h : a < 2 ^ n) (hn : n ≤ k) (hk : k < 32) : hasB (Int32.ofNat a) k = false := by
  rw [hasB_nat a hk]
  exact Nat.testBit_lt_two_pow (Nat.lt_of_lt_of_le h (Nat.pow_le_pow_right (by decide) hn))
def zz (ρ : ab_R) (s : Nat) : Nat := (ρ (13 + s)).toNatClampNeg
theorem zz_ok {H : ab_H} {ρ : ab_R} (ro : ROK H ρ) {s : Nat} (hs : s < hS H) : ρ (13 + s) = Int32.ofNat (zz ρ s) ∧ 1 ≤ zz ρ s ∧ zz ρ s ≤ 999 := by
  obtain ⟨z, h1, h2, h3⟩ := (ro.1 s hs).2
  unfold zz
  rw [h3, zi_nat (by omega)]
  exact ⟨rfl, h1, h2⟩
theorem szo_nat {H : ab_H} {ρ : ab_R} (ro : ROK H ρ) (b : Int32) : sp_szo H ρ b = Int32.ofNat (nS (hasB b) (zz ρ) (hS H)) := by
  unfold sp_szo nS
  rw [← nS_I]
  exact zF_ext _ _ (hS H) (fun i a hi => by rw [(zz_ok ro hi).1]) (hS H) 0 0 (by omega)
theorem bitI_pow : ∀ n, n ≤ 8 → (1 : Int32) <<< (Int32.ofNat n &&& 31) = Int32.ofNat (2 ^ n) := by decide
def su_T (H : ab_H) (ρ : ab_R) (v n : Int32) (set : Nat) : Bool := decide (Int32.ofNat set &&& (sp_liv H ρ v ^^^ (-1)) = 0) && decide (sp_szo H ρ (Int32.ofNat set) = n)
def sp_sums (H : ab_H) (ρ : ab_R) (v n : Int32) : Int32 := zF (fun set (a : Int32) => if su_T H ρ v n set = true then a + 1 else a) (2 ^ hS H) 0 0
theorem pow8 {n : Nat} (h : n ≤ 8) : 2 ^ n ≤ 256 := Nat.pow_le_pow_right (n := 2) (by decide) h
def su_f (ρ : ab_R) (v : Int32) (s : Nat) : Nat := if (hasB (ρ 1) s && decide (ρ (5 + s) = v)) = true then zz ρ s else 1000
theorem su_eq {H : ab_H} {ρ : ab_R} (ok : HOK H) (ro : ROK H ρ) (v : Int32) {m set : Nat} (hm : m < 1000) (hs : set < 2 ^ hS H) : decide (Int32.ofNat (nS (hasB (Int32.ofNat set)) (su_f ρ v) (hS H)) = Int32.ofNat m) = su_T H ρ v (Int32.ofNat m) set := by
  have h8 := ok.2.2.1
  have hb : nS (hasB (Int32.ofNat set)) (su_f ρ v) (hS H) ≤ 0 + hS H * 1000 := nS_le _ _ 1000 (hS H) (fun s hs => by
    unfold su_f
    split
    · have := (zz_ok ro hs).2.2
      omega
    · exact Nat.le_refl _) (hS H) 0 0 (by omega)
  have hb2 : nS (hasB (Int32.ofNat set)) (su_f ρ v) (hS H) < 10000 := by
    have : hS H * 1000 ≤ 8 * 1000 := Nat.mul_le_mul_right _ h8
    omega
  unfold su_T
  by_cases hsub : ∀ k, k < hS H → hasB (Int32.ofNat set) k = true → (hasB (ρ 1) k && decide (ρ (5 + k) = v)) = true
  · have h1 : Int32.ofNat set &&& (sp_liv H ρ v ^^^ (-1)) = 0 := by
      apply hasB_ext
      intro k hk
      rw [hasB_and hk, hasB_not hk, hasB_zero hk]
      by_cases hkS : k < hS H
      · rw [liv_has ok ρ v hkS]
        cases hb : hasB (Int32.ofNat set) k with
        | false => rfl
        | true => rw [hsub k hkS hb]; rfl
      · rw [hasB_hi hs (by omega) hk]; rfl
    have h2 : nS (hasB (Int32.ofNat set)) (su_f ρ v) (hS H) = nS (hasB (Int32.ofNat set)) (zz ρ) (hS H) := zF_ext _ _ (hS H) (fun i a hi => by
      by_cases hp : hasB (Int32.ofNat set) i = true
      · rw [if_pos hp, if_pos hp]
        unfold su_f
        rw [if_pos (hsub i hi hp)]
      · rw [if_neg hp, if_neg hp]) (hS H) 0 0 (by omega)
    rw [decide_eq_true h1, Bool.true_and, szo_nat ro, h2]
  · have hex : ∃ k, k < hS H ∧ hasB (Int32.ofNat set) k = true ∧ (hasB (ρ 1) k && decide (ρ (5 + k) = v)) = false := by
      refine Classical.byContradiction fun hn => hsub fun k h1 h2 => ?_
      cases hc : (hasB (ρ 1) k && decide (ρ (5 + k) = v)) with
      | true => rfl
      | false => exact absurd ⟨k, h1, h2, hc⟩ hn
    obtain ⟨k, k1, k2, k3⟩ := hex
    have hge := (nS_ge (hasB (Int32.ofNat set)) (su_f ρ v) k1 k2 (hS H) 0 0 (by omega)).1 (by omega)
    have hf : su_f ρ v k = 1000 := by
      unfold su_f
      rw [if_neg (by rw [k3]; decide)]
    have hge2 : 1000 ≤ nS (hasB (Int32.ofNat set)) (su_f ρ v) (hS H) := by
      have h3 : su_f ρ v k + 0 ≤ nS (hasB (Int32.ofNat set)) (su_f ρ v) (hS H) := hge
      omega
    have h1 : ¬ Int32.ofNat set &&& (sp_liv H ρ v ^^^ (-1)) = 0 := by
      intro h0
      have := congrArg (fun x => hasB x k) h0
      simp only [hasB_and (show k < 32 by omega), hasB_not (show k < 32 by omega), hasB_zero (show k < 32 by omega), liv_has ok ρ v k1, k2, k3] at this
      exact absurd this (by decide)
    rw [decide_eq_false h1, Bool.false_and, decide_eq_false]
    rw [zi_inj (by omega) (by omega)]
    omega
section SUM
variable {σ : hp_I} {A : ab_A}
theorem xq_sums (ok : AOK A) (cx : CX σ A) (p w : Int32) : XQ σ (fn_X_sums 0 p w σ) (qb_o (oneB p (hR (aH A))) (qb_i (inB w 0 999) 0)) (sp_sums (aH A) (aR A) p w) := by
  unfold fn_X_sums
  refine xg_one (by rw [xf_1]; exact hx_R cx.1) fun h1 => xg_in fun h2 => ?_
  have h8 := ok.1.2.2.1
  have hp8 := pow8 h8
  refine xq_v ?_
  rw [xf_6, xs_livingIn so_32 cx.1 cx.2.1 ok.1, e_bd, e_let, e_let, e_let]
  refine zL_0 (L := fun fu a i => fn_X_sums_L36 0 w (sp_liv (aH A) (aR A) p) σ (fun y => some (.inr (y, σ))) fu a i) (k := fun y => some (.inr (y, σ))) (N := 2 ^ hS (aH A)) (fun set (a : Int32) => if su_T (aH A) (aR A) p w set = true then a + 1 else a) (by omega) (fun fu a => ?_) (fun fu i a hi => ?_) 0
  · try dsimp only
    rw [fn_X_sums_L36, xf_1, hx_S cx.1, bitI_pow _ h8, if_neg Int32.lt_irrefl]
  · try dsimp only
    rw [fn_X_sums_L36, xf_1, hx_S cx.1, bitI_pow _ h8, if_pos (zl_lt hi (by omega)), e_jn, xf_6, xs_sizeOf so_32 cx.1 cx.2.1 ok.1, e_bd]
    simp only [e_let, zi_succ]
    unfold su_T
    by_cases c1 : Int32.ofNat i &&& (sp_liv (aH A) (aR A) p ^^^ (-1)) = 0
    · by_cases c2 : sp_szo (aH A) (aR A) (Int32.ofNat i) = w
      · rw [if_pos c1, if_pos c2, decide_eq_true c1, decide_eq_true c2]; rfl
      · rw [if_pos c1, if_neg c2, decide_eq_true c1, decide_eq_false c2]; rfl
    · rw [if_neg c1, decide_eq_false c1]; rfl
theorem ml_sums {a1 a2 a3 : Int32} {set : Nat} {k : Int32 → Option (Int32 × hp_I)} {H : ab_H} {ρ : ab_R} (hm : HM σ H) (rm : RM σ 572 H ρ) (ok : HOK H) (ro : ROK H ρ) : fn_M_sums_L79 52 a1 a2 a3 (Int32.ofNat set) σ k FU 0 0 = k (Int32.ofNat (nS (hasB (Int32.ofNat set)) (su_f ρ a1) (hS H))) := by
  have h8 := ok.2.2.1
  rw [show Int32.ofNat (nS (hasB (Int32.ofNat set)) (su_f ρ a1) (hS H)) = zF (fun s (acc : Int32) => if hasB (Int32.ofNat set) s = true then acc + Int32.ofNat (su_f ρ a1 s) else acc) (hS H) 0 0 from (nS_I _ _ (hS H) 0 0).symm]
  refine zL_0 (L := fun fu a i => fn_M_sums_L79 52 a1 a2 a3 (Int32.ofNat set) σ k fu a i) (k := k) (N := hS H) _ (by omega) (fun fu a => ?_) (fun fu i a hi => ?_) 0
  · try dsimp only
    rw [fn_M_sums_L79, sm_12, (hm_n hm).2.2.1, e_bd, if_neg Int32.lt_irrefl]
  · try dsimp only
    rw [fn_M_sums_L79, sm_12, (hm_n hm).2.2.1, e_bd, if_pos (zl_lt hi (by omega)), ms_has, e_bd, e_jn, bI_if, sm_25, ms_lives rm, e_bd, e_jn, bI_if, rm_5 rm ok i hi, e_bd, rm_13 rm ok i hi, e_bd, (zz_ok ro hi).1]
    simp only [e_let, zi_succ, Int32.add_zero]
    unfold su_f
    by_cases c1 : hasB (Int32.ofNat set) i = true
    · rw [if_pos c1, if_pos c1]
      cases c2 : hasB (ρ 1) i with
      | true =>
        by_cases c3 : ρ (5 + i) = a1
        · simp only [c3, if_true, decide_true, Bool.and_true]
        · simp only [c3, if_true, if_false, decide_false, Bool.and_false, Bool.false_eq_true]
          rfl
      | false => simp only [Bool.false_and, Bool.false_eq_true, if_false]; rfl
    · rw [if_neg c1, if_neg c1]
theorem mq_sums (ok : AOK A) (cm : CM σ A) (p w : Int32) : MQs σ (fn_M_sums 52 p w σ) (qb_o (oneB p (hR (aH A))) (qb_i (inB w 0 999) 0)) (sp_sums (aH A) (aR A) p w) 2 := by
  unfold fn_M_sums
  simp only [e_let, e_jn]
  have cm0 := cm_0 ok cm
  have h8 := ok.1.2.2.1
  have hp8 := pow8 h8
  rw [mt_R cm.1 ok.1, e_bd]
  refine mb_a fun h1 => ?_
  rw [ms_in', e_bd]
  refine mb_c fun h2 => ?_
  obtain ⟨m, hm, rfl⟩ := zB_in (n := 999) (by decide) h2
  refine mq_v0 ?_
  generalize hp_s σ 52 0 0 = s at cm0 ⊢
  refine zL_0 (L := fun fu a i => fn_M_sums_L60 52 p (Int32.ofNat m) s (fun y => some (y, s)) fu a i) (k := fun y => some (y, s)) (N := 2 ^ hS (aH A)) (fun set (a : Int32) => if su_T (aH A) (aR A) p (Int32.ofNat m) set = true then a + 1 else a) (by omega) (fun fu a => ?_) (fun fu i a hi => ?_) 0
  · try dsimp only
    rw [fn_M_sums_L60, sm_12, (hm_n cm0.1).2.2.1, e_bd, bitI_pow _ h8, if_neg Int32.lt_irrefl]
  · try dsimp only
    rw [fn_M_sums_L60, sm_12, (hm_n cm0.1).2.2.1, e_bd, bitI_pow _ h8, if_pos (zl_lt hi (by omega)), e_let, e_let, ml_sums cm0.1 cm0.2.1 ok.1 ok.2.1, e_jn]
    simp only [e_let, zi_succ, Int32.add_zero]
    rw [← su_eq ok.1 ok.2.1 p hm hi]
    simp only [decide_eq_true_eq]
    split <;> rfl
end SUM
/-- crumbs -/
def crB (G : Nat → Nat) (n : Nat) : Nat → Nat → Nat
  | 0, b => b
  | k + 1, b => crB G n k (if G (b + 2 ^ k) ≤ n then b + 2 ^ k else b)
def crL (G : Nat → Nat) (n : Nat) : Nat → Nat → Nat
  | 0, b => b
  | m + 1, b => if G (b + 1) ≤ n then crL G n m (b + 1) else b
theorem crB_ok (G : Nat → Nat) (n : Nat) : ∀ k b, G b ≤ n → b + 2 ^ k ≤ 1024 → (b + 2 ^ k = 1024 ∨ n < G (b + 2 ^ k)) → G (crB G n k b) ≤ n ∧ crB G n k b ≤ 1023 ∧ (crB G n k b = 1023 ∨ n < G (crB G n k b + 1)) := by
  intro k
  induction k with
  | zero =>
    intro b h1 h2 h3
    refine ⟨h1, ?_, ?_⟩
    · show b ≤ 1023
      simp only [Nat.pow_zero] at h2
      omega
    · show b = 1023 ∨ n < G (b + 1)
      rcases h3 with h | h
      · simp only [Nat.pow_zero] at h; exact Or.inl (by omega)
      · exact Or.inr h
  | succ k ih =>
    intro b h1 h2 h3
    have hp : 2 ^ (k + 1) = 2 ^ k + 2 ^ k := by rw [Nat.pow_succ]; omega
    unfold crB
    by_cases c : G (b + 2 ^ k) ≤ n
    · rw [if_pos c]
      refine ih _ c (by omega) ?_
      rw [Nat.add_assoc, ← hp]
      exact h3
    · rw [if_neg c]
      have hp1 : 1 ≤ 2 ^ k := Nat.one_le_two_pow
      exact ih _ h1 (by omega) (Or.inr (by omega))
theorem crL_ok (G : Nat → Nat) (n : Nat) : ∀ m b, G b ≤ n → b + m = 999 → G (crL G n m b) ≤ n ∧ crL G n m b ≤ 999 ∧ (crL G n m b = 999 ∨ n < G (crL G n m b + 1)) := by
  intro m
  induction m with
  | zero =>
    intro b h1 h2
    exact ⟨h1, by show b ≤ 999; omega, Or.inl (by show b = 999; omega)⟩
  | succ m ih =>
    intro b h1 h2
    unfold crL
    by_cases c : G (b + 1) ≤ n
    · rw [if_pos c]
      exact ih _ c (by omega)
    · rw [if_neg c]
      exact ⟨h1, by omega, Or.inr (by omega)⟩
theorem cr_eq (G : Nat → Nat) (hG : ∀ a b, a ≤ b → G a ≤ G b) (h0 : G 0 = 0) (n z : Nat) (hz : z ≤ 999) : min z (crB G n 10 0) = min z (crL G n 999 0) := by
  obtain ⟨a1, a2, a3⟩ := crB_ok G n 10 0 (by omega) (by decide) (Or.inl (by decide))
  obtain ⟨b1, b2, b3⟩ := crL_ok G n 999 0 (by omega) (by decide)
  generalize crB G n 10 0 = B at a1 a2 a3 ⊢
  generalize crL G n 999 0 = C at b1 b2 b3 ⊢
  by_cases h : B < C
  · have h1 := hG (B + 1) C (by omega)
    omega
  · by_cases h2 : C < B
    · have h1 := hG (C + 1) B (by omega)
      omega
    · omega
def cr_G (ρ : ab_R) (N : Nat) (b : Int32) (x : Nat) : Nat := nS (hasB b) (fun s => min (zz ρ s) x) N
theorem crG_mono (ρ : ab_R) (N : Nat) (b : Int32) (x y : Nat) (h : x ≤ y) : cr_G ρ N b x ≤ cr_G ρ N b y :=
  nS_mono (hasB b) _ _ N (fun s _ _ => by omega) N 0 0 0 (by omega) (Nat.le_refl _)
theorem crG_0 (ρ : ab_R) (N : Nat) (b : Int32) : cr_G ρ N b 0 = 0 := by
  have h := nS_le (hasB b) (fun s => min (zz ρ s) 0) 0 N (fun s _ => by omega) N 0 0 (by omega)
  have h2 : cr_G ρ N b 0 ≤ 0 + N * 0 := h
  omega
theorem crG_lt {H : ab_H} {ρ : ab_R} (ok : HOK H) (ro : ROK H ρ) (b : Int32) (x : Nat) : cr_G ρ (hS H) b x < 10000 := by
  have h := nS_le (hasB b) (fun s => min (zz ρ s) x) 999 (hS H) (fun s hs => by have := (zz_ok ro hs).2.2; omega) (hS H) 0 0 (by omega)
  have h2 : cr_G ρ (hS H) b x ≤ 0 + hS H * 999 := h
  have h3 : hS H * 999 ≤ 8 * 999 := Nat.mul_le_mul_right _ ok.2.2.1
  omega
theorem min_nat {a b : Nat} (ha : a < 2147483648) (hb : b < 2147483648) : px_min (Int32.ofNat a) (Int32.ofNat b) = Int32.ofNat (min a b) := by
  unfold px_min
  by_cases h : b < a
  · rw [if_pos (zl_lt h ha), Nat.min_eq_right (by omega)]
  · rw [if_neg (zl_nlt (by omega) hb), Nat.min_eq_left (by omega)]
section CRU
variable {σ : hp_I} {A : ab_A}
theorem xs_below (ok : AOK A) (cx : CX σ A) (b : Int32) {x : Nat} (hx : x < 2000) : fn_X_givenBelow 0 b (Int32.ofNat x) σ = some (Int32.ofNat (cr_G (aR A) (hS (aH A)) b x)) := by
  unfold fn_X_givenBelow
  rw [e_let, e_let]
  have h8 := ok.1.2.2.1
  rw [show Int32.ofNat (cr_G (aR A) (hS (aH A)) b x) = zF (fun s (acc : Int32) => if hasB b s = true then acc + Int32.ofNat (min (zz (aR A) s) x) else acc) (hS (aH A)) 0 0 from (nS_I _ _ (hS (aH A)) 0 0).symm]
  refine zL_0 (L := fun fu a i => fn_X_givenBelow_L5 0 b (Int32.ofNat x) σ (fun y => some y) fu a i) (k := fun y => some y) (N := hS (aH A)) _ (by omega) (fun fu a => ?_) (fun fu i a hi => ?_) 0
  · try dsimp only
    rw [fn_X_givenBelow_L5, xf_1, hx_S cx.1, if_neg Int32.lt_irrefl]
  · try dsimp only
    have hz := zz_ok ok.2.1 hi
    rw [fn_X_givenBelow_L5, xf_1, hx_S cx.1, if_pos (zl_lt hi (by omega)), e_jn, has_if, xf_6, xs_size so_32 cx.2.1 ok.1 i hi, e_bd, hz.1, min_nat (by omega) (by omega)]
    simp only [e_let, zi_succ]
    split <;> rfl
def hv (k : Nat) : Nat := if k = 0 then 0 else 2 ^ (k - 1)
theorem div2 {k : Nat} (hk : k < 20) : px_div (Int32.ofNat (2 ^ k)) 2 = some (Int32.ofNat (hv k)) := by
  revert k
  decide
theorem xl_crumbs (ok : AOK A) (cx : CX σ A) {p : Int32} {b : Int32} {n : Nat} (hn : n < 1000) (K : Int32 → Option (px_X (Int32 × hp_I))) : ∀ (k x fu : Nat), k ≤ 10 → x + 2 ^ k ≤ 1024 → k < fu → fn_X_crumbs_L68 0 p (Int32.ofNat n) b σ K fu (Int32.ofNat x) (Int32.ofNat (hv k)) = K (Int32.ofNat (crB (cr_G (aR A) (hS (aH A)) b) n k x)) := by
  intro k
  induction k with
  | zero =>
    intro x fu _ _ hf
    obtain ⟨fu, rfl⟩ : ∃ f, fu = f + 1 := ⟨fu - 1, by omega⟩
    rw [fn_X_crumbs_L68, if_neg (by decide)]
    rfl
  | succ k ih =>
    intro x fu hk hx hf
    obtain ⟨fu, rfl⟩ : ∃ f, fu = f + 1 := ⟨fu - 1, by omega⟩
    have hp : 2 ^ (k + 1) = 2 ^ k + 2 ^ k := by rw [Nat.pow_succ]; omega
    have hp1 : 1 ≤ 2 ^ k := Nat.one_le_two_pow
    rw [show hv (k + 1) = 2 ^ k from rfl, fn_X_crumbs_L68, if_pos (show (0 : Int32) < Int32.ofNat (2 ^ k) from zl_lt (a := 0) (by omega) (by omega)), zi_add, xs_below ok cx b (by omega), e_bd, e_jn, div2 (by omega)]
    simp only [e_bd, e_let]
    have hG := crG_lt ok.1 ok.2.1 b (x + 2 ^ k)
    unfold crB
    by_cases c : cr_G (aR A) (hS (aH A)) b (x + 2 ^ k) ≤ n
    · rw [if_pos (zl_le c (by omega)), if_pos c]
      exact ih (x + 2 ^ k) fu (by omega) (by omega) (by omega)
    · rw [if_neg (zl_nle (by omega) (by omega)), if_neg c]
      exact ih x fu (by omega) (by omega) (by omega)
def qv_crumbs (A : ab_A) (p b : Int32) (n : Nat) : Int32 := if hasB (b &&& aR A 1) p.toNatClampNeg = true then Int32.ofNat (min (zz (aR A) p.toNatClampNeg) (crB (cr_G (aR A) (hS (aH A)) (b &&& aR A 1)) n 10 0)) else 0
theorem xq_crumbs (ok : AOK A) (cx : CX σ A) (p b w : Int32) : XQ σ (fn_X_crumbs 0 p b w σ) (qb_o (oneB p (hS (aH A))) (qb_i (inB b 0 (((1 : Int32) <<< (Int32.ofNat (hS (aH A)) &&& 31)) - 1)) (qb_i (inB w 0 999) 0))) (qv_crumbs A p b w.toNatClampNeg) := by
  unfold fn_X_crumbs
  refine xg_one (by rw [xf_1]; exact hx_S cx.1) fun h1 => ?_
  rw [xf_1, hx_S cx.1]
  refine xg_in fun h2 => xg_in fun h3 => ?_
  have hc := cnt_lt ok.1
  obtain ⟨k, hk, rfl⟩ := oneB_z (by omega) h1
  obtain ⟨n, hn, rfl⟩ := zB_in (n := 999) (by decide) h3
  refine xq_v ?_
  rw [xf_6, xs_living so_32 cx.2.1, e_bd, e_let, bit_if, zi_nat (by omega)]
  unfold qv_crumbs
  rw [zi_nat (by omega)]
  by_cases hb : hasB (b &&& aR A 1) k = true
  · rw [if_pos hb, if_pos hb, e_let, e_let]
    have h := xl_crumbs ok cx (p := Int32.ofNat k) (b := b &&& aR A 1) (n := n) (by omega) (fun y => Option.bind (fn_State_size 32 (Int32.ofNat k) σ) fun z15 => some (.inr (px_min z15 y, σ))) 10 0 FU (by decide) (by decide) (FU_gt (by decide))
    refine h.trans ?_
    have hz := zz_ok ok.2.1 hk
    have hB := (crB_ok (cr_G (aR A) (hS (aH A)) (b &&& aR A 1)) n 10 0 (by rw [crG_0]; omega) (by decide) (Or.inl (by decide))).2.1
    rw [xs_size so_32 cx.2.1 ok.1 k hk, e_bd, hz.1, min_nat (by omega) (by omega)]
  · rw [if_neg hb, if_neg hb]
theorem ms_givenBy (ok : AOK A) (cm : CM σ A) (b : Int32) {x : Nat} (hx : x < 2000) : fn_M_givenBy 52 b (Int32.ofNat x) σ = some (Int32.ofNat (cr_G (aR A) (hS (aH A)) (b &&& aR A 1) x)) := by
  unfold fn_M_givenBy
  rw [e_let, e_let]
  have h8 := ok.1.2.2.1
  rw [show Int32.ofNat (cr_G (aR A) (hS (aH A)) (b &&& aR A 1) x) = zF (fun s (acc : Int32) => if hasB (b &&& aR A 1) s = true then acc + Int32.ofNat (min (zz (aR A) s) x) else acc) (hS (aH A)) 0 0 from (nS_I _ _ (hS (aH A)) 0 0).symm]
  refine zL_0 (L := fun fu a i => fn_M_givenBy_L5 52 b (Int32.ofNat x) σ (fun y => some y) fu a i) (k := fun y => some y) (N := hS (aH A)) _ (by omega) (fun fu a => ?_) (fun fu i a hi => ?_) 0
  · try dsimp only
    rw [fn_M_givenBy_L5, sm_12, (hm_n cm.1).2.2.1, e_bd, if_neg Int32.lt_irrefl]
  · try dsimp only
    have hz := zz_ok ok.2.1 hi
    rw [fn_M_givenBy_L5, sm_12, (hm_n cm.1).2.2.1, e_bd, if_pos (zl_lt hi (by omega)), ms_has, e_bd, e_jn, bI_if, ms_sizeNow cm.2.1 ok.1 i hi, e_bd, ms_less, e_bd, hasB_and (show i < 32 by omega)]
    simp only [e_let, zi_succ, Int32.add_zero]
    cases c1 : hasB b i with
    | false => simp only [Bool.false_and, Bool.false_eq_true, if_false]
    | true =>
      cases c2 : hasB (aR A 1) i with
      | false =>
        simp only [if_true, Bool.and_false, Bool.false_eq_true, if_false]
        rw [if_neg (show ¬ Int32.ofNat x < 0 from zl_nlt (b := 0) (by omega) (by omega)), Int32.add_zero]
      | true =>
        simp only [if_true, Bool.and_true]
        rw [min_less, hz.1, min_nat (by omega) (by omega), Nat.min_comm]
theorem ml_crumbs (ok : AOK A) (cm : CM σ A) {p : Int32} {b : Int32} {n : Nat} (hn : n < 1000) (K : Int32 → Option (Int32 × hp_I)) : ∀ (m x fu : Nat), x + m = 999 → m < fu → fn_M_crumbs_L76 52 p b (Int32.ofNat n) σ K fu (Int32.ofNat x) = K (Int32.ofNat (crL (cr_G (aR A) (hS (aH A)) (b &&& aR A 1)) n m x)) := by
  intro m
  induction m with
  | zero =>
    intro x fu hx hf
    obtain ⟨fu, rfl⟩ : ∃ f, fu = f + 1 := ⟨fu - 1, by omega⟩
    rw [fn_M_crumbs_L76, if_neg (show ¬ Int32.ofNat x < 999 from zl_nlt (b := 999) (by omega) (by omega))]
    rfl
  | succ m ih =>
    intro x fu hx hf
    obtain ⟨fu, rfl⟩ : ∃ f, fu = f + 1 := ⟨fu - 1, by omega⟩
    have hG := crG_lt ok.1 ok.2.1 (b &&& aR A 1) (x + 1)
    rw [fn_M_crumbs_L76, if_pos (show Int32.ofNat x < 999 from zl_lt (b := 999) (by omega) (by decide)), zi_succ, ms_givenBy ok cm b (by omega), e_bd, e_let]
    unfold crL
    by_cases c : cr_G (aR A) (hS (aH A)) (b &&& aR A 1) (x + 1) ≤ n
    · rw [if_pos (zl_le c (by omega)), if_pos c]
      exact ih (x + 1) fu (by omega) (by omega)
    · rw [if_neg (zl_nle (by omega) (by omega)), if_neg c]
theorem mq_crumbs (ok : AOK A) (cm : CM σ A) (p b w : Int32) : MQs σ (fn_M_crumbs 52 p b w σ) (qb_o (oneB p (hS (aH A))) (qb_i (inB b 0 (((1 : Int32) <<< (Int32.ofNat (hS (aH A)) &&& 31)) - 1)) (qb_i (inB w 0 999) 0))) (qv_crumbs A p b w.toNatClampNeg) 2 := by
  unfold fn_M_crumbs
  simp only [e_let, e_jn]
  have cm0 := cm_0 ok cm
  have hc := cnt_lt ok.1
  rw [mt_S cm.1 ok.1, e_bd]
  refine mb_a fun h1 => ?_
  rw [sm_12, (hm_n cm0.1).2.2.1, e_bd, ms_in', e_bd]
  refine mor mb_c1 fun h2 => ?_
  rw [ms_in', e_bd]
  refine mor mb_c1 fun h3 => ?_
  refine mb_c0 ?_
  obtain ⟨k, hk, rfl⟩ := oneB_z (by omega) h1
  obtain ⟨n, hn, rfl⟩ := zB_in (n := 999) (by decide) h3
  refine mq_v0 ?_
  generalize hp_s σ 52 0 0 = s at cm0 ⊢
  have h := ml_crumbs ok cm0 (p := Int32.ofNat k) (b := b) (n := n) (by omega) (fun y => Option.bind (fn_M_has b (Int32.ofNat k)) fun z17 => if z17 = 0 then some ((0 : Int32), s) else Option.bind (fn_M_sizeNow 52 (Int32.ofNat k) s) fun z20 => Option.bind (fn_M_less y z20) fun z21 => some (z21, s)) 999 0 FU (by decide) (FU_gt (by decide))
  refine h.trans ?_
  have hz := zz_ok ok.2.1 hk
  have hL := (crL_ok (cr_G (aR A) (hS (aH A)) (b &&& aR A 1)) n 999 0 (by rw [crG_0]; omega) (by decide)).2.1
  rw [ms_has, e_bd, bI_if, ms_sizeNow cm0.2.1 ok.1 k hk, e_bd, ms_less, e_bd]
  unfold qv_crumbs
  rw [zi_nat (by omega), zi_nat (by omega), hasB_and (show k < 32 by have := ok.1.2.2.1; omega), cr_eq _ (crG_mono _ _ _) (crG_0 _ _ _) n _ hz.2.2]
  cases c1 : hasB b k with
  | false => simp only [Bool.false_and, Bool.false_eq_true, if_false]
  | true =>
    cases c2 : hasB (aR A 1) k with
    | false =>
      simp only [if_true, Bool.and_false, Bool.false_eq_true, if_false]
      rw [if_neg (show ¬ Int32.ofNat (crL (cr_G (aR A) (hS (aH A)) (b &&& aR A 1)) n 999 0) < 0 from zl_nlt (b := 0) (by omega) (by omega))]
    | true =>
      simp only [if_true, Bool.and_true]
      rw [min_less, hz.1, min_nat (by omega) (by omega), Nat.min_comm]
end CRU

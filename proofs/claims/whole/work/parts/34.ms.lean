/-! THE MODEL'S ROWS -/
theorem sm_9 : sh_rf 52 9 = 53 := by decide +kernel
theorem sm_10 : sh_rf 52 10 = 54 := by decide +kernel
theorem sm_11 : sh_rf 52 11 = 55 := by decide +kernel
theorem sm_12 : sh_rf 52 12 = 56 := by decide +kernel
theorem sm_13 : sh_rf 52 13 = 57 := by decide +kernel
theorem sm_14 : sh_rf 52 14 = 106 := by decide +kernel
theorem sm_17 : sh_rf 52 17 = 155 := by decide +kernel
theorem sm_18 : sh_rf 52 18 = 316 := by decide +kernel
theorem sm_19 : sh_rf 52 19 = 477 := by decide +kernel
theorem sm_20 : sh_rf 52 20 = 483 := by decide +kernel
theorem sm_21 : sh_rf 52 21 = 489 := by decide +kernel
theorem sm_22 : sh_rf 52 22 = 490 := by decide +kernel
theorem sm_23 : sh_rf 52 23 = 491 := by decide +kernel
theorem sm_25 : sh_rf 52 25 = 572 := by decide +kernel
theorem sm_26 : sh_rf 52 26 = 573 := by decide +kernel
theorem sm_27 : sh_rf 52 27 = 574 := by decide +kernel
theorem sm_28 : sh_rf 52 28 = 575 := by decide +kernel
theorem sm_29 : sh_rf 52 29 = 592 := by decide +kernel
theorem sm_37 : sh_rf 52 37 = 596 := by decide +kernel
theorem sm_38 : sh_rf 52 38 = 597 := by decide +kernel
theorem sm_39 : sh_rf 52 39 = 598 := by decide +kernel
theorem sm_40 : sh_rf 52 40 = 599 := by decide +kernel
theorem sm_43 : sh_rf 52 43 = 600 := by decide +kernel
theorem sm_106 (a : Nat) : sh_rf 106 a = 107 + a := by unfold sh_rf; rw [if_pos (by decide +kernel)]
theorem sn_106 : sh_ln 106 = 48 := by decide +kernel
theorem sn_56 : sh_ln 56 = 4 := by decide +kernel
theorem sn_54 : sh_ln 54 = 2 := by decide +kernel
theorem sn_107 : ∀ a, a < 48 → sh_ln (107 + a) = 3 := by decide +kernel
def mp (k : Nat) : Nat := if k = 0 then 46 else if k < 5 then 41 + k else k - 5
def RM (σ : hp_I) (m : Nat) (H : ab_H) (ρ : Nat → Int32) : Prop := sh_ln m = 47 ∧ ∀ k, vk H k → σ m (mp k) = ρ k
def HM (σ : hp_I) (H : ab_H) : Prop := (σ 56 0 = Int32.ofNat (hR H) ∧ σ 56 1 = Int32.ofNat (hW H) ∧ σ 56 2 = Int32.ofNat (hS H) ∧ σ 56 3 = Int32.ofNat (hC H)) ∧ (∀ r, r < hR H → σ (107 + r) 0 = hV H 0 r) ∧ (∀ w, w < hW H → σ (107 + (12 + w)) 0 = hV H 1 w ∧ σ (107 + (12 + w)) 1 = hV H 2 w) ∧ (∀ s, s < hS H → σ (107 + (24 + s)) 0 = hV H 3 s ∧ σ (107 + (24 + s)) 1 = hV H 4 s ∧ σ (107 + (24 + s)) 2 = hV H 5 s) ∧ ∀ c, c < hC H → σ (107 + (36 + c)) 0 = hV H 6 c ∧ σ (107 + (36 + c)) 1 = hV H 7 c
section MS
variable {σ : hp_I} {H : ab_H} {ρ : Nat → Int32} {m : Nat}
theorem rm_k (h : RM σ m H ρ) {k : Nat} (hk : vk H k) (hl : k < 47) : px_ald σ m (Int32.ofNat (mp k)) = some (ρ k) := by
  have hm : mp k < 47 := by unfold mp; split <;> (try split) <;> omega
  rw [zi_ald (by rw [h.1]; exact hm) (by omega), h.2 k hk]
theorem rm_0 (h : RM σ m H ρ) : px_ald σ m 46 = some (ρ 0) := rm_k h (k := 0) (Or.inl (by decide)) (by decide)
theorem rm_1 (h : RM σ m H ρ) : px_ald σ m 42 = some (ρ 1) := rm_k h (k := 1) (Or.inl (by decide)) (by decide)
theorem rm_2 (h : RM σ m H ρ) : px_ald σ m 43 = some (ρ 2) := rm_k h (k := 2) (Or.inl (by decide)) (by decide)
theorem rm_3 (h : RM σ m H ρ) : px_ald σ m 44 = some (ρ 3) := rm_k h (k := 3) (Or.inl (by decide)) (by decide)
theorem rm_4 (h : RM σ m H ρ) : px_ald σ m 45 = some (ρ 4) := rm_k h (k := 4) (Or.inl (by decide)) (by decide)
theorem mp_hi {k : Nat} (h : 5 ≤ k) : mp k = k - 5 := by unfold mp; rw [if_neg (by omega), if_neg (by omega)]
theorem rm_5 (h : RM σ m H ρ) (ok : HOK H) : ∀ q, q < hS H → px_ald σ m (0 + Int32.ofNat q) = some (ρ (5 + q)) := fun q hq => by
  have := ok.2.2.1
  have e := rm_k h (k := 5 + q) (Or.inr (Or.inl (by omega))) (by omega)
  rw [mp_hi (by omega), show 5 + q - 5 = 0 + q by omega, ← zi_add] at e
  exact e
theorem rm_13 (h : RM σ m H ρ) (ok : HOK H) : ∀ q, q < hS H → px_ald σ m (8 + Int32.ofNat q) = some (ρ (13 + q)) := fun q hq => by
  have := ok.2.2.1
  have e := rm_k h (k := 13 + q) (Or.inr (Or.inr (Or.inl (by omega)))) (by omega)
  rw [mp_hi (by omega), show 13 + q - 5 = 8 + q by omega, ← zi_add] at e
  exact e
theorem rm_21 (h : RM σ m H ρ) (ok : HOK H) : ∀ q, q < hS H → px_ald σ m (16 + Int32.ofNat q) = some (ρ (21 + q)) := fun q hq => by
  have := ok.2.2.1
  have e := rm_k h (k := 21 + q) (Or.inr (Or.inr (Or.inr (Or.inl (by omega))))) (by omega)
  rw [mp_hi (by omega), show 21 + q - 5 = 16 + q by omega, ← zi_add] at e
  exact e
theorem rm_29 (h : RM σ m H ρ) (ok : HOK H) : ∀ q, q < hS H → px_ald σ m (24 + Int32.ofNat q) = some (ρ (29 + q)) := fun q hq => by
  have := ok.2.2.1
  have e := rm_k h (k := 29 + q) (Or.inr (Or.inr (Or.inr (Or.inr (Or.inl (by omega)))))) (by omega)
  rw [mp_hi (by omega), show 29 + q - 5 = 24 + q by omega, ← zi_add] at e
  exact e
theorem rm_37 (h : RM σ m H ρ) (ok : HOK H) : ∀ q, q < hC H → px_ald σ m (32 + Int32.ofNat q) = some (ρ (37 + q)) := fun q hq => by
  have := ok.2.2.2.1
  have e := rm_k h (k := 37 + q) (Or.inr (Or.inr (Or.inr (Or.inr (Or.inr (Or.inl (by omega))))))) (by omega)
  rw [mp_hi (by omega), show 37 + q - 5 = 32 + q by omega, ← zi_add] at e
  exact e
theorem rm_42 (h : RM σ m H ρ) (ok : HOK H) : ∀ q, q < hC H → px_ald σ m (37 + Int32.ofNat q) = some (ρ (42 + q)) := fun q hq => by
  have := ok.2.2.2.1
  have e := rm_k h (k := 42 + q) (Or.inr (Or.inr (Or.inr (Or.inr (Or.inr (Or.inr (by omega))))))) (by omega)
  rw [mp_hi (by omega), show 42 + q - 5 = 37 + q by omega, ← zi_add] at e
  exact e
theorem hm_n (h : HM σ H) : px_ald σ 56 0 = some (Int32.ofNat (hR H)) ∧ px_ald σ 56 1 = some (Int32.ofNat (hW H)) ∧ px_ald σ 56 2 = some (Int32.ofNat (hS H)) ∧ px_ald σ 56 3 = some (Int32.ofNat (hC H)) := by
  refine ⟨?_, ?_, ?_, ?_⟩
  · rw [← h.1.1]; exact zi_ald (a := 0) (by rw [sn_56]; decide) (by decide)
  · rw [← h.1.2.1]; exact zi_ald (a := 1) (by rw [sn_56]; decide) (by decide)
  · rw [← h.1.2.2.1]; exact zi_ald (a := 2) (by rw [sn_56]; decide) (by decide)
  · rw [← h.1.2.2.2]; exact zi_ald (a := 3) (by rw [sn_56]; decide) (by decide)
theorem ms_row {k a : Nat} (hk : 12 * k + a < 48) : px_rld 106 (((12 : Int32) * Int32.ofNat k) + Int32.ofNat a) = some (107 + (12 * k + a)) := by
  have e : ((12 : Int32) * Int32.ofNat k) + Int32.ofNat a = Int32.ofNat (12 * k + a) := by rw [← zi_add, Int32.ofNat_mul]; rfl
  rw [e, zi_rld (by rw [sn_106]; exact hk) (by omega), sm_106]
theorem ms_col {a j : Nat} (ha : a < 48) (hj : j < 3) : px_ald σ (107 + a) (Int32.ofNat j) = some (σ (107 + a) j) := zi_ald (by rw [sn_107 a ha]; exact hj) (by omega)
theorem ms_hide (h : HM σ H) (ok : HOK H) (v : Int32) (hv : zB v (hR H)) : fn_M_hide 52 v σ = some (hV H 0 v.toNatClampNeg) := by
  have h0 := ok.1
  obtain ⟨h1, h2⟩ := zB_nat (by omega) hv
  generalize v.toNatClampNeg = q at h1 h2
  subst h2
  unfold fn_M_hide fn_M_placeOf
  simp only [Option.bind_some, sm_14]
  rw [show (px_rld 106 (((12 : Int32) * 0) + Int32.ofNat q)) = some (107 + (12 * 0 + q)) from ms_row (k := 0) (by omega), Option.bind_some]
  rw [show (px_ald σ (107 + (12 * 0 + q)) 0) = some (σ (107 + (12 * 0 + q)) 0) from ms_col (j := 0) (by omega) (by decide), Option.bind_some, Nat.mul_zero, Nat.zero_add, h.2.1 q h1]
theorem ms_end0 (h : HM σ H) (ok : HOK H) (q : Nat) (hq : q < hW H) : fn_M_wayEnd 52 (Int32.ofNat q) 0 σ = some (hV H 1 q) := by
  have h0 := ok.2.1
  unfold fn_M_wayEnd fn_M_placeOf
  simp only [Option.bind_some, sm_14]
  rw [show (px_rld 106 (((12 : Int32) * 1) + Int32.ofNat q)) = some (107 + (12 * 1 + q)) from ms_row (k := 1) (by omega), Option.bind_some]
  rw [show (px_ald σ (107 + (12 * 1 + q)) 0) = some (σ (107 + (12 * 1 + q)) 0) from ms_col (j := 0) (by omega) (by decide), Option.bind_some, Nat.mul_one, (h.2.2.1 q hq).1]
theorem ms_end1 (h : HM σ H) (ok : HOK H) (q : Nat) (hq : q < hW H) : fn_M_wayEnd 52 (Int32.ofNat q) 1 σ = some (hV H 2 q) := by
  have h0 := ok.2.1
  unfold fn_M_wayEnd fn_M_placeOf
  simp only [Option.bind_some, sm_14]
  rw [show (px_rld 106 (((12 : Int32) * 1) + Int32.ofNat q)) = some (107 + (12 * 1 + q)) from ms_row (k := 1) (by omega), Option.bind_some]
  rw [show (px_ald σ (107 + (12 * 1 + q)) 1) = some (σ (107 + (12 * 1 + q)) 1) from ms_col (j := 1) (by omega) (by decide), Option.bind_some, Nat.mul_one, (h.2.2.1 q hq).2]
theorem ms_grow (h : HM σ H) (ok : HOK H) (q : Nat) (hq : q < hS H) : fn_M_grow 52 (Int32.ofNat q) σ = some (hV H 5 q) := by
  have h0 := ok.2.2.1
  unfold fn_M_grow fn_M_placeOf
  simp only [Option.bind_some, sm_14]
  rw [show (px_rld 106 (((12 : Int32) * 2) + Int32.ofNat q)) = some (107 + (12 * 2 + q)) from ms_row (k := 2) (by omega), Option.bind_some]
  rw [show (px_ald σ (107 + (12 * 2 + q)) 2) = some (σ (107 + (12 * 2 + q)) 2) from ms_col (j := 2) (by omega) (by decide), Option.bind_some, show 12 * 2 + q = 24 + q from rfl, (h.2.2.2.1 q hq).2.2]
theorem ms_nose (h : HM σ H) (ok : HOK H) (q : Nat) (hq : q < hC H) : fn_M_nose 52 (Int32.ofNat q) σ = some (hV H 7 q) := by
  have h0 := ok.2.2.2.1
  unfold fn_M_nose fn_M_placeOf
  simp only [Option.bind_some, sm_14]
  rw [show (px_rld 106 (((12 : Int32) * 3) + Int32.ofNat q)) = some (107 + (12 * 3 + q)) from ms_row (k := 3) (by omega), Option.bind_some]
  rw [show (px_ald σ (107 + (12 * 3 + q)) 1) = some (σ (107 + (12 * 3 + q)) 1) from ms_col (j := 1) (by omega) (by decide), Option.bind_some, show 12 * 3 + q = 36 + q from rfl, (h.2.2.2.2 q hq).2]
theorem ms_has (b : Int32) (q : Nat) : fn_M_has b (Int32.ofNat q) = some (bI (hasB b q)) := by
  unfold fn_M_has
  simp only [px_jn, hasB, bI, decide_eq_true_eq]
  split <;> rfl
theorem ms_in (a b d : Int32) : fn_M_in a b d = some (bI (decide (b ≤ a) && decide (a ≤ d))) := by
  unfold fn_M_in
  simp only [px_jn]
  by_cases h1 : b ≤ a <;> by_cases h2 : a ≤ d <;> simp [h1, h2, bI, px_z]
theorem ms_less (a b : Int32) : fn_M_less a b = some (if a < b then a else b) := by
  unfold fn_M_less
  simp only [px_jn]
  split <;> rfl
theorem ms_more2 (a b : Int32) : fn_M_more2 a b = some (if b < a then a else b) := by
  unfold fn_M_more2
  simp only [px_jn]
  split <;> rfl
theorem ms_lives (rm : RM σ m H ρ) (q : Nat) : fn_M_lives m (Int32.ofNat q) σ = some (bI (hasB (ρ 1) q)) := by
  unfold fn_M_lives
  simp only [rm_1 rm, Option.bind_some, ms_has, bI_z]
theorem ms_catsIn (hm : HM σ H) (rm : RM σ m H ρ) (ok : HOK H) (v : Int32) : fn_M_catsIn 52 m v σ = some (sp_cin H ρ v) := by
  unfold fn_M_catsIn
  simp only [px_let]
  have hn := ok.2.2.2.1
  refine zL_0 (L := fun fu a i => fn_M_catsIn_L5 52 m v σ _ fu a i) (N := hC H) _ (by omega) (fun fu a => ?_) (fun fu i a hi => ?_) 0
  · try dsimp only
    rw [fn_M_catsIn_L5]
    simp only [sm_12, (hm_n hm).2.2.2, Option.bind_some, Int32.lt_irrefl, if_false]
  · try dsimp only
    rw [fn_M_catsIn_L5]
    simp only [Option.bind_some, px_jn, px_let, zi_succ, if_true, if_false, bI_0, sm_12, sm_25, sm_14, (hm_n hm).2.2.2, zi_lt (show i < 2147483648 by omega) (show hC H < 2147483648 by omega), hi, rm_37 rm ok i hi, bitI]
    split
    · rfl
    · rw [Int32.or_zero]

theorem ms_beside (hm : HM σ H) (rm : RM σ m H ρ) (ok : HOK H) (v : Int32) : fn_M_beside 52 m v σ = some (sp_bes H ρ v) := by
  unfold fn_M_beside
  simp only [px_let]
  have hn := ok.2.1
  refine zL_0 (L := fun fu a i => fn_M_beside_L5 52 m v σ _ fu a i) (N := hW H) _ (by omega) (fun fu a => ?_) (fun fu i a hi => ?_) 0
  · try dsimp only
    rw [fn_M_beside_L5]
    simp only [sm_12, (hm_n hm).2.1, Option.bind_some, Int32.lt_irrefl, if_false]
  · try dsimp only
    rw [fn_M_beside_L5]
    simp only [Option.bind_some, px_jn, px_let, zi_succ, if_true, if_false, bI_0, sm_12, sm_25, sm_14, (hm_n hm).2.1, zi_lt (show i < 2147483648 by omega) (show hW H < 2147483648 by omega), hi, rm_4 rm, ms_has, ms_end0 hm ok i hi, ms_end1 hm ok i hi]
    have hne := (ok.2.2.2.2.2.1 i hi).2.2
    cases hasB (ρ 4) i
    · simp only [Bool.false_eq_true, if_true, if_false]
      by_cases h1 : hV H 1 i = v
      · have h2 : ¬ hV H 2 i = v := fun h => hne (h1.trans h.symm)
        simp only [h1, h2, if_true, if_false, Int32.or_zero]
      · by_cases h2 : hV H 2 i = v
        · simp only [h1, h2, if_true, if_false, Int32.or_zero]
        · simp only [h1, h2, if_true, if_false, Int32.or_zero]
    · rfl

theorem ms_sees (hm : HM σ H) (rm : RM σ m H ρ) (ok : HOK H) (ro : ROK H ρ) (q : Nat) (hq : q < hC H) (i : Nat) (hi : i < hS H) : fn_M_sees 52 m (Int32.ofNat q) (Int32.ofNat i) σ = some (bI (hasB (ρ 1) i && (decide (ρ (5 + i) = ρ (37 + q)) && sp_ws H q (ρ (13 + i)) (ρ (37 + q))))) := by
  unfold fn_M_sees
  simp only [ms_lives rm i, Option.bind_some, px_jn, bI_0, rm_37 rm ok q hq, rm_5 rm ok i hi, rm_13 rm ok i hi, ms_nose hm ok q hq, ms_hide hm ok _ (ro.1 i hi).1, sp_ws]
  cases hasB (ρ 1) i
  · rfl
  · simp only [Bool.true_eq_false, if_false, Bool.true_and]
    by_cases h : ρ (37 + q) = ρ (5 + i)
    · simp only [h, if_true, decide_true, Bool.true_and]
      by_cases h2 : hV H 0 (ρ (5 + i)).toNatClampNeg < ρ (13 + i) + hV H 7 q
      · simp [h2, px_z, bI]
      · simp [h2, px_z, bI]
    · have h3 : ¬ ρ (5 + i) = ρ (37 + q) := fun e => h e.symm
      simp [h, h3, px_z, bI]
theorem ms_seen (hm : HM σ H) (rm : RM σ m H ρ) (ok : HOK H) (ro : ROK H ρ) (q : Nat) (hq : q < hC H) : fn_M_seen 52 m (Int32.ofNat q) σ = some (sp_see H ρ q) := by
  unfold fn_M_seen
  simp only [px_let]
  have hn := ok.2.2.1
  refine zL_0 (L := fun fu a i => fn_M_seen_L5 52 m (Int32.ofNat q) σ _ fu a i) (N := hS H) _ (by omega) (fun fu a => ?_) (fun fu i a hi => ?_) 0
  · try dsimp only
    rw [fn_M_seen_L5]
    simp only [sm_12, (hm_n hm).2.2.1, Option.bind_some, Int32.lt_irrefl, if_false]
  · try dsimp only
    rw [fn_M_seen_L5]
    simp only [Option.bind_some, px_jn, px_let, zi_succ, if_true, if_false, bI_0, sm_12, sm_25, sm_14, (hm_n hm).2.2.1, zi_lt (show i < 2147483648 by omega) (show hS H < 2147483648 by omega), hi, ms_sees hm rm ok ro q hq i hi, bitI]
    cases hasB (ρ 1) i
    · simp
    · by_cases h : ρ (5 + i) = ρ (37 + q)
      · cases sp_ws H q (ρ (13 + i)) (ρ (37 + q)) <;> simp [h]
      · simp [h]

theorem ms_sizes (hm : HM σ H) (rm : RM σ m H ρ) (ok : HOK H) : fn_M_sizes 52 m σ = some (sp_szo H ρ (ρ 1)) := by
  unfold fn_M_sizes
  simp only [px_let]
  have hn := ok.2.2.1
  refine zL_0 (L := fun fu a i => fn_M_sizes_L4 52 m σ _ fu a i) (N := hS H) _ (by omega) (fun fu a => ?_) (fun fu i a hi => ?_) 0
  · try dsimp only
    rw [fn_M_sizes_L4]
    simp only [sm_12, (hm_n hm).2.2.1, Option.bind_some, Int32.lt_irrefl, if_false]
  · try dsimp only
    rw [fn_M_sizes_L4]
    simp only [Option.bind_some, px_jn, px_let, zi_succ, if_true, if_false, bI_0, sm_12, sm_25, sm_14, (hm_n hm).2.2.1, zi_lt (show i < 2147483648 by omega) (show hS H < 2147483648 by omega), hi, ms_lives rm i, rm_13 rm ok i hi]
    cases hasB (ρ 1) i
    · simp
    · simp

theorem ms_proud (hm : HM σ H) (rm : RM σ m H ρ) (ok : HOK H) : fn_M_proud 52 m σ = some (sp_ctm H ρ).1 := by
  unfold fn_M_proud
  simp only [px_let]
  have hn := ok.2.2.2.1
  refine zL_0 (L := fun fu (a : Int32 × Int32) i => fn_M_proud_L7 52 m σ (fun y => some y) fu a.1 a.2 i) (k := fun a => some a.1) (N := hC H) _ (by omega) (fun fu a => ?_) (fun fu i a hi => ?_) (-1, 0)
  · try dsimp only
    rw [fn_M_proud_L7]
    simp only [sm_12, (hm_n hm).2.2.2, Option.bind_some, Int32.lt_irrefl, if_false]
  · try dsimp only
    rw [fn_M_proud_L7]
    simp only [Option.bind_some, px_jn, px_let, zi_succ, if_true, if_false, bI_0, sm_12, sm_25, sm_14, (hm_n hm).2.2.2, zi_lt (show i < 2147483648 by omega) (show hC H < 2147483648 by omega), hi, rm_42 rm ok i hi, ms_more2]
    by_cases h : a.2 < ρ (42 + i)
    · have h2 : ¬ ρ (42 + i) < a.2 := fun h3 => Int32.lt_irrefl (Int32.lt_trans h h3)
      simp only [h, h2, if_true, if_false]
    · simp only [h, if_false]
      by_cases h2 : ρ (42 + i) < a.2
      · simp only [h2, if_true]
      · simp only [h2, if_false]
        rw [show ρ (42 + i) = a.2 from Int32.le_antisymm (Int32.not_lt.mp h) (Int32.not_lt.mp h2)]

end MS

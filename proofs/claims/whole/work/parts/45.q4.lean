/-! QUESTIONS: folds -/
theorem hasB_m1 {k : Nat} (hk : k < 32) : hasB (-1) k = true := by
  revert k; decide
theorem and_m1 (a : Int32) : a &&& (-1) = a := hasB_ext fun k hk => by rw [hasB_and hk, hasB_m1 hk, Bool.and_true]
theorem v_bit (b : Int32) (k : Nat) : (b >>> (Int32.ofNat k &&& 31)) &&& 1 = bI (hasB b k) := by
  unfold hasB
  rcases and1 (b >>> (Int32.ofNat k &&& 31)) with h | h
  · rw [h]; rfl
  · rw [h]; rfl
theorem zF_ext {α : Type} (f g : Nat → α → α) (N : Nat) (h : ∀ i a, i < N → f i a = g i a) : ∀ n i a, i + n ≤ N → zF f n i a = zF g n i a
  | 0, _, _, _ => rfl
  | n + 1, i, a, hi => by
    show zF f n (i + 1) (f i a) = zF g n (i + 1) (g i a)
    rw [h i a (by omega)]
    exact zF_ext f g N h n (i + 1) _ (by omega)
/-- bits set one by one -/
theorem zF_has (P : Nat → Bool) (f : Nat → Int32 → Int32) (hf : ∀ i a, f i a = if P i = true then a ||| bitI i else a) (k : Nat) (hk : k < 32) : ∀ n i a, i + n ≤ 32 → hasB (zF f n i a) k = (hasB a k || (decide (i ≤ k) && decide (k < i + n) && P k))
  | 0, i, a, _ => by
    have : (decide (i ≤ k) && decide (k < i + 0) && P k) = false := by
      by_cases h : i ≤ k
      · simp [h]; omega
      · simp [h]
    rw [this, Bool.or_false]; rfl
  | n + 1, i, a, hi => by
    show hasB (zF f n (i + 1) (f i a)) k = _
    rw [zF_has P f hf k hk n (i + 1) _ (by omega), hf]
    by_cases hP : P i = true
    · rw [if_pos hP, hasB_or hk, hasB_bit (by omega) hk]
      by_cases e : i = k
      · subst e; simp [hP]
      · by_cases h1 : i ≤ k
        · have h2 : i + 1 ≤ k := by omega
          have h3 : (k < i + 1 + n) = (k < i + (n + 1)) := by apply propext; omega
          simp [e, h1, h2, h3]
        · have h2 : ¬ i + 1 ≤ k := by omega
          simp [e, h1, h2]
    · rw [if_neg hP]
      by_cases e : i = k
      · subst e
        have : P i = false := by simpa using hP
        simp [this]
      · by_cases h1 : i ≤ k
        · have h2 : i + 1 ≤ k := by omega
          have h3 : (k < i + 1 + n) = (k < i + (n + 1)) := by apply propext; omega
          simp [h1, h2, h3]
        · have h2 : ¬ i + 1 ≤ k := by omega
          simp [h1, h2]
theorem zF_has0 (P : Nat → Bool) (f : Nat → Int32 → Int32) (hf : ∀ i a, f i a = if P i = true then a ||| bitI i else a) {n k : Nat} (hk : k < n) (hn : n ≤ 32) : hasB (zF f n 0 0) k = P k := by
  rw [zF_has P f hf k (by omega) n 0 0 (by omega), hasB_zero (by omega)]
  simp [hk]
theorem liv_f (ρ : ab_R) (v : Int32) (i : Nat) (a : Int32) : (if hasB (ρ 1) i = true then (if ρ (5 + i) = v then a ||| bitI i else a) else a) = if (hasB (ρ 1) i && decide (ρ (5 + i) = v)) = true then a ||| bitI i else a := by
  by_cases h1 : hasB (ρ 1) i = true
  · by_cases h2 : ρ (5 + i) = v
    · rw [if_pos h1, if_pos h2, if_pos (by rw [h1, decide_eq_true h2]; rfl)]
    · rw [if_pos h1, if_neg h2, if_neg (by rw [h1, decide_eq_false h2]; decide)]
  · rw [if_neg h1, if_neg (by rw [Bool.not_eq_true] at h1; rw [h1]; simp)]
theorem liv_has {H : ab_H} (ok : HOK H) (ρ : ab_R) (v : Int32) {s : Nat} (hs : s < hS H) : hasB (sp_liv H ρ v) s = (hasB (ρ 1) s && decide (ρ (5 + s) = v)) := by
  unfold sp_liv
  have h8 := ok.2.2.1
  exact zF_has0 (fun s => hasB (ρ 1) s && decide (ρ (5 + s) = v)) (fun s acc => if hasB (ρ 1) s = true then (if ρ (5 + s) = v then acc ||| bitI s else acc) else acc) (liv_f ρ v) (n := hS H) (k := s) hs (by omega)
theorem bc_add0 : ∀ i, i < 8 → ∀ a, a < 2 ^ i → bc (Int32.ofNat a ||| bitI i) = bc (Int32.ofNat a) + 1 := by decide +kernel
theorem bc_add {a : Int32} {i : Nat} (hi : i < 8) (h : zB a (2 ^ i)) : bc (a ||| bitI i) = bc a + 1 := by
  obtain ⟨k, hk, rfl⟩ := h
  exact bc_add0 i hi k hk
theorem zB_bit' {t k : Nat} (h : t < k) (hk : k ≤ 8) : zB (bitI t) (2 ^ k) := zB_bit h hk
/-- counting bits that were set one by one -/
theorem zF_count (P : Nat → Bool) (f g : Nat → Int32 → Int32) (hf : ∀ i a, f i a = if P i = true then a ||| bitI i else a) (hg : ∀ i a, g i a = if P i = true then a + 1 else a) (n : Nat) : ∀ i a b, i + n ≤ 8 → zB a (2 ^ i) → bc a = b → bc (zF f n i a) = zF g n i b := by
  induction n with
  | zero => intro i a b _ _ h; exact h
  | succ n ih =>
    intro i a b hi hz h
    show bc (zF f n (i + 1) (f i a)) = zF g n (i + 1) (g i b)
    have hm : zB a (2 ^ (i + 1)) := zB_mono hz (Nat.pow_le_pow_right (by decide) (by omega))
    refine ih (i + 1) _ _ (by omega) ?_ ?_
    · rw [hf]
      split
      · exact zB_or (by omega) hm (zB_bit (by omega) (by omega))
      · exact hm
    · rw [hf, hg]
      split
      · rw [bc_add (by omega) hz, h]
      · exact h
theorem bc_0 : bc 0 = 0 := by decide
section Q4
variable {σ : hp_I} {A : ab_A}
/- way -/
def qv_way (A : ab_A) (p w : Int32) : Int32 := if w = 0 then hV (aH A) 1 p.toNatClampNeg else if w = 1 then hV (aH A) 2 p.toNatClampNeg else bI (hasB (aR A 4) p.toNatClampNeg)
theorem xq_way (ok : AOK A) (cx : CX σ A) (p w : Int32) : XQ σ (fn_X_way 0 p w σ) (qb_o (oneB p (hW (aH A))) (qb_i (inB w 0 2) 0)) (qv_way A p w) := by
  unfold fn_X_way
  refine xg_one (by rw [xf_1]; exact hx_W cx.1) fun h1 => xg_in fun h2 => ?_
  refine xq_v ?_
  have hc := cnt_lt ok.1
  obtain ⟨n, hn, rfl⟩ := oneB_z (by omega) h1
  simp only [e_swc, e_swn, xf_1, xf_6, sh_p5, sh_p6, hx_from cx.1 ok.1 n hn, hx_to cx.1 ok.1 n hn, xs_shutWays so_32 cx.2.1, e_bd, v_bit]
  unfold qv_way
  rw [zi_nat (by omega)]
  split
  · rfl
  split <;> rfl
theorem mq_way (ok : AOK A) (cm : CM σ A) (p w : Int32) : MQs σ (fn_M_way 52 p w σ) (qb_o (oneB p (hW (aH A))) (qb_i (inB w 0 2) 0)) (qv_way A p w) 2 := by
  unfold fn_M_way
  simp only [e_let, e_jn]
  have cm0 := cm_0 ok cm
  have hc := cnt_lt ok.1
  rw [mt_W cm.1 ok.1, e_bd]
  refine mb_a fun h1 => ?_
  rw [ms_in', e_bd]
  refine mb_c fun h2 => ?_
  refine mq_v0 ?_
  obtain ⟨n, hn, rfl⟩ := oneB_z (by omega) h1
  unfold qv_way
  rw [zi_nat (by omega)]
  obtain ⟨k, hk, rfl⟩ := zB_in (n := 2) (by decide) h2
  match k, hk with
  | 0, _ =>
    rw [if_neg (by decide), if_pos (by decide), show Int32.ofNat 0 = 0 from rfl, ms_end0 cm0.1 ok.1 n hn, e_bd]
  | 1, _ =>
    rw [if_neg (by decide), if_neg (by decide), if_pos (by decide), show Int32.ofNat 1 = 1 from rfl, ms_end1 cm0.1 ok.1 n hn, e_bd]
  | 2, _ =>
    rw [if_pos (by decide), if_neg (by decide), if_neg (by decide), sm_25, rm_4 cm0.2.1, e_bd, v_bit]
/- scheme -/
def qv_scheme (A : ab_A) (p w : Int32) : Int32 := if w = 0 then aR A (5 + p.toNatClampNeg) else if w = 1 then aR A (13 + p.toNatClampNeg) else if w = 2 then hV (aH A) 5 p.toNatClampNeg else if w = 3 then bI (hasB (aR A 1) p.toNatClampNeg) else if w = 4 then aR A (21 + p.toNatClampNeg) else aR A (29 + p.toNatClampNeg)
theorem xq_scheme (ok : AOK A) (cx : CX σ A) (p w : Int32) : XQ σ (fn_X_scheme 0 p w σ) (qb_o (oneB p (hS (aH A))) (qb_i (inB w 0 5) 0)) (qv_scheme A p w) := by
  unfold fn_X_scheme
  refine xg_one (by rw [xf_1]; exact hx_S cx.1) fun h1 => xg_in fun h2 => ?_
  refine xq_v ?_
  have hc := cnt_lt ok.1
  obtain ⟨n, hn, rfl⟩ := oneB_z (by omega) h1
  simp only [e_swc, e_swn, e_jn, xf_1, xf_6, sh_p9, xs_roomOf so_32 cx.2.1 ok.1 n hn, xs_size so_32 cx.2.1 ok.1 n hn, xs_when so_32 cx.2.1 ok.1 n hn, xs_by so_32 cx.2.1 ok.1 n hn, xs_lives so_32 cx.2.1, hx_gr cx.1 ok.1 n hn, e_bd]
  unfold qv_scheme
  rw [zi_nat (by omega)]
  split
  · rfl
  split
  · rfl
  split
  · rfl
  split
  · cases hasB (aR A 1) n <;> rfl
  split <;> rfl
theorem mq_scheme (ok : AOK A) (cm : CM σ A) (p w : Int32) : MQs σ (fn_M_scheme 52 p w σ) (qb_o (oneB p (hS (aH A))) (qb_i (inB w 0 5) 0)) (qv_scheme A p w) 2 := by
  unfold fn_M_scheme
  simp only [e_let, e_jn]
  have cm0 := cm_0 ok cm
  have hc := cnt_lt ok.1
  rw [mt_S cm.1 ok.1, e_bd]
  refine mb_a fun h1 => ?_
  rw [ms_in', e_bd]
  refine mb_c fun h2 => ?_
  refine mq_v0 ?_
  obtain ⟨n, hn, rfl⟩ := oneB_z (by omega) h1
  unfold qv_scheme
  rw [zi_nat (by omega)]
  simp only [e_swc, e_swn, sm_25, rm_5 cm0.2.1 ok.1 n hn, rm_13 cm0.2.1 ok.1 n hn, rm_21 cm0.2.1 ok.1 n hn, rm_29 cm0.2.1 ok.1 n hn, rm_1 cm0.2.1, ms_grow cm0.1 ok.1 n hn, e_bd, v_bit]
  split
  · rfl
  split
  · rfl
  split
  · rfl
  split
  · rfl
  split <;> rfl
/- cat -/
def qv_cat (A : ab_A) (p w : Int32) : Int32 := if w = 0 then aR A (37 + p.toNatClampNeg) else if w = 1 then hV (aH A) 7 p.toNatClampNeg else if w = 2 then aR A (42 + p.toNatClampNeg) else sp_see (aH A) (aR A) p.toNatClampNeg
theorem xq_cat (ok : AOK A) (cx : CX σ A) (p w : Int32) : XQ σ (fn_X_cat 0 p w σ) (qb_o (oneB p (hC (aH A))) (qb_i (inB w 0 3) 0)) (qv_cat A p w) := by
  unfold fn_X_cat
  refine xg_one (by rw [xf_1]; exact hx_C cx.1) fun h1 => xg_in fun h2 => ?_
  refine xq_v ?_
  have hc := cnt_lt ok.1
  obtain ⟨n, hn, rfl⟩ := oneB_z (by omega) h1
  simp only [e_swc, e_swn, xf_1, xf_6, sh_p11, xs_catRoom so_32 cx.2.1 ok.1 n hn, xs_took so_32 cx.2.1 ok.1 n hn, xs_seenBy so_32 cx.1 cx.2.1 ok.1 ok.2.1 n hn, hx_ns cx.1 ok.1 n hn, e_bd]
  unfold qv_cat
  rw [zi_nat (by omega)]
  split
  · rfl
  split
  · rfl
  split <;> rfl
theorem mq_cat (ok : AOK A) (cm : CM σ A) (p w : Int32) : MQs σ (fn_M_cat 52 p w σ) (qb_o (oneB p (hC (aH A))) (qb_i (inB w 0 3) 0)) (qv_cat A p w) 2 := by
  unfold fn_M_cat
  simp only [e_let, e_jn]
  have cm0 := cm_0 ok cm
  have hc := cnt_lt ok.1
  rw [mt_C cm.1 ok.1, e_bd]
  refine mb_a fun h1 => ?_
  rw [ms_in', e_bd]
  refine mb_c fun h2 => ?_
  refine mq_v0 ?_
  obtain ⟨n, hn, rfl⟩ := oneB_z (by omega) h1
  unfold qv_cat
  rw [zi_nat (by omega)]
  simp only [sm_25, rm_37 cm0.2.1 ok.1 n hn, rm_42 cm0.2.1 ok.1 n hn, ms_nose cm0.1 ok.1 n hn, ms_seen cm0.1 cm0.2.1 ok.1 ok.2.1 n hn, e_bd]
  split
  · rfl
  split
  · rfl
  split <;> rfl
end Q4

/-! UNCLE, SUMS, CRUMBS -/
section UNC
variable {σ : hp_I} {A : ab_A}
def gn (v w m t : Int32) : Int32 := (if t = 0 then v else 0) - (if m = 0 then w else 0)
theorem xs_gain (v w m t : Int32) : fn_X_gain v w m t = some (gn v w m t) := by
  unfold fn_X_gain gn
  simp only [e_jn]
  by_cases h1 : t = 0
  · by_cases h2 : m = 0
    · simp only [if_pos h1, if_pos h2]
    · simp only [if_pos h1, if_neg h2]
  · by_cases h2 : m = 0
    · simp only [if_neg h1, if_pos h2]
    · simp only [if_neg h1, if_neg h2]
theorem ms_hasBy (m t v w : Int32) : fn_M_hasBy m t v w = some (gn v w m t) := by
  unfold fn_M_hasBy gn
  simp only [e_jn]
  by_cases h1 : t = 0
  · by_cases h2 : m = 0
    · simp only [if_pos h1, if_pos h2]
    · simp only [if_pos h1, if_neg h2]
  · by_cases h2 : m = 0
    · simp only [if_neg h1, if_pos h2]
    · simp only [if_neg h1, if_neg h2]
def un_b (v w m t : Int32) : Bool := decide (gn v w (1 - m) t ≤ gn v w m t)
theorem ms_isBest (m t v w : Int32) : fn_M_isBest m t v w = some (bI (un_b v w m t)) := by
  unfold fn_M_isBest un_b
  rw [ms_hasBy, e_bd, ms_hasBy, e_bd, e_jn]
  simp only [e_z0, e_z1]
  by_cases h : gn v w (1 - m) t ≤ gn v w m t
  · rw [if_pos h, decide_eq_true h]; rfl
  · rw [if_neg h, decide_eq_false h]; rfl
theorem xs_isRest (v w m t : Int32) : fn_X_isRest v w m t = some (bI (un_b v w m t && un_b v w t m)) := by
  unfold fn_X_isRest un_b
  simp only [xs_gain, e_bd, e_jn, e_z0, e_z1]
  by_cases h : gn v w (1 - m) t ≤ gn v w m t
  · by_cases h2 : gn v w (1 - t) m ≤ gn v w t m
    · rw [if_pos h, if_pos h2, decide_eq_true h, decide_eq_true h2]; rfl
    · rw [if_pos h, if_neg h2, decide_eq_true h, decide_eq_false h2]; rfl
  · rw [if_neg h, decide_eq_false h]; rfl
def un_s (v w : Int32) (m t : Nat) (a : sp3) : sp3 := if (un_b v w (Int32.ofNat m) (Int32.ofNat t) && un_b v w (Int32.ofNat t) (Int32.ofNat m)) = true then (a.1 + 1, if a.1 = 0 then 10 * Int32.ofNat m + Int32.ofNat t else a.2.1, if a.1 = 0 then gn v w (Int32.ofNat m) (Int32.ofNat t) + gn v w (Int32.ofNat t) (Int32.ofNat m) else a.2.2) else a
def un_o (v w : Int32) (m : Nat) (a : sp3) : sp3 := zF (un_s v w m) 2 0 a
def sp_unc (v w : Int32) : sp3 := zF (un_o v w) 2 0 (0, -1, 0)
theorem xl_unc1 {v w p : Int32} {k : Int32 → Int32 → Int32 → Option (px_X (Int32 × hp_I))} {m : Nat} (a : sp3) : fn_X_uncle_L44 v w p (Int32.ofNat m) σ k FU a.1 a.2.1 a.2.2 0 = k (un_o v w m a).1 (un_o v w m a).2.1 (un_o v w m a).2.2 := by
  refine zL_0 (L := fun fu (a : sp3) i => fn_X_uncle_L44 v w p (Int32.ofNat m) σ k fu a.1 a.2.1 a.2.2 i) (k := fun a : sp3 => k a.1 a.2.1 a.2.2) (N := 2) (un_s v w m) (by decide) (fun fu a => ?_) (fun fu i a hi => ?_) a
  · try dsimp only
    rw [fn_X_uncle_L44, if_neg (by decide)]
  · try dsimp only
    rw [fn_X_uncle_L44, if_pos (show Int32.ofNat i ≤ 1 from zl_le (b := 1) (by omega) (by decide)), xs_isRest, e_bd, e_jn, bI_if, e_jn]
    simp only [e_let, zi_succ, xs_gain, e_bd]
    unfold un_s
    by_cases h : (un_b v w (Int32.ofNat m) (Int32.ofNat i) && un_b v w (Int32.ofNat i) (Int32.ofNat m)) = true
    · rw [if_pos h, if_pos h]
      by_cases h2 : a.1 = 0
      · simp only [if_pos h2]
      · simp only [if_neg h2]
    · rw [if_neg h, if_neg h]
theorem xq_uncle (ok : AOK A) (cx : CX σ A) (v w p : Int32) : XQ σ (fn_X_uncle 0 v w p σ) (qb_i (inB v 0 99) (qb_i (inB w 0 99) (qb_i (inB p 0 2) 0))) (qv_span (sp_unc v w) p) := by
  unfold fn_X_uncle
  refine xg_in fun _ => xg_in fun _ => xg_in fun _ => ?_
  simp only [e_let]
  refine xq_v ?_
  refine (zL_0 (L := fun fu (a : sp3) i => fn_X_uncle_L35 v w p σ _ fu a.1 a.2.1 a.2.2 i) (k := fun a : sp3 => px_sw p [((0 : Int32), some (.inr (a.1, σ))), ((1 : Int32), some (.inr (a.2.1, σ)))] (some (.inr (a.2.2, σ)))) (N := 2) (un_o v w) (by decide) (fun fu a => ?_) (fun fu i a hi => ?_) (0, -1, 0)).trans ?_
  · try dsimp only
    rw [fn_X_uncle_L35, if_neg (by decide)]
  · try dsimp only
    rw [fn_X_uncle_L35, if_pos (show Int32.ofNat i ≤ 1 from zl_le (b := 1) (by omega) (by decide)), e_let, xl_unc1]
    simp only [e_let, zi_succ]
  · rw [e_swc, e_swc, e_swn]
    exact ite_g (rX σ) (fun _ => rfl) (fun _ => ite_g (rX σ) (fun _ => rfl) (fun _ => rfl))
theorem ml_unc1 {v w p : Int32} {k : Int32 → Int32 → Int32 → Option (Int32 × hp_I)} {m : Nat} (a : sp3) : fn_M_uncle_L71 v w p (Int32.ofNat m) σ k FU a.1 a.2.1 a.2.2 0 = k (un_o v w m a).1 (un_o v w m a).2.1 (un_o v w m a).2.2 := by
  refine zL_0 (L := fun fu (a : sp3) i => fn_M_uncle_L71 v w p (Int32.ofNat m) σ k fu a.1 a.2.1 a.2.2 i) (k := fun a : sp3 => k a.1 a.2.1 a.2.2) (N := 2) (un_s v w m) (by decide) (fun fu a => ?_) (fun fu i a hi => ?_) a
  · try dsimp only
    rw [fn_M_uncle_L71, if_neg (by decide)]
  · try dsimp only
    rw [fn_M_uncle_L71, if_pos (show Int32.ofNat i < 2 from zl_lt (b := 2) (by omega) (by decide)), ms_isBest, e_bd, e_jn, bI_if, ms_isBest, e_bd, bI_if]
    simp only [e_jn, e_let, zi_succ, ms_hasBy, e_bd]
    unfold un_s
    cases h1 : un_b v w (Int32.ofNat m) (Int32.ofNat i) with
    | true =>
      cases h3 : un_b v w (Int32.ofNat i) (Int32.ofNat m) with
      | true =>
        by_cases h2 : a.1 = 0
        · simp only [if_pos h2, if_true, Bool.and_true]
        · simp only [if_neg h2, if_true, Bool.and_true]
      | false => simp only [if_true, Bool.and_false, Bool.false_eq_true, if_false]
    | false => simp only [Bool.false_and, Bool.false_eq_true, if_false]
theorem mq_uncle (ok : AOK A) (cm : CM σ A) (v w p : Int32) : MQs σ (fn_M_uncle 52 v w p σ) (qb_i (inB v 0 99) (qb_i (inB w 0 99) (qb_i (inB p 0 2) 0))) (qv_span (sp_unc v w) p) 1 := by
  unfold fn_M_uncle
  simp only [e_let, e_jn]
  rw [ms_in', e_bd]
  refine mor mb_b1 fun _ => ?_
  rw [ms_in', e_bd]
  refine mor mb_b1 fun _ => ?_
  rw [ms_in', e_bd]
  refine mor mb_b1 fun _ => ?_
  refine mb_b0 ?_
  refine mq_v0 ?_
  generalize hp_s σ 52 0 0 = s
  refine (zL_0 (L := fun fu (a : sp3) i => fn_M_uncle_L62 v w p s _ fu a.1 a.2.1 a.2.2 i) (k := fun a : sp3 => if p = 0 then some (a.1, s) else if p = 1 then some (a.2.1, s) else some (a.2.2, s)) (N := 2) (un_o v w) (by decide) (fun fu a => ?_) (fun fu i a hi => ?_) (0, -1, 0)).trans ?_
  · try dsimp only
    rw [fn_M_uncle_L62, if_neg (by decide)]
  · try dsimp only
    rw [fn_M_uncle_L62, if_pos (show Int32.ofNat i < 2 from zl_lt (b := 2) (by omega) (by decide)), e_let, ml_unc1]
    simp only [e_let, zi_succ]
  · exact ite_g (rM s) (fun _ => rfl) (fun _ => ite_g (rM s) (fun _ => rfl) (fun _ => rfl))
end UNC
/-- sums of numbers -/
def nS (P : Nat → Bool) (f : Nat → Nat) (n : Nat) : Nat := zF (fun s acc => if P s = true then acc + f s else acc) n 0 0
theorem nS_I (P : Nat → Bool) (f : Nat → Nat) : ∀ n i a, zF (fun s (acc : Int32) => if P s = true then acc + Int32.ofNat (f s) else acc) n i (Int32.ofNat a) = Int32.ofNat (zF (fun s acc => if P s = true then acc + f s else acc) n i a) := by
  intro n
  induction n with
  | zero => intro i a; rfl
  | succ n ih =>
    intro i a
    show zF _ n (i + 1) (if P i = true then Int32.ofNat a + Int32.ofNat (f i) else Int32.ofNat a) = Int32.ofNat (zF _ n (i + 1) (if P i = true then a + f i else a))
    rw [← ih]
    congr 1
    split
    · rw [zi_add]
    · rfl
theorem nS_le (P : Nat → Bool) (f : Nat → Nat) (B N : Nat) (hf : ∀ s, s < N → f s ≤ B) : ∀ n i a, i + n ≤ N → zF (fun s acc => if P s = true then acc + f s else acc) n i a ≤ a + n * B := by
  intro n
  induction n with
  | zero => intro i a _; show a ≤ _; omega
  | succ n ih =>
    intro i a hi
    show zF _ n (i + 1) (if P i = true then a + f i else a) ≤ _
    have h1 := ih (i + 1) (if P i = true then a + f i else a) (by omega)
    have h2 := hf i (by omega)
    have h3 : (if P i = true then a + f i else a) ≤ a + B := by
      split <;> omega
    rw [Nat.succ_mul]
    omega
theorem nS_mono (P : Nat → Bool) (f g : Nat → Nat) (N : Nat) (hf : ∀ s, s < N → P s = true → f s ≤ g s) : ∀ n i a b, i + n ≤ N → a ≤ b → zF (fun s acc => if P s = true then acc + f s else acc) n i a ≤ zF (fun s acc => if P s = true then acc + g s else acc) n i b := by
  intro n
  induction n with
  | zero => intro i a b _ h; exact h
  | succ n ih =>
    intro i a b hi h
    show zF _ n (i + 1) (if P i = true then a + f i else a) ≤ zF _ n (i + 1) (if P i = true then b + g i else b)
    refine ih (i + 1) _ _ (by omega) ?_
    by_cases hp : P i = true
    · rw [if_pos hp, if_pos hp]
      have := hf i (by omega) hp
      omega
    · rw [if_neg hp, if_neg hp]; exact h
theorem nS_ge (P : Nat → Bool) (f : Nat → Nat) {k N : Nat} (hk : k < N) (hp : P k = true) : ∀ n i a, i + n = N → (i ≤ k → f k + a ≤ zF (fun s acc => if P s = true then acc + f s else acc) n i a) ∧ a ≤ zF (fun s acc => if P s = true then acc + f s else acc) n i a := by
  intro n
  induction n with
  | zero => intro i a hi; exact ⟨fun h => by omega, Nat.le_refl _⟩
  | succ n ih =>
    intro i a hi
    have h1 := ih (i + 1) (if P i = true then a + f i else a) (by omega)
    have h3 : a ≤ (if P i = true then a + f i else a) := by split <;> omega
    refine ⟨fun h => ?_, Nat.le_trans h3 h1.2⟩
    show _ ≤ zF _ n (i + 1) (if P i = true then a + f i else a)
    by_cases e : i = k
    · have h2 := h1.2
      rw [e, if_pos hp] at h2
      rw [e, if_pos hp]
      omega
    · have h2 := h1.1 (by omega)
      omega

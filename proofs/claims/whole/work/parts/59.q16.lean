/-! BOAT -/
theorem yi_toInt {a : Nat} (ha : a < 9223372036854775808) : (Int64.ofNat a).toInt = a := by
  rw [Int64.toInt_ofNat']
  exact Int.bmod_eq_of_le (by simp [Int64.size] <;> omega) (by simp [Int64.size] <;> omega)
theorem yi_add (a b : Nat) : Int64.ofNat a + Int64.ofNat b = Int64.ofNat (a + b) := (Int64.ofNat_add a b).symm
theorem yi_mul (a b : Nat) : Int64.ofNat a * Int64.ofNat b = Int64.ofNat (a * b) := (Int64.ofNat_mul a b).symm
theorem yi_inj {a b : Nat} (ha : a < 9223372036854775808) (hb : b < 9223372036854775808) : (Int64.ofNat a = Int64.ofNat b) = (a = b) := by
  apply propext
  constructor
  · intro h
    have h1 := yi_toInt ha
    rw [h, yi_toInt hb] at h1
    omega
  · intro h; rw [h]
theorem yi_div {a b : Nat} (ha : a < 9223372036854775808) (hb : b < 9223372036854775808) : Int64.ofNat a / Int64.ofNat b = Int64.ofNat (a / b) := by
  rw [← Int64.toInt_inj, Int64.toInt_div, yi_toInt ha, yi_toInt hb]
  have h : a / b < 9223372036854775808 := Nat.lt_of_le_of_lt (Nat.div_le_self _ _) ha
  rw [show ((a : Int).tdiv (b : Int)) = ((a / b : Nat) : Int) from rfl]
  generalize a / b = c at h ⊢
  rw [yi_toInt h]
  exact Int.bmod_eq_of_le (by omega) (by omega)
theorem yi_sub {a b : Nat} (h : b ≤ a) : Int64.ofNat a - Int64.ofNat b = Int64.ofNat (a - b) := by
  have h1 : a = a - b + b := by omega
  have h2 : Int64.ofNat a = Int64.ofNat (a - b) + Int64.ofNat b := by rw [yi_add, ← h1]
  rw [h2, Int64.add_sub_cancel]
theorem yi_ldv {a b : Nat} (ha : a < 9223372036854775808) (hb : b < 9223372036854775808) (h0 : b ≠ 0) : px_ldv (Int64.ofNat a) (Int64.ofNat b) = some (Int64.ofNat (a / b)) := by
  unfold px_ldv
  rw [if_neg (show ¬ Int64.ofNat b = 0 from fun e => h0 (by have e2 : Int64.ofNat b = Int64.ofNat 0 := e; rw [yi_inj hb (by decide)] at e2; exact e2)), yi_div ha hb]
theorem yi_lrm {a b : Nat} (ha : a < 9223372036854775808) (hb : b < 9223372036854775808) (h0 : b ≠ 0) : px_lrm (Int64.ofNat a) (Int64.ofNat b) = some (Int64.ofNat (a % b)) := by
  unfold px_lrm
  rw [if_neg (show ¬ Int64.ofNat b = 0 from fun e => h0 (by have e2 : Int64.ofNat b = Int64.ofNat 0 := e; rw [yi_inj hb (by decide)] at e2; exact e2)), yi_div ha hb, yi_mul, yi_sub (Nat.div_mul_le_self a b)]
  congr 2
  have := Nat.div_add_mod a b
  rw [Nat.mul_comm] at this
  omega
theorem yi_of {a : Nat} (ha : a < 2147483648) : (Int32.ofNat a).toInt64 = Int64.ofNat a := by
  rw [← Int64.toInt_inj, Int32.toInt_toInt64, zi_toInt ha, yi_toInt (by omega)]
theorem yi_cmp {a : Nat} (ha : a < 9223372036854775808) : (lg_cmp (Int64.ofNat a) 0 = 0) = (a = 0) := by
  unfold lg_cmp
  apply propext
  by_cases h : a = 0
  · rw [h]; exact ⟨fun _ => rfl, fun _ => by decide⟩
  · have h1 : Int64.ofNat a > 0 := by
      rw [gt_iff_lt, Int64.lt_iff_toInt_lt, yi_toInt ha]
      show (0 : Int) < a
      omega
    rw [if_pos h1]
    exact ⟨fun e => absurd e (by decide), fun e => absurd e h⟩
/-- the greatest divisor, with a limit -/
def gN : Nat → Nat → Nat → Nat
  | 0, a, _ => a
  | f + 1, a, b => if b = 0 then a else gN f b (a % b)
theorem gN_ok : ∀ (m f a b : Nat), b < 2 ^ m → 2 * m ≤ f → gN f a b = Nat.gcd a b := by
  intro m
  induction m with
  | zero =>
    intro f a b hb _
    have hb0 : b = 0 := by simp only [Nat.pow_zero] at hb; omega
    rw [hb0, Nat.gcd_zero_right]
    cases f with
    | zero => rfl
    | succ f => unfold gN; rw [if_pos rfl]
  | succ m ih =>
    intro f a b hb hf
    obtain ⟨f, rfl⟩ : ∃ g, f = g + 2 := ⟨f - 2, by omega⟩
    unfold gN
    by_cases h0 : b = 0
    · rw [if_pos h0, h0, Nat.gcd_zero_right]
    · rw [if_neg h0]
      unfold gN
      have hr : a % b < b := Nat.mod_lt _ (by omega)
      have e1 : Nat.gcd a b = Nat.gcd b (a % b) := by rw [Nat.gcd_comm a b, Nat.gcd_rec b a, Nat.gcd_comm]
      by_cases h1 : a % b = 0
      · rw [if_pos h1, e1, h1, Nat.gcd_zero_right]
      · rw [if_neg h1]
        have e2 : Nat.gcd b (a % b) = Nat.gcd (a % b) (b % (a % b)) := by rw [Nat.gcd_comm b, Nat.gcd_rec (a % b) b, Nat.gcd_comm]
        rw [e1, e2]
        refine ih f _ _ ?_ (by omega)
        have h2 : b % (a % b) < a % b := Nat.mod_lt _ (by omega)
        have h3 : 2 ^ (m + 1) = 2 ^ m + 2 ^ m := by rw [Nat.pow_succ]; omega
        by_cases h4 : a % b ≤ 2 ^ m
        · omega
        · have h5 : b % (a % b) = b - a % b := by
            rw [Nat.mod_eq_sub_mod (by omega), Nat.mod_eq_of_lt (by omega)]
          omega
def chs : Nat → Nat → Nat
  | _, 0 => 1
  | 0, _ + 1 => 0
  | n + 1, k + 1 => chs n k + chs n (k + 1)
def tN (q n i : Nat) : Nat := chs n i * (16 - q) ^ i * q ^ (n - i)
theorem tN_0 : ∀ q, q < 17 → ∀ i, i < 14 → tN q 0 i = if i = 0 then 1 else 0 := by decide +kernel
theorem tN_s : ∀ q, q < 17 → ∀ e, e < 12 → ∀ i, i < 14 → tN q (e + 1) i = tN q e i * q + (if 0 < i then tN q e (i - 1) * (16 - q) else 0) := by decide +kernel
theorem ch_s : ∀ n, n < 13 → ∀ i, i ≤ n → chs n i * (n - i) / (i + 1) = chs n (i + 1) := by decide +kernel
def upN (q n k : Nat) : Nat := zF (fun i a => if k ≤ i then a + tN q n i else a) 14 0 0
theorem up_lt : ∀ q, q < 17 → ∀ n, n < 13 → ∀ k, k < 14 → upN q n k < 281474976710657 := by decide +kernel
theorem up_n : ∀ q, q < 17 → ∀ n, n < 13 → ∀ k, k < 14 → zF (fun i a => if k ≤ i then a + tN q n i else a) (n + 1) 0 0 = upN q n k := by decide +kernel
theorem ch_lt : ∀ n, n < 13 → ∀ i, i ≤ n → chs n i < 1000 := by decide +kernel
theorem pw_lt : ∀ n, n < 13 → 16 ^ n < 281474976710657 ∧ 0 < 16 ^ n := by decide +kernel
theorem wh_eq : ∀ n, n < 13 → (1 : Int64) <<< (((4 : Int32) * Int32.ofNat n).toInt64 &&& 63) = Int64.ofNat (16 ^ n) := by decide +kernel

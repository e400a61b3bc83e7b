/-! THE EXPRESSIONS: numbers -/
theorem zi_add (a b : Nat) : Int32.ofNat a + Int32.ofNat b = Int32.ofNat (a + b) := (Int32.ofNat_add a b).symm
theorem zi_succ (a : Nat) : Int32.ofNat a + 1 = Int32.ofNat (a + 1) := zi_add a 1
theorem zi_lt {a b : Nat} (ha : a < 2147483648) (hb : b < 2147483648) : (Int32.ofNat a < Int32.ofNat b) = (a < b) := propext (Int32.ofNat_lt_ofNat ha hb)
theorem zi_le {a b : Nat} (ha : a < 2147483648) (hb : b < 2147483648) : (Int32.ofNat a ≤ Int32.ofNat b) = (a ≤ b) := propext (Int32.ofNat_le_ofNat ha hb)
theorem zi_toInt {a : Nat} (ha : a < 2147483648) : (Int32.ofNat a).toInt = a := Int32.toInt_ofNat_of_lt ha
theorem zi_inj {a b : Nat} (ha : a < 2147483648) (hb : b < 2147483648) : (Int32.ofNat a = Int32.ofNat b) = (a = b) := by
  apply propext
  constructor
  · intro h
    have h1 := zi_toInt ha
    rw [h, zi_toInt hb] at h1
    omega
  · intro h; rw [h]
theorem zi_nat {a : Nat} (ha : a < 2147483648) : (Int32.ofNat a).toNatClampNeg = a := by
  show (Int32.ofNat a).toInt.toNat = a
  rw [zi_toInt ha]
  rfl
theorem zi_pos {a : Nat} (ha : a < 2147483648) : (0 : Int32) ≤ Int32.ofNat a := by
  have := zi_le (a := 0) (by decide) ha
  have h : (Int32.ofNat 0 ≤ Int32.ofNat a) := by rw [this]; omega
  exact h
theorem zi_in {a n : Nat} (ha : a < 2147483648) : px_in (Int32.ofNat a) n = decide (a < n) := by
  unfold px_in
  rw [zi_nat ha, decide_eq_true (zi_pos ha)]
  rfl
theorem zi_ald {σ : hp_I} {r a : Nat} (h : a < sh_ln r) (ha : a < 2147483648) : px_ald σ r (Int32.ofNat a) = some (σ r a) := by
  unfold px_ald
  rw [zi_in ha, decide_eq_true h, if_pos rfl, zi_nat ha]
theorem zi_ast {σ : hp_I} {r a : Nat} {v : Int32} (h : a < sh_ln r) (ha : a < 2147483648) : px_ast σ r (Int32.ofNat a) v = some (hp_s σ r a v) := by
  unfold px_ast
  rw [zi_in ha, decide_eq_true h, if_pos rfl, zi_nat ha]
theorem zi_rld {r a : Nat} (h : a < sh_ln r) (ha : a < 2147483648) : px_rld r (Int32.ofNat a) = some (sh_rf r a) := by
  unfold px_rld
  rw [zi_in ha, decide_eq_true h, if_pos rfl, zi_nat ha]
/-- an Int32 that is a number below n -/
def zB (v : Int32) (n : Nat) : Prop := ∃ k : Nat, k < n ∧ v = Int32.ofNat k
theorem zB_of {v : Int32} {n : Nat} (hn : n < 2147483648) (h0 : 0 ≤ v) (h1 : v < Int32.ofNat n) : zB v n := by
  have e0 : (0 : Int).toNat = 0 := rfl
  have h0' : (0 : Int) ≤ v.toInt := by
    have := Int32.le_iff_toInt_le.mp h0
    exact this
  have h1' : v.toInt < n := by
    have := Int32.lt_iff_toInt_lt.mp h1
    rw [zi_toInt hn] at this
    exact this
  refine ⟨v.toInt.toNat, by omega, ?_⟩
  apply Int32.toInt.inj
  rw [zi_toInt (by omega)]
  omega
def hasB (b : Int32) (k : Nat) : Bool := decide ((b >>> (Int32.ofNat k &&& 31)) &&& 1 = 1)
def bitI (k : Nat) : Int32 := (1 : Int32) <<< (Int32.ofNat k &&& 31)
def bI (b : Bool) : Int32 := if b = true then 1 else 0
theorem and1 (x : Int32) : x &&& 1 = 0 ∨ x &&& 1 = 1 := by
  have h : ∀ b : BitVec 32, b &&& 1#32 = 0#32 ∨ b &&& 1#32 = 1#32 := by
    intro b
    rw [BitVec.and_one_eq_setWidth_ofBool_getLsbD]
    cases b.getLsbD 0
    · left; rfl
    · right; rfl
  rcases h x.toBitVec with h | h
  · left; exact Int32.toBitVec.inj h
  · right; exact Int32.toBitVec.inj h
theorem and1_0 (x : Int32) : (x &&& 1 = 0) = ¬ (x &&& 1 = 1) := by
  apply propext
  rcases and1 x with h | h <;> rw [h] <;> decide
/-- for i in so many: f -/
def zF {α : Type} (f : Nat → α → α) : Nat → Nat → α → α
  | 0, _, a => a
  | n + 1, i, a => zF f n (i + 1) (f i a)
/-- a loop over the numbers ahead of N -/
theorem zL_for {α ρ : Type} {L : Nat → α → Int32 → Option ρ} {k : α → Option ρ} {N : Nat} (f : Nat → α → α) (Inv : Nat → α → Prop)
    (hend : ∀ fu a, Inv N a → L (fu + 1) a (Int32.ofNat N) = k a)
    (hstep : ∀ fu i a, i < N → Inv i a → L (fu + 1) a (Int32.ofNat i) = L fu (f i a) (Int32.ofNat (i + 1)) ∧ Inv (i + 1) (f i a)) :
    ∀ (n i fu : Nat) (a : α), i + n = N → n < fu → Inv i a → L fu a (Int32.ofNat i) = k (zF f n i a) ∧ Inv N (zF f n i a) := by
  intro n
  induction n with
  | zero =>
    intro i fu a hi hf ha
    have e : i = N := by omega
    subst e
    cases fu with
    | zero => omega
    | succ fu => exact ⟨hend fu a ha, ha⟩
  | succ n ih =>
    intro i fu a hi hf ha
    cases fu with
    | zero => omega
    | succ fu =>
      obtain ⟨h1, h2⟩ := hstep fu i a (by omega) ha
      obtain ⟨h3, h4⟩ := ih (i + 1) fu (f i a) (by omega) (by omega) h2
      exact ⟨h1.trans h3, h4⟩
/-- the same, from 0, with the fuel that all have, nothing kept -/
theorem zL_0 {α ρ : Type} {L : Nat → α → Int32 → Option ρ} {k : α → Option ρ} {N : Nat} (f : Nat → α → α) (hN : N < 100000)
    (hend : ∀ fu a, L (fu + 1) a (Int32.ofNat N) = k a)
    (hstep : ∀ fu i a, i < N → L (fu + 1) a (Int32.ofNat i) = L fu (f i a) (Int32.ofNat (i + 1))) (a : α) : L FU a 0 = k (zF f N 0 a) :=
  (zL_for f (fun _ _ => True) (fun fu a _ => hend fu a) (fun fu i a hi _ => ⟨hstep fu i a hi, trivial⟩) N 0 FU a (by omega) hN trivial).1
theorem zL_I {α ρ : Type} {L : Nat → α → Int32 → Option ρ} {k : α → Option ρ} {N : Nat} (f : Nat → α → α) (Inv : Nat → α → Prop) (hN : N < 100000)
    (hend : ∀ fu a, Inv N a → L (fu + 1) a (Int32.ofNat N) = k a)
    (hstep : ∀ fu i a, i < N → Inv i a → L (fu + 1) a (Int32.ofNat i) = L fu (f i a) (Int32.ofNat (i + 1)) ∧ Inv (i + 1) (f i a)) (a : α) (h0 : Inv 0 a) : L FU a 0 = k (zF f N 0 a) ∧ Inv N (zF f N 0 a) :=
  zL_for f Inv hend hstep N 0 FU a (by omega) hN h0
/-! THE HOUSE: rooms, ways, schemes, cats; hide 0, from 1, to 2, first room 3, first size 4, grow 5, first room of a cat 6, nose 7 -/
abbrev ab_H : Type := Nat × Nat × Nat × Nat × (Nat → Nat → Int32)
abbrev hR (H : ab_H) : Nat := H.1
abbrev hW (H : ab_H) : Nat := H.2.1
abbrev hS (H : ab_H) : Nat := H.2.2.1
abbrev hC (H : ab_H) : Nat := H.2.2.2.1
abbrev hV (H : ab_H) : Nat → Nat → Int32 := H.2.2.2.2
def HOK (H : ab_H) : Prop := hR H ≤ 8 ∧ hW H ≤ 12 ∧ hS H ≤ 8 ∧ hC H ≤ 5 ∧ (∀ r, r < hR H → zB (hV H 0 r) 61) ∧ (∀ w, w < hW H → zB (hV H 1 w) (hR H) ∧ zB (hV H 2 w) (hR H) ∧ hV H 1 w ≠ hV H 2 w) ∧ (∀ s, s < hS H → zB (hV H 3 s) (hR H) ∧ zB (hV H 4 s) 61 ∧ hV H 4 s ≠ 0 ∧ zB (hV H 5 s) 10) ∧ ∀ c, c < hC H → zB (hV H 6 c) (hR H) ∧ zB (hV H 7 c) 21
def HX (σ : hp_I) (H : ab_H) : Prop := (σ 3 0 = Int32.ofNat (hR H) ∧ σ 3 1 = Int32.ofNat (hW H) ∧ σ 3 2 = Int32.ofNat (hS H) ∧ σ 3 3 = Int32.ofNat (hC H)) ∧ (∀ r, r < hR H → σ 4 r = hV H 0 r) ∧ (∀ w, w < hW H → σ 5 w = hV H 1 w ∧ σ 6 w = hV H 2 w) ∧ (∀ s, s < hS H → σ 7 s = hV H 3 s ∧ σ 8 s = hV H 4 s ∧ σ 9 s = hV H 5 s) ∧ ∀ c, c < hC H → σ 10 c = hV H 6 c ∧ σ 11 c = hV H 7 c
/-! A ROW, as the class lays it: night 0, live 1, mat 2, joined 3, shut 4, room 5, size 13, when 21, taker 29, room of a cat 37, took 42 -/
def vk (H : ab_H) (k : Nat) : Prop := k < 5 ∨ (5 ≤ k ∧ k < 5 + hS H) ∨ (13 ≤ k ∧ k < 13 + hS H) ∨ (21 ≤ k ∧ k < 21 + hS H) ∨ (29 ≤ k ∧ k < 29 + hS H) ∨ (37 ≤ k ∧ k < 37 + hC H) ∨ (42 ≤ k ∧ k < 42 + hC H)
def RX (σ : hp_I) (r : Nat) (H : ab_H) (ρ : Nat → Int32) : Prop := sh_ln r = 47 ∧ ∀ k, vk H k → σ r k = ρ k
def SO (o r c : Nat) : Prop := sh_rf o 0 = 3 ∧ sh_rf o 1 = 21 ∧ sh_rf o 2 = r ∧ sh_rf o 3 = c ∧ sh_ln r = 47 ∧ sh_ln c = 5 ∧ ((r = 33 ∧ c = 34) ∨ (r = 36 ∧ c = 37))
theorem so_32 : SO 32 33 34 := ⟨by decide +kernel, by decide +kernel, by decide +kernel, by decide +kernel, by decide +kernel, by decide +kernel, Or.inl ⟨rfl, rfl⟩⟩
theorem so_35 : SO 35 36 37 := ⟨by decide +kernel, by decide +kernel, by decide +kernel, by decide +kernel, by decide +kernel, by decide +kernel, Or.inr ⟨rfl, rfl⟩⟩
/-- what changed -/
def Fr (P : Nat → Nat → Bool) (σ σ' : hp_I) : Prop := ∀ i k, P i k = false → σ' i k = σ i k

/-! WHAT IS ASKED OF A ROW, as numbers -/
def oI : Option Nat → Int32
  | none => -1
  | some k => Int32.ofNat k
theorem bI_0 (b : Bool) : (bI b = 0) = (b = false) := by cases b <;> decide
theorem bI_1 (b : Bool) : (bI b = 1) = (b = true) := by cases b <;> decide
theorem bI_z {ρ : Type} (b : Bool) (x : ρ) : px_z (bI b) x = some x := by cases b <;> rfl
def ROK (H : ab_H) (ρ : Nat → Int32) : Prop := (∀ s, s < hS H → zB (ρ (5 + s)) (hR H) ∧ ∃ z : Nat, 1 ≤ z ∧ z ≤ 999 ∧ ρ (13 + s) = Int32.ofNat z) ∧ (∀ c, c < hC H → zB (ρ (37 + c)) (hR H)) ∧ zB (ρ 1) (2 ^ hS H) ∧ zB (ρ 2) (2 ^ hS H) ∧ ρ 1 &&& ρ 2 = 0
def sp_liv (H : ab_H) (ρ : Nat → Int32) (v : Int32) : Int32 := zF (fun s acc => if hasB (ρ 1) s = true then (if ρ (5 + s) = v then acc ||| bitI s else acc) else acc) (hS H) 0 0
def sp_cin (H : ab_H) (ρ : Nat → Int32) (v : Int32) : Int32 := zF (fun c acc => if ρ (37 + c) = v then acc ||| bitI c else acc) (hC H) 0 0
def sp_szo (H : ab_H) (ρ : Nat → Int32) (b : Int32) : Int32 := zF (fun s acc => if hasB b s = true then acc + ρ (13 + s) else acc) (hS H) 0 0
def sg_st (ρ : Nat → Int32) (b : Int32) (s : Nat) (a : Option Nat) : Option Nat := if hasB b s = true then (match a with
  | none => some s
  | some t => if ρ (13 + t) < ρ (13 + s) then some s else some t) else a
def sp_gre (H : ab_H) (ρ : Nat → Int32) (b : Int32) : Option Nat := zF (sg_st ρ b) (hS H) 0 none
def sp_ctm (H : ab_H) (ρ : Nat → Int32) : Int32 × Int32 := zF (fun c a => if a.2 < ρ (42 + c) then (Int32.ofNat c, ρ (42 + c)) else a) (hC H) 0 (-1, 0)
def sp_ws (H : ab_H) (c : Nat) (z v : Int32) : Bool := decide (hV H 0 v.toNatClampNeg < z + hV H 7 c)
def sp_see (H : ab_H) (ρ : Nat → Int32) (c : Nat) : Int32 := zF (fun s acc => if hasB (ρ 1) s = true then (if ρ (5 + s) = ρ (37 + c) then (if sp_ws H c (ρ (13 + s)) (ρ (37 + c)) = true then acc ||| bitI s else acc) else acc) else acc) (hS H) 0 0
def sp_hid (H : ab_H) (ρ : Nat → Int32) (z : Int32) (b0 : Int32) : Int32 := zF (fun c acc => if sp_ws H c z (ρ (37 + c)) = true then acc &&& (((1 : Int32) <<< (ρ (37 + c) &&& 31)) ^^^ (-1 : Int32)) else acc) (hC H) 0 b0
theorem zB_nat {v : Int32} {n : Nat} (hn : n < 2147483648) (h : zB v n) : v.toNatClampNeg < n ∧ v = Int32.ofNat v.toNatClampNeg := by
  obtain ⟨k, hk, rfl⟩ := h
  rw [zi_nat (by omega)]
  exact ⟨hk, rfl⟩
theorem oI_m (a : Option Nat) (h : ∀ t, a = some t → t < 100000) : (oI a = -1) = (a = none) := by
  cases a with
  | none => exact propext ⟨fun _ => rfl, fun _ => rfl⟩
  | some t =>
    refine propext ⟨fun e => ?_, fun e => by cases e⟩
    have h1 := zi_toInt (show t < 2147483648 by have := h t rfl; omega)
    have h2 : Int32.ofNat t = -1 := e
    rw [h2] at h1
    have h3 : ((-1 : Int32)).toInt = -1 := by decide
    omega
/-- the greatest one is one of the schemes -/
theorem sp_gre_lt (H : ab_H) (ρ : Nat → Int32) (b : Int32) : ∀ t, sp_gre H ρ b = some t → t < hS H := by
  have key : ∀ n i a, i + n = hS H → (∀ t, a = some t → t < hS H) → ∀ t, zF (sg_st ρ b) n i a = some t → t < hS H := by
    intro n
    induction n with
    | zero => intro i a _ ha t ht; exact ha t ht
    | succ n ih =>
      intro i a hi ha t ht
      refine ih (i + 1) _ (by omega) (fun t2 h2 => ?_) t ht
      unfold sg_st at h2
      split at h2
      · cases a with
        | none => cases h2; omega
        | some t3 =>
          dsimp only at h2
          split at h2
          · cases h2; omega
          · cases h2; exact ha t2 rfl
      · exact ha t2 h2
  exact fun t ht => key (hS H) 0 none (by omega) (fun t h => by cases h) t ht

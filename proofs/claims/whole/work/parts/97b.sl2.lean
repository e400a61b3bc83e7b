/-! SLIPS: the greatest size that is spared -/
theorem le_min {v a b : Int32} : v ≤ px_min a b ↔ v ≤ a ∧ v ≤ b := by
  unfold px_min
  by_cases h : b < a
  · rw [if_pos h, Int32.le_iff_toInt_le, Int32.le_iff_toInt_le]
    rw [Int32.lt_iff_toInt_lt] at h
    omega
  · rw [if_neg h, Int32.le_iff_toInt_le, Int32.le_iff_toInt_le]
    rw [Int32.lt_iff_toInt_lt] at h
    omega
theorem le_max {v a b : Int32} : v ≤ px_max a b ↔ v ≤ a ∨ v ≤ b := by
  unfold px_max
  by_cases h : a < b
  · rw [if_pos h, Int32.le_iff_toInt_le, Int32.le_iff_toInt_le]
    rw [Int32.lt_iff_toInt_lt] at h
    omega
  · rw [if_neg h, Int32.le_iff_toInt_le, Int32.le_iff_toInt_le]
    rw [Int32.lt_iff_toInt_lt] at h
    omega
theorem sub_int {a b : Nat} (ha : a < 100000) (hb : b < 100000) : (Int32.ofNat a - Int32.ofNat b).toInt = (a : Int) - b := by
  rw [Int32.toInt_sub, zi_toInt (by omega), zi_toInt (by omega), Int.bmod_eq_of_le (by omega) (by omega)]
theorem zF_min {P : Nat → Prop} (d : ∀ c, Decidable (P c)) (g : Nat → Int32) {v : Int32} : ∀ n i a, (v ≤ zF (fun c acc => @ite _ (P c) (d c) (px_min acc (g c)) acc) n i a) ↔ (v ≤ a ∧ ∀ k, k < n → P (i + k) → v ≤ g (i + k)) := by
  intro n
  induction n with
  | zero => intro i a; exact ⟨fun h => ⟨h, fun k hk => absurd hk (Nat.not_lt_zero _)⟩, fun h => h.1⟩
  | succ n ih =>
    intro i a
    show v ≤ zF _ n (i + 1) _ ↔ _
    rw [ih]
    dsimp only
    constructor
    · rintro ⟨h1, h2⟩
      by_cases c : P i
      · rw [if_pos c, le_min] at h1
        refine ⟨h1.1, fun k hk hp => ?_⟩
        cases k with
        | zero => exact h1.2
        | succ k =>
          have := h2 k (by omega)
          rw [show i + 1 + k = i + (k + 1) by omega] at this
          exact this hp
      · rw [if_neg c] at h1
        refine ⟨h1, fun k hk hp => ?_⟩
        cases k with
        | zero => exact absurd hp c
        | succ k =>
          have := h2 k (by omega)
          rw [show i + 1 + k = i + (k + 1) by omega] at this
          exact this hp
    · rintro ⟨h1, h2⟩
      refine ⟨?_, fun k hk hp => ?_⟩
      · by_cases c : P i
        · rw [if_pos c, le_min]; exact ⟨h1, h2 0 (by omega) c⟩
        · rw [if_neg c]; exact h1
      · have := h2 (k + 1) (by omega)
        rw [show i + (k + 1) = i + 1 + k by omega] at this
        exact this hp
/-- what a cat spares -/
def spI (H : ab_H) (lw : ab_L) (ρ : ab_R) (s r c : Nat) : Int32 := match tk H (zF (tstep H) c 0 (sp_grown H lw ρ)) c with
  | none => hV H 0 r - hV H 7 c
  | some t => px_max (hV H 0 r - hV H 7 c) (sp_night H lw ρ (13 + t) - (if t < s then 0 else 1))
def lim (H : ab_H) (lw : ab_L) (ρ : ab_R) (s r : Nat) : Int32 := zF (fun c acc => if sp_night H lw ρ (37 + c) = Int32.ofNat r then px_min acc (spI H lw ρ s r c) else acc) (hC H) 0 999
section LIM
variable {H : ab_H} {lw : ab_L} {ρ : ab_R} {s r : Nat}
theorem tst_k {c k : Nat} {ρ : ab_R} (ok : HOK H) (h : (3 ≤ k ∧ k < 21) ∨ (37 ≤ k ∧ k < 42)) : tstep H c ρ k = ρ k := by
  unfold tstep
  cases hr : tk H ρ c with
  | none => rfl
  | some t =>
    have h8 := ok.2.2.1
    have ht := (tkl_ive ok hr).1
    show tmat ρ t c k = ρ k
    unfold tmat
    rw [upd_n (by omega), upd_n (by omega), upd_n (by omega), upd_n (by omega), upd_n (by omega)]
theorem tkn_k {k : Nat} (ok : HOK H) (h : (3 ≤ k ∧ k < 21) ∨ (37 ≤ k ∧ k < 42)) : ∀ n i ρ, zF (tstep H) n i ρ k = ρ k := by
  intro n
  induction n with
  | zero => intro i ρ; rfl
  | succ n ih =>
    intro i ρ
    show zF (tstep H) n (i + 1) (tstep H i ρ) k = ρ k
    rw [ih, tst_k ok h]
theorem ngt_k {k : Nat} (ok : HOK H) (h : (3 ≤ k ∧ k < 21) ∨ (37 ≤ k ∧ k < 42)) : sp_night H lw ρ k = sp_grown H lw ρ k := by
  unfold sp_night sp_taken
  rw [upd_n (by omega), tkn_k ok h]
theorem lim_iff (ok : HOK H) (ro : ROK H ρ) (hr : r < hR H) {y : Nat} (hy : y ≤ 999) : (Int32.ofNat y ≤ lim H lw ρ s r) ↔ SVA H lw ρ s (Int32.ofNat r) (Int32.ofNat y) := by
  have h8 := ok.1
  have h5 := ok.2.2.2.1
  have hS8 := ok.2.2.1
  unfold lim
  rw [zF_min]
  have h999 : Int32.ofNat y ≤ 999 := zl_le (b := 999) hy (by decide)
  unfold SVA
  constructor
  · rintro ⟨-, h⟩ c hc
    have hc2 := h c hc
    rw [Nat.zero_add] at hc2
    unfold SVp
    rw [tkn_k ok (Or.inr (by omega)), show sp_grown H lw ρ (37 + c) = sp_night H lw ρ (37 + c) from (ngt_k ok (Or.inr (by omega))).symm]
    by_cases ce : sp_night H lw ρ (37 + c) = Int32.ofNat r
    · have hs := hc2 ce
      rw [ce]
      obtain ⟨hd, hh, eh⟩ := ok.2.2.2.2.1 r hr
      obtain ⟨hd2, hn, en⟩ := (ok.2.2.2.2.2.2.2 c hc).2
      unfold spI at hs
      unfold sp_ws
      rw [zi_nat (by omega)]
      have ws : (hV H 0 r < Int32.ofNat y + hV H 7 c) ↔ ¬ Int32.ofNat y ≤ hV H 0 r - hV H 7 c := by
        rw [eh, en, zi_add, zi_lt (by omega) (by omega), Int32.le_iff_toInt_le, sub_int (by omega) (by omega), zi_toInt (by omega)]
        omega
      cases ht : tk H (zF (tstep H) c 0 (sp_grown H lw ρ)) c with
      | none =>
        rw [ht] at hs
        left
        rintro ⟨-, h2⟩
        exact ws.mp (of_decide_eq_true h2) hs
      | some t =>
        rw [ht] at hs
        have htS := (tkl_ive ok ht).1
        obtain ⟨zt, z1, z2, z3⟩ := ((rok_night (lw := lw) ok ro).1 t htS).2
        have hs' : Int32.ofNat y ≤ px_max (hV H 0 r - hV H 7 c) (sp_night H lw ρ (13 + t) - (if t < s then 0 else 1)) := hs
        rw [le_max] at hs'
        rcases hs' with hs' | hs'
        · left
          rintro ⟨-, h2⟩
          exact ws.mp (of_decide_eq_true h2) hs'
        · right
          refine ⟨t, rfl, ?_⟩
          rw [tkn_k ok (Or.inl (by omega)), show sp_grown H lw ρ (13 + t) = sp_night H lw ρ (13 + t) from (ngt_k ok (Or.inl (by omega))).symm, z3, zi_toInt (by omega), zi_toInt (by omega)]
          rw [z3, Int32.le_iff_toInt_le, zi_toInt (by omega)] at hs'
          by_cases cs : t < s
          · rw [if_pos cs, show Int32.ofNat zt - 0 = Int32.ofNat zt - Int32.ofNat 0 from rfl, sub_int (by omega) (by omega)] at hs'
            omega
          · rw [if_neg cs, show Int32.ofNat zt - 1 = Int32.ofNat zt - Int32.ofNat 1 from rfl, sub_int (by omega) (by omega)] at hs'
            omega
    · exact Or.inl (fun h2 => ce h2.1.symm)
  · intro h
    refine ⟨h999, fun c hc ce => ?_⟩
    rw [Nat.zero_add] at ce ⊢
    have hsv := h c hc
    unfold SVp at hsv
    rw [tkn_k ok (Or.inr (by omega)), show sp_grown H lw ρ (37 + c) = sp_night H lw ρ (37 + c) from (ngt_k ok (Or.inr (by omega))).symm, ce] at hsv
    obtain ⟨hd, hh, eh⟩ := ok.2.2.2.2.1 r hr
    obtain ⟨hd2, hn, en⟩ := (ok.2.2.2.2.2.2.2 c hc).2
    unfold spI
    unfold sp_ws at hsv
    rw [zi_nat (by omega)] at hsv
    have ws : (hV H 0 r < Int32.ofNat y + hV H 7 c) ↔ ¬ Int32.ofNat y ≤ hV H 0 r - hV H 7 c := by
      rw [eh, en, zi_add, zi_lt (by omega) (by omega), Int32.le_iff_toInt_le, sub_int (by omega) (by omega), zi_toInt (by omega)]
      omega
    cases ht : tk H (zF (tstep H) c 0 (sp_grown H lw ρ)) c with
    | none =>
      show Int32.ofNat y ≤ hV H 0 r - hV H 7 c
      rcases hsv with hsv | ⟨t, h1, -⟩
      · exact Classical.byContradiction (fun hh => hsv ⟨rfl, decide_eq_true (ws.mpr hh)⟩)
      · rw [ht] at h1; cases h1
    | some t =>
      show Int32.ofNat y ≤ px_max (hV H 0 r - hV H 7 c) (sp_night H lw ρ (13 + t) - (if t < s then 0 else 1))
      rw [le_max]
      rcases hsv with hsv | ⟨t', h1, h2⟩
      · left
        exact Classical.byContradiction (fun hh => hsv ⟨rfl, decide_eq_true (ws.mpr hh)⟩)
      · rw [ht] at h1
        cases h1
        have htS := (tkl_ive ok ht).1
        obtain ⟨zt, z1, z2, z3⟩ := ((rok_night (lw := lw) ok ro).1 t htS).2
        right
        rw [tkn_k ok (Or.inl (by omega)), show sp_grown H lw ρ (13 + t) = sp_night H lw ρ (13 + t) from (ngt_k ok (Or.inl (by omega))).symm, z3, zi_toInt (by omega), zi_toInt (by omega)] at h2
        rw [z3, Int32.le_iff_toInt_le, zi_toInt (by omega)]
        by_cases cs : t < s
        · rw [if_pos cs, show Int32.ofNat zt - 0 = Int32.ofNat zt - Int32.ofNat 0 from rfl, sub_int (by omega) (by omega)]
          omega
        · rw [if_neg cs, show Int32.ofNat zt - 1 = Int32.ofNat zt - Int32.ofNat 1 from rfl, sub_int (by omega) (by omega)]
          omega
theorem lf42_0 : sh_rf 42 0 = 3 := by decide +kernel
theorem lf42_1 : sh_rf 42 1 = 21 := by decide +kernel
theorem lf42_2 : sh_rf 42 2 = 43 := by decide +kernel
theorem lf42_3 : sh_rf 42 3 = 44 := by decide +kernel
theorem ln_43 : sh_ln 43 = 256 := by decide +kernel
theorem ln_44 : sh_ln 44 = 256 := by decide +kernel
theorem xs_spared {σ : hp_I} (hx : HX σ H) (rx : RX σ 36 H (sp_night H lw ρ)) (ok : HOK H) (hr : r < hR H) (h4 : σ 42 4 = Int32.ofNat s) (hs : s < hS H) (hc : ∀ q, q < hC H → σ 37 q = oI (tk H (zF (tstep H) q 0 (sp_grown H lw ρ)) q)) : fn_Slip_greatestSpared 42 35 (Int32.ofNat r) σ = some (lim H lw ρ s r) := by
  have so := so_35
  have h5 := ok.2.2.2.1
  have hS8 := ok.2.2.1
  unfold fn_Slip_greatestSpared
  rw [e_let, e_let]
  refine zL_0 (L := fun fu a i => fn_Slip_greatestSpared_L7 42 35 (Int32.ofNat r) σ (fun y_20 => some y_20) fu a i) (k := fun y_20 => some y_20) (N := hC H) (fun c acc => if sp_night H lw ρ (37 + c) = Int32.ofNat r then px_min acc (spI H lw ρ s r c) else acc) (by omega) (fun fu a => ?_) (fun fu i a hi => ?_) 999
  · try dsimp only
    rw [fn_Slip_greatestSpared_L7, lf42_0, hx_C hx, if_neg Int32.lt_irrefl]
  · try dsimp only
    rw [fn_Slip_greatestSpared_L7, lf42_0, hx_C hx, if_pos (zl_lt hi (by omega)), xs_catRoom so rx ok i hi, e_bd, e_jn]
    by_cases ce : sp_night H lw ρ (37 + i) = Int32.ofNat r
    · rw [if_pos ce, if_pos ce, sh_p4, hx_hide hx ok r hr, e_bd, sh_p11, hx_ns hx ok i hi, e_bd, e_let, so.2.2.2.1, zi_ald (show i < sh_ln 37 by rw [so.2.2.2.2.2.1]; omega) (by omega), e_bd, hc i hi, e_let, e_jn]
      unfold spI
      cases ht : tk H (zF (tstep H) i 0 (sp_grown H lw ρ)) i with
      | none =>
        rw [if_pos (show oI none = -1 from rfl)]
        try dsimp only
        rw [e_let, e_let, zi_succ]
      | some t =>
        have htS := (tkl_ive ok ht).1
        rw [if_neg (show ¬ oI (some t) = -1 from fun e => neg_ne (show t < 2147483648 by omega) e.symm), show oI (some t) = Int32.ofNat t from rfl, xs_size so rx ok t htS, e_bd, e_jn, h4]
        by_cases cs : t < s
        · rw [if_pos (zl_lt cs (by omega))]
          try dsimp only
          rw [e_let, e_let, e_let, e_let, zi_succ, if_pos cs]
        · rw [if_neg (zl_nlt (by omega) (by omega))]
          try dsimp only
          rw [e_let, e_let, e_let, e_let, zi_succ, if_neg cs]
    · rw [if_neg ce, if_neg ce]
      try dsimp only
      rw [e_let, zi_succ]
end LIM

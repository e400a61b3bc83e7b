/-! SLIPS: the class's set of pairs -/
theorem zS {ρ : Type} {L : Nat → hp_I → Int32 → Option ρ} {k : hp_I → Option ρ} {N : Nat} (R : Nat → hp_I → Prop) {i0 : Nat} {s : hp_I} (hend : ∀ fu s, R N s → L (fu + 1) s (Int32.ofNat N) = k s) (hstep : ∀ fu i s, i0 ≤ i → i < N → R i s → ∃ s', L (fu + 1) s (Int32.ofNat i) = L fu s' (Int32.ofNat (i + 1)) ∧ R (i + 1) s') (hi : i0 ≤ N) (hN : N < 100000) (h0 : R i0 s) : ∃ s', L FU s (Int32.ofNat i0) = k s' ∧ R N s' := by
  obtain ⟨s', g1, g2, g3⟩ := zL_R (L := L) (k := k) (β := Unit) (fun _ u => u) (fun i s _ => i0 ≤ i ∧ R i s) (fun fu s _ h => hend fu s h.2) (fun fu i s _ h1 h2 => by
    obtain ⟨s', k1, k2⟩ := hstep fu i s h2.1 h1 h2.2
    exact ⟨s', k1, by omega, k2⟩) (N - i0) i0 FU s () (by omega) (show N - i0 < 100000 by omega) ⟨Nat.le_refl _, h0⟩
  exact ⟨s', g1, g3⟩
theorem ix32 (a b : Nat) : Int32.ofNat a * 32 + Int32.ofNat b = Int32.ofNat (a * 32 + b) := by
  rw [show (32 : Int32) = Int32.ofNat 32 from rfl, zi_mul, zi_add]
theorem le_l {i l : Nat} (hi : i < 100000) (hl : l < 100000) : (Int32.ofNat i ≤ Int32.ofNat l - 1) ↔ i < l := by
  rw [Int32.le_iff_toInt_le, show Int32.ofNat l - 1 = Int32.ofNat l - Int32.ofNat 1 from rfl, sub_int hl (by decide), zi_toInt (by omega)]
  omega
theorem zi_dv {a b : Nat} (ha : a < 2147483648) (hb : b < 2147483648) (h0 : 0 < b) : px_div (Int32.ofNat a) (Int32.ofNat b) = some (Int32.ofNat (a / b)) := by
  unfold px_div
  rw [if_neg, zi_div ha hb]
  intro e
  have := congrArg Int32.toInt e
  rw [zi_toInt hb, show (0 : Int32).toInt = 0 from rfl] at this
  omega
theorem max_l {l w : Nat} (hl : l < 100000) (hw : w < 100000) : px_max (Int32.ofNat l - 1) (Int32.ofNat w) = Int32.ofNat (max l (w + 1)) - 1 := by
  have e : Int32.ofNat (w + 1) - 1 = Int32.ofNat w := by rw [zi_sub1 (by omega), Nat.add_sub_cancel]
  have hlt : (Int32.ofNat l - 1 < Int32.ofNat w) ↔ l ≤ w := by
    rw [Int32.lt_iff_toInt_lt, show Int32.ofNat l - 1 = Int32.ofNat l - Int32.ofNat 1 from rfl, sub_int hl (by decide), zi_toInt (by omega)]
    omega
  unfold px_max
  by_cases h : l ≤ w
  · rw [if_pos (hlt.mpr h), Nat.max_eq_right (by omega), e]
  · rw [if_neg (fun q => h (hlt.mp q)), Nat.max_eq_left (by omega)]
/-- the set -/
def PSt (σ : hp_I) (P : Nat → Nat → Prop) (f l : Nat) : Prop := (f ≤ 32 ∧ l ≤ 32) ∧ (σ 42 7 = Int32.ofNat f ∧ σ 42 8 = Int32.ofNat l - 1) ∧ (∀ r w, r < 8 → w < 32 → ¬ (f ≤ w ∧ w < l) → σ 43 (r * 32 + w) = 0) ∧ ∀ r w b, r < 8 → w < 32 → b < 32 → (hasB (σ 43 (r * 32 + w)) b = true ↔ P r (w * 32 + b))
section CSET
variable {σ : hp_I} {P : Nat → Nat → Prop} {f l r z : Nat}
theorem PSt.fr {σ' : hp_I} (h : PSt σ P f l) (e7 : σ' 42 7 = σ 42 7) (e8 : σ' 42 8 = σ 42 8) (e2 : σ' 43 = σ 43) : PSt σ' P f l := by
  unfold PSt
  rw [e7, e8, e2]
  exact h
theorem PSt.sli (h : PSt σ P f l) : SLI σ := ⟨f, l, h.1, h.2.1, h.2.2.1⟩
theorem PSt.iff {P' : Nat → Nat → Prop} (h : PSt σ P f l) (e : ∀ r z, r < 8 → z < 1024 → (P r z ↔ P' r z)) : PSt σ P' f l := ⟨h.1, h.2.1, h.2.2.1, fun r w b hr hw hb => (h.2.2.2 r w b hr hw hb).trans (e r _ hr (by omega))⟩
theorem PSt.in (h : PSt σ P f l) (hr : r < 8) (hz : z < 1024) (hp : P r z) : f ≤ z / 32 ∧ z / 32 < l := by
  apply Classical.byContradiction
  intro hn
  have h1 := (h.2.2.2 r (z / 32) (z % 32) hr (by omega) (by omega)).mpr (by rw [show z / 32 * 32 + z % 32 = z by omega]; exact hp)
  rw [h.2.2.1 r (z / 32) hr (by omega) hn, hasB_0] at h1
  cases h1
theorem PSt.has (h : PSt σ P f l) (hr : r < 8) (hz : z < 1024) : hasB (σ 43 (r * 32 + z / 32)) (z % 32) = true ↔ P r z := by
  have h1 := h.2.2.2 r (z / 32) (z % 32) hr (by omega) (by omega)
  rw [show z / 32 * 32 + z % 32 = z by omega] at h1
  exact h1
theorem c_clear (h : SLI σ) : ∃ s, fn_Slip_clear 42 σ = some s ∧ PSt s (fun _ _ => False) 32 0 ∧ Fc [42, 43] σ s ∧ ∀ k, k < 7 → s 42 k = σ 42 k := by
  obtain ⟨f, l, hfl, hw, hz⟩ := h
  unfold fn_Slip_clear
  rw [e_let]
  obtain ⟨s1, g1, g2, g3⟩ := zS (L := fun fu s i => fn_Slip_clear_L2 42 (fun (s_7 : hp_I) => px_let (hp_s s_7 42 7 (32 : Int32)) fun s8 => px_let (hp_s s8 42 8 (-1 : Int32)) fun s9 => some s9) fu i s) (k := fun (s_7 : hp_I) => px_let (hp_s s_7 42 7 (32 : Int32)) fun s8 => px_let (hp_s s8 42 8 (-1 : Int32)) fun s9 => some s9) (N := 8) (fun i s => Fc [43] σ s ∧ ∀ r w, r < 8 → w < 32 → (r < i ∨ ¬ (f ≤ w ∧ w < l)) → s 43 (r * 32 + w) = 0) (fun fu s h => by
      try dsimp only
      rw [fn_Slip_clear_L2, if_neg (by decide)]) (fun fu i s _ hi h => by
      try dsimp only
      rw [fn_Slip_clear_L2, if_pos (show Int32.ofNat i < 8 from zl_lt hi (by decide)), e_let, h.1 42 (by decide), hw.1]
      obtain ⟨s', k1, k2, k3⟩ := zS (L := fun fu' s i' => fn_Slip_clear_L13 42 (Int32.ofNat i) (fun (s_5 : hp_I) => px_let (Int32.ofNat i + 1) fun v1_6 => fn_Slip_clear_L2 42 (fun (s_7 : hp_I) => px_let (hp_s s_7 42 7 (32 : Int32)) fun s8 => px_let (hp_s s8 42 8 (-1 : Int32)) fun s9 => some s9) fu v1_6 s_5) fu' i' s) (k := fun (s_5 : hp_I) => px_let (Int32.ofNat i + 1) fun v1_6 => fn_Slip_clear_L2 42 (fun (s_7 : hp_I) => px_let (hp_s s_7 42 7 (32 : Int32)) fun s8 => px_let (hp_s s8 42 8 (-1 : Int32)) fun s9 => some s9) fu v1_6 s_5) (N := max f l) (i0 := f) (s := s) (fun j s => Fc [43] σ s ∧ ∀ r w, r < 8 → w < 32 → (r < i ∨ (r = i ∧ w < j) ∨ ¬ (f ≤ w ∧ w < l)) → s 43 (r * 32 + w) = 0) (fun fu2 s2 h2 => by
          try dsimp only
          rw [fn_Slip_clear_L13, h2.1 42 (by decide), hw.2, if_neg (fun q => absurd ((le_l (by omega) (by omega)).mp q) (by omega))]) (fun fu2 j s2 hfj hj h2 => by
          try dsimp only
          refine ⟨hp_s s2 43 (i * 32 + j) 0, ?_, h2.1.trans (Fc.put (by decide)), fun r w hr hw2 hc => ?_⟩
          · rw [fn_Slip_clear_L13, h2.1 42 (by decide), hw.2, if_pos ((le_l (by omega) (by omega)).mpr (by omega)), lf42_2, ix32, zi_ast (by rw [ln_43]; omega) (by omega), e_bd, e_let, zi_succ j]
          · by_cases e : r * 32 + w = i * 32 + j
            · rw [e, hs_at]
            · rw [hs_ne (Or.inr e)]
              exact h2.2 r w hr hw2 (by omega)) (by omega) (by omega) ⟨h.1, fun r w hr hw2 hc => h.2 r w hr hw2 (by omega)⟩
      refine ⟨s', ?_, k2, fun r w hr hw2 hc => k3 r w hr hw2 (by omega)⟩
      rw [k1, e_let, zi_succ]) (i0 := 0) (s := σ) (by omega) (by omega) ⟨Fc.refl, fun r w hr hw2 hc => hz r w hr hw2 (by omega)⟩
  refine ⟨hp_s (hp_s s1 42 7 32) 42 8 (-1), ?_, ⟨⟨by decide, by decide⟩, ⟨?_, ?_⟩, fun r w hr hw2 _ => ?_, fun r w b hr hw2 hb => ?_⟩, (g2.mono (by decide)).trans ((Fc.put (by decide)).trans (Fc.put (by decide))), fun k hk => ?_⟩
  · rw [show (0 : Int32) = Int32.ofNat 0 from rfl, g1, e_let, e_let]
  · rw [hs_ne (by omega), hs_at]; rfl
  · rw [hs_at]; rfl
  · rw [hs_ne (by omega), hs_ne (by omega)]; exact g3 r w hr hw2 (by omega)
  · rw [hs_ne (by omega), hs_ne (by omega), g3 r w hr hw2 (by omega), hasB_0]
    exact ⟨fun h => (by cases h), fun h => h.elim⟩
  · rw [hs_ne (by omega), hs_ne (by omega), g2 42 (by decide)]
theorem c_add (h : PSt σ P f l) (hr : r < 8) (hz : z < 1024) : ∃ s f' l', fn_Slip_add 42 (Int32.ofNat r) (Int32.ofNat z) σ = some s ∧ PSt s (fun r' z' => P r' z' ∨ (r' = r ∧ z' = z)) f' l' ∧ Fc [42, 43] σ s ∧ ∀ k, k < 7 → s 42 k = σ 42 k := by
  obtain ⟨hfl, hw, h0, hb⟩ := h
  refine ⟨hp_s (hp_s (hp_s σ 43 (r * 32 + z / 32) (σ 43 (r * 32 + z / 32) ||| bitI (z % 32))) 42 7 (Int32.ofNat (min f (z / 32)))) 42 8 (Int32.ofNat (max l (z / 32 + 1)) - 1), min f (z / 32), max l (z / 32 + 1), ?_, ⟨⟨by omega, by omega⟩, ⟨?_, ?_⟩, fun r' w hr' hw2 hn => ?_, fun r' w b hr' hw2 hb2 => ?_⟩, (Fc.put (by decide)).trans ((Fc.put (by decide)).trans (Fc.put (by decide))), fun k hk => ?_⟩
  · unfold fn_Slip_add
    rw [show (32 : Int32) = Int32.ofNat 32 from rfl, zi_dv (by omega) (by omega) (by omega), e_bd, e_let, lf42_2, show (Int32.ofNat 32) = (32 : Int32) from rfl, ix32, zi_ald (by rw [ln_43]; omega) (by omega), e_bd, show (32 : Int32) = Int32.ofNat 32 from rfl, zi_rem (by omega) (by omega) (by omega), e_bd, zi_ast (by rw [ln_43]; omega) (by omega), e_bd, e_let, hs_ne (s := σ) (i := 43) (a := 42) (b := 7) (by omega), hw.1, min_of (by omega) (by omega), e_let, hs_ne (i := 42) (k := 7) (a := 42) (b := 8) (by omega), hs_ne (s := σ) (i := 43) (a := 42) (b := 8) (by omega), hw.2, max_l (by omega) (by omega)]
    rfl
  · rw [hs_ne (by omega), hs_at]
  · rw [hs_at]
  · rw [hs_ne (by omega), hs_ne (by omega), hs_ne (by omega)]
    exact h0 r' w hr' hw2 (by omega)
  · rw [hs_ne (by omega), hs_ne (by omega)]
    by_cases e : r' * 32 + w = r * 32 + z / 32
    · have e1 : r' = r := by omega
      have e2 : w = z / 32 := by omega
      rw [e, hs_at, hasB_or hb2, hasB_bit (by omega) hb2, Bool.or_eq_true, decide_eq_true_iff, ← e, hb r' w b hr' hw2 hb2]
      constructor
      · rintro (c | c)
        · exact Or.inl c
        · exact Or.inr ⟨e1, by omega⟩
      · rintro (c | c)
        · exact Or.inl c
        · exact Or.inr (by omega)
    · rw [hs_ne (Or.inr e), hb r' w b hr' hw2 hb2]
      constructor
      · exact Or.inl
      · rintro (c | c)
        · exact c
        · exact absurd (show r' * 32 + w = r * 32 + z / 32 by omega) e
  · rw [hs_ne (by omega), hs_ne (by omega), hs_ne (by omega)]
theorem c_any (h : PSt σ P f l) (hr : r < 8) : ∃ v, fn_Slip_hasAny 42 (Int32.ofNat r) σ = some v ∧ (v = 0 ↔ ¬ ∃ z, z < 1024 ∧ P r z) := by
  obtain ⟨hfl, hw, h0, hb⟩ := h
  unfold fn_Slip_hasAny
  rw [e_let, hw.1]
  have key : ∀ n j fu, n < fu → j + n = max f l → f ≤ j → (∀ w, f ≤ w → w < j → w < 32 → σ 43 (r * 32 + w) = 0) → ∃ v, fn_Slip_hasAny_L5 42 (Int32.ofNat r) σ (px_z (0 : Int32) (0 : Int32)) fu (Int32.ofNat j) = some v ∧ (v = 0 ↔ ¬ ∃ z, z < 1024 ∧ P r z) := by
    intro n
    induction n with
    | zero =>
      intro j fu hf hj hfj hz
      cases fu with
      | zero => omega
      | succ fu =>
        rw [fn_Slip_hasAny_L5, hw.2, if_neg (fun q => absurd ((le_l (by omega) (by omega)).mp q) (by omega)), e_z0]
        refine ⟨0, rfl, fun _ => ?_, fun _ => rfl⟩
        rintro ⟨z, hz1, hp⟩
        have h1 := (hb r (z / 32) (z % 32) hr (by omega) (by omega)).mpr (by rw [show z / 32 * 32 + z % 32 = z by omega]; exact hp)
        by_cases c : f ≤ z / 32 ∧ z / 32 < l
        · rw [hz _ c.1 (by omega) (by omega), hasB_0] at h1; cases h1
        · rw [h0 r (z / 32) hr (by omega) c, hasB_0] at h1; cases h1
    | succ n ih =>
      intro j fu hf hj hfj hz
      cases fu with
      | zero => omega
      | succ fu =>
        rw [fn_Slip_hasAny_L5, hw.2, if_pos ((le_l (by omega) (by omega)).mpr (by omega)), lf42_2, ix32, zi_ald (by rw [ln_43]; omega) (by omega), e_bd]
        by_cases c : σ 43 (r * 32 + j) = 0
        · rw [if_pos c, e_let, zi_succ]
          refine ih (j + 1) fu (by omega) (by omega) (by omega) (fun w h1 h2 h3 => ?_)
          by_cases e : w = j
          · rw [e]; exact c
          · exact hz w h1 (by omega) h3
        · rw [if_neg c, e_z1]
          refine ⟨1, rfl, fun q => absurd q (by decide), fun q => ?_⟩
          exact (c (hasB_ext (fun k hk => by
            rw [hasB_0]
            cases hh : hasB (σ 43 (r * 32 + j)) k with
            | false => rfl
            | true => exact absurd ⟨j * 32 + k, by omega, (hb r j k hr (by omega) hk).mp hh⟩ q))).elim
  exact key (max f l - f) f FU (show max f l - f < 100000 by omega) (by omega) (by omega) (fun w h1 h2 h3 => by omega)
end CSET

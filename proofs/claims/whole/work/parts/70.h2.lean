/-! HUNT: the class -/
theorem dist_v (H : ab_H) (ρ : ab_R) (e : Nat) : ∀ n i been bits, dist H ρ e n i been bits = -1 ∨ ∃ k, k < i + n ∧ dist H ρ e n i been bits = Int32.ofNat k := by
  intro n
  induction n with
  | zero => intro i been bits; exact Or.inl rfl
  | succ n ih =>
    intro i been bits
    unfold dist
    split
    · exact Or.inr ⟨i, by omega, rfl⟩
    · split
      · exact Or.inl rfl
      · rcases ih (i + 1) bits (nbF H ρ bits bits) with h | ⟨k, hk, h⟩
        · exact Or.inl h
        · exact Or.inr ⟨k, by omega, h⟩
theorem far_v (H : ab_H) (ρ : ab_R) (r e : Nat) : sp_far H ρ r e = -1 ∨ ∃ k, k < 10 ∧ sp_far H ρ r e = Int32.ofNat k := dist_v H ρ e 10 0 0 (bitI r)
def hvis (A : ab_A) (c s : Nat) : Bool := hasB (aR A 1) s && sp_ws (aH A) c (aR A (13 + s)) (aR A (5 + s))
def hfar (A : ab_A) (c s : Nat) : Int32 := sp_far (aH A) (aR A) (aR A (37 + c)).toNatClampNeg (aR A (5 + s)).toNatClampNeg
def hPt (A : ab_A) (c s : Nat) : Option Nat := if hvis A c s = true then (if hfar A c s = -1 then none else some (hfar A c s).toNatClampNeg) else none
def hpv (A : ab_A) (c s : Nat) : Int32 := match hPt A c s with
  | none => -1
  | some d => Int32.ofNat d
theorem hP_le (A : ab_A) : ∀ c s d, hPt A c s = some d → d ≤ 9 := by
  intro c s d h
  unfold hPt at h
  split at h
  · split at h
    · cases h
    · rename_i hne
      rcases far_v (aH A) (aR A) (aR A (37 + c)).toNatClampNeg (aR A (5 + s)).toNatClampNeg with h1 | ⟨k, hk, h1⟩
      · exact absurd h1 hne
      · cases h
        unfold hfar
        rw [h1, zi_nat (by omega)]
        omega
  · cases h
theorem hpv_eq (A : ab_A) (c s : Nat) : hpv A c s = if hvis A c s = true then hfar A c s else -1 := by
  unfold hpv hPt
  by_cases h : hvis A c s = true
  · rw [if_pos h, if_pos h]
    by_cases h2 : hfar A c s = -1
    · rw [if_pos h2, h2]
    · rw [if_neg h2]
      dsimp only
      rcases far_v (aH A) (aR A) (aR A (37 + c)).toNatClampNeg (aR A (5 + s)).toNatClampNeg with h1 | ⟨k, hk, h1⟩
      · exact absurd h1 h2
      · have h3 : hfar A c s = Int32.ofNat k := h1
        rw [h3, zi_nat (by omega)]
  · rw [if_neg h, if_neg h]
theorem hpv_m (A : ab_A) (c s : Nat) : (hpv A c s = -1) ↔ hPt A c s = none := by
  unfold hpv
  cases h : hPt A c s with
  | none => exact ⟨fun _ => rfl, fun _ => rfl⟩
  | some d =>
    have hd := hP_le A c s d h
    refine ⟨fun e => ?_, fun e => by cases e⟩
    have := oI_m (some d) (fun t ht => by cases ht; omega)
    have e2 : oI (some d) = -1 := e
    rw [this] at e2
    cases e2
theorem cf_0 : sh_rf 45 0 = 3 := by decide +kernel
theorem cf_1 : sh_rf 45 1 = 46 := by decide +kernel
theorem cf_2 : sh_rf 45 2 = 47 := by decide +kernel
theorem cf_3 : sh_rf 45 3 = 48 := by decide +kernel
theorem cn_46 : sh_ln 46 = 1536 := by decide +kernel
theorem cn_47 : sh_ln 47 = 40 := by decide +kernel
theorem cn_48 : sh_ln 48 = 5 := by decide +kernel
theorem bc_o {c : Nat} {u : Int32} (hu : zB u 256) (h : bc u ≤ Int32.ofNat c) (hc : c < 6) {s : Nat} (hs : s < 8) (hb : hasB u s = false) : bc (u ||| bitI s) ≤ Int32.ofNat (c + 1) := by
  obtain ⟨a, ha, rfl⟩ := hu
  rw [bc_new0 a ha s hs hb]
  obtain ⟨p, hp, e⟩ := bc_lt0 a ha
  rw [e] at h ⊢
  rw [zi_le (by omega) (by omega)] at h
  rw [zi_succ]
  exact zl_le (by omega) (by omega)
theorem bc_s {c : Nat} {u : Int32} (hu : zB u 256) (h : bc u ≤ Int32.ofNat c) (hc : c < 6) : bc u ≤ Int32.ofNat (c + 1) := by
  obtain ⟨a, ha, rfl⟩ := hu
  obtain ⟨p, hp, e⟩ := bc_lt0 a ha
  rw [e] at h ⊢
  rw [zi_le (by omega) (by omega)] at h
  exact zl_le (by omega) (by omega)
theorem max_nat {a b : Nat} (ha : a < 2147483648) (hb : b < 2147483648) : px_max (Int32.ofNat a) (Int32.ofNat b) = Int32.ofNat (max a b) := by
  unfold px_max
  by_cases h : a < b
  · rw [if_pos (zl_lt h hb), Nat.max_eq_right (by omega)]
  · rw [if_neg (zl_nlt (by omega) ha), Nat.max_eq_left (by omega)]
section HX
variable {σ s : hp_I} {A : ab_A}
/-- paths -/
def PTH (A : ab_A) (s : hp_I) : Prop := ∀ c, c < hC (aH A) → ∀ t, t < hS (aH A) → s 47 (c * 8 + t) = hpv A c t
theorem xs_path1 (ok : AOK A) (cx : CX σ A) {c : Nat} (hc : c < hC (aH A)) (hs : Fc [47] σ s) (K : hp_I → Option hp_I) : ∃ s', fn_Chase_measurePaths_L15 45 32 (Int32.ofNat c) K FU 0 s = K s' ∧ Fc [47] σ s' ∧ (∀ t, t < hS (aH A) → s' 47 (c * 8 + t) = hpv A c t) ∧ ∀ q, q < c * 8 → s' 47 q = s 47 q := by
  have h8 := ok.1.2.2.1
  have h5 := ok.1.2.2.2.1
  refine Exists.elim (zL_R0 (L := fun fu s i => fn_Chase_measurePaths_L15 45 32 (Int32.ofNat c) K fu i s) (k := K) (N := hS (aH A)) (fun _ (u : Unit) => u) (fun i s' _ => Fc [47] σ s' ∧ (∀ t, t < i → s' 47 (c * 8 + t) = hpv A c t) ∧ ∀ q, q < c * 8 → s' 47 q = s 47 q) (by omega) (fun fu s u h => ?_) (fun fu i s2 u hi h => ?_) s () ⟨hs, fun t ht => absurd ht (Nat.not_lt_zero _), fun q _ => rfl⟩) (fun s' hs' => ⟨s', hs'.1, hs'.2.1, hs'.2.2.1, hs'.2.2.2⟩)
  · try dsimp only
    have c1 : CX s A := cx.x (fc_x h.1 (by decide))
    rw [fn_Chase_measurePaths_L15, cf_0, hx_S c1.1, if_neg Int32.lt_irrefl]
  · try dsimp only
    have c1 : CX s2 A := cx.x (fc_x h.1 (by decide))
    obtain ⟨x, hx, ex⟩ := ok.2.1.2.1 c hc
    obtain ⟨e, he, ee⟩ := (ok.2.1.1 i hi).1
    have hf : fn_State_distance 32 (aR A (37 + c)) (aR A (5 + i)) s2 = some (hfar A c i) := by
      have := xs_far so_32 c1.1 c1.2.1 ok.1 hx he
      unfold hfar
      rw [ex, ee, this, zi_nat (by have := ok.1.1; omega), zi_nat (by have := ok.1.1; omega)]
    have hw := xs_wouldSee so_32 c1.1 ok.1 c hc (aR A (13 + i)) (aR A (5 + i)) (ok.2.1.1 i hi).1
    refine ⟨hp_s s2 47 (c * 8 + i) (hpv A c i), ?_, h.1.trans (Fc.put (by simp)), fun t ht => ?_, fun q hq => ?_⟩
    · rw [fn_Chase_measurePaths_L15, cf_0, hx_S c1.1, if_pos (zl_lt hi (by omega)), xs_roomOf so_32 c1.2.1 ok.1 i hi, e_bd, e_let, xs_lives so_32 c1.2.1, e_bd, e_jn, e_jn, bI_if, xs_size so_32 c1.2.1 ok.1 i hi, e_bd, hw, e_bd, bI_if, xs_catRoom so_32 c1.2.1 ok.1 c hc]
      simp only [e_let, e_jn, e_bd, hf, cf_2, show Int32.ofNat c * 8 + Int32.ofNat i = Int32.ofNat (c * 8 + i) from by rw [show Int32.ofNat c * 8 = Int32.ofNat (c * 8) from zi_mul c 8, zi_add], zi_ast (show c * 8 + i < sh_ln 47 by rw [cn_47]; omega) (show c * 8 + i < 2147483648 by omega), zi_succ]
      rw [hpv_eq]
      unfold hvis
      cases hasB (aR A 1) i with
      | false => simp only [Bool.false_eq_true, if_false, Bool.false_and, if_true]
      | true =>
        cases sp_ws (aH A) c (aR A (13 + i)) (aR A (5 + i)) with
        | false => simp only [if_true, Bool.false_eq_true, if_false, Bool.and_false]
        | true =>
          simp only [if_true, Bool.and_true]
          rw [if_neg (show ¬ (1 : Int32) = 0 from by decide)]
    · rw [hp_s_i]
      by_cases e2 : t = i
      · rw [e2, upd_i]
      · rw [upd_n (by omega)]; exact h.2.1 t (by omega)
    · rw [hp_s_i, upd_n (by omega)]; exact h.2.2 q hq
theorem xs_paths (ok : AOK A) (cx : CX σ A) : ∃ s', fn_Chase_measurePaths 45 32 σ = some s' ∧ Fc [47] σ s' ∧ PTH A s' := by
  have h8 := ok.1.2.2.1
  have h5 := ok.1.2.2.2.1
  unfold fn_Chase_measurePaths
  rw [e_let]
  refine Exists.elim (zL_R0 (L := fun fu s i => fn_Chase_measurePaths_L2 45 32 (fun s => some s) fu i s) (k := fun s => some s) (N := hC (aH A)) (fun _ (u : Unit) => u) (fun i s' _ => Fc [47] σ s' ∧ ∀ c, c < i → ∀ t, t < hS (aH A) → s' 47 (c * 8 + t) = hpv A c t) (by omega) (fun fu s u h => ?_) (fun fu i s2 u hi h => ?_) σ () ⟨Fc.refl, fun c hc => absurd hc (Nat.not_lt_zero _)⟩) (fun s' hs' => ⟨s', hs'.1, hs'.2.1, hs'.2.2⟩)
  · try dsimp only
    have c1 : CX s A := cx.x (fc_x h.1 (by decide))
    rw [fn_Chase_measurePaths_L2, cf_0, hx_C c1.1, if_neg Int32.lt_irrefl]
  · try dsimp only
    have c1 : CX s2 A := cx.x (fc_x h.1 (by decide))
    obtain ⟨s3, g1, g2, g3, g4⟩ := xs_path1 ok cx hi h.1 (fun s_18 => fn_Chase_measurePaths_L2 45 32 (fun s => some s) fu (Int32.ofNat (i + 1)) s_18)
    refine ⟨s3, ?_, g2, fun c hc t ht => ?_⟩
    · rw [fn_Chase_measurePaths_L2, cf_0, hx_C c1.1, if_pos (zl_lt hi (by omega)), e_let]
      simp only [e_let, zi_succ]
      exact g1
    · by_cases e : c = i
      · rw [e]; exact g3 t ht
      · have : (c + 1) * 8 ≤ i * 8 := Nat.mul_le_mul_right _ (by omega)
        rw [g4 _ (by omega)]
        exact h.2 c (by omega) t ht
/-- the table from one cat on -/
def TBl (A : ab_A) (c : Nat) (s : hp_I) : Prop := ∀ c', c ≤ c' → c' ≤ hC (aH A) → ∀ a, a < 2 ^ hS (aH A) → bc (Int32.ofNat a) ≤ Int32.ofNat c' → s 46 (c' * 256 + a) = Int32.ofNat (hVl (hPt A) (hS (aH A)) (hC (aH A) - c') c' (Int32.ofNat a))
def HI (A : ab_A) (σ s : hp_I) : Prop := Fc SXQ σ s ∧ PTH A s
theorem xs_free (ok : AOK A) (h : HI A σ s) {c t : Nat} (hc : c < hC (aH A)) (ht : t < hS (aH A)) (u : Int32) : fn_Chase_isFree 45 (Int32.ofNat c) (Int32.ofNat t) u s = some (bI (hfr (hPt A) c t u).isSome) := by
  have h8 := ok.1.2.2.1
  have h5 := ok.1.2.2.2.1
  unfold fn_Chase_isFree
  rw [e_jn, e_jn, bit_if, cf_2, show Int32.ofNat c * 8 + Int32.ofNat t = Int32.ofNat (c * 8 + t) from by rw [show Int32.ofNat c * 8 = Int32.ofNat (c * 8) from zi_mul c 8, zi_add], zi_ald (by rw [cn_47]; omega) (by omega), e_bd, h.2 c hc t ht]
  simp only [e_z0, e_z1]
  unfold hfr
  by_cases hb : hasB u t = true
  · rw [if_pos hb, if_pos hb]; rfl
  · rw [if_neg hb, if_neg hb]
    cases hp : hPt A c t with
    | none => rw [if_pos ((hpv_m A c t).mpr hp)]; rfl
    | some d => rw [if_neg (fun e => by rw [(hpv_m A c t).mp e] at hp; cases hp)]; rfl
theorem xs_worth (ok : AOK A) (h : HI A σ s) {c t d a : Nat} (hc : c < hC (aH A)) (ht : t < hS (aH A)) (ha : a < 2 ^ hS (aH A)) (hb : bc (Int32.ofNat a) ≤ Int32.ofNat c) (htb : TBl A (c + 1) s) (hf : hfr (hPt A) c t (Int32.ofNat a) = some d) : fn_Chase_worth 45 (Int32.ofNat c) (Int32.ofNat t) (Int32.ofNat a) s = some (Int32.ofNat (100 - d + hVl (hPt A) (hS (aH A)) (hC (aH A) - (c + 1)) (c + 1) (Int32.ofNat a ||| bitI t))) := by
  have h8 := ok.1.2.2.1
  have h5 := ok.1.2.2.2.1
  have hp8 := pow8 h8
  unfold hfr at hf
  split at hf
  · cases hf
  rename_i hbt
  have hbt2 : hasB (Int32.ofNat a) t = false := by simpa using hbt
  have hd := hP_le A c t d hf
  obtain ⟨a2, ha2, e2⟩ : zB (Int32.ofNat a ||| bitI t) (2 ^ hS (aH A)) := zB_or (by omega) ⟨a, ha, rfl⟩ (zB_bit ht h8)
  have hbc : bc (Int32.ofNat a2) ≤ Int32.ofNat (c + 1) := by
    rw [← e2]
    exact bc_o ⟨a, by omega, rfl⟩ hb (by omega) (by omega) hbt2
  have hv := htb (c + 1) (Nat.le_refl _) (by omega) a2 ha2 hbc
  have hvl := (hV_key (S := hS (aH A)) (hP_le A) (hC (aH A) - (c + 1)) (c + 1) (Int32.ofNat a ||| bitI t)).2
  unfold fn_Chase_worth
  rw [cf_2, cf_1, show Int32.ofNat c * 8 + Int32.ofNat t = Int32.ofNat (c * 8 + t) from by rw [show Int32.ofNat c * 8 = Int32.ofNat (c * 8) from zi_mul c 8, zi_add], zi_ald (by rw [cn_47]; omega) (by omega), e_bd, h.2 c hc t ht, show (Int32.ofNat c + 1) * 256 + (Int32.ofNat a ||| ((1 : Int32) <<< (Int32.ofNat t &&& 31))) = Int32.ofNat ((c + 1) * 256 + a2) from by rw [show (Int32.ofNat a ||| ((1 : Int32) <<< (Int32.ofNat t &&& 31))) = Int32.ofNat a2 from e2, zi_succ, show Int32.ofNat (c + 1) * 256 = Int32.ofNat ((c + 1) * 256) from zi_mul (c + 1) 256, zi_add], zi_ald (by rw [cn_46]; omega) (by omega), e_bd, hv, e2]
  rw [e2] at hvl
  unfold hpv
  rw [hf]
  dsimp only
  rw [show (100 : Int32) - Int32.ofNat d = Int32.ofNat (100 - d) from zi_sub (a := 100) (by omega), zi_add]
abbrev hmx' (A : ab_A) (n c : Nat) (u : Int32) : Nat → Nat → Nat := hmx (hPt A) (hS (aH A)) n c u
theorem xs_bestFor (ok : AOK A) (cx : CX σ A) (h : HI A σ s) {c a : Nat} (hc : c < hC (aH A)) (ha : a < 2 ^ hS (aH A)) (hb : bc (Int32.ofNat a) ≤ Int32.ofNat c) (htb : TBl A (c + 1) s) : fn_Chase_bestFor 45 (Int32.ofNat c) (Int32.ofNat a) s = some (Int32.ofNat (hVl (hPt A) (hS (aH A)) (hC (aH A) - c) c (Int32.ofNat a))) := by
  have h8 := ok.1.2.2.1
  have h5 := ok.1.2.2.2.1
  have hp8 := pow8 h8
  have c1 : CX s A := cx.x h.1
  unfold fn_Chase_bestFor
  have hv := htb (c + 1) (Nat.le_refl _) (by omega) a ha (bc_s ⟨a, by omega, rfl⟩ hb (by omega))
  rw [cf_1, show (Int32.ofNat c + 1) * 256 + Int32.ofNat a = Int32.ofNat ((c + 1) * 256 + a) from by rw [zi_succ, show Int32.ofNat (c + 1) * 256 = Int32.ofNat ((c + 1) * 256) from zi_mul (c + 1) 256, zi_add], zi_ald (by rw [cn_46]; omega) (by omega), e_bd, hv, e_let, e_let]
  obtain ⟨n, hn⟩ : ∃ n, hC (aH A) - c = n + 1 := ⟨hC (aH A) - c - 1, by omega⟩
  have hn2 : hC (aH A) - (c + 1) = n := by omega
  rw [hn, ← hmx_ok (hP_le A) n c (Int32.ofNat a), hn2]
  have hmxx := hR_max (S := hS (aH A)) (hP_le A) n c (Int32.ofNat a)
  have hbd := (hV_key (S := hS (aH A)) (hP_le A) (n + 1) c (Int32.ofNat a)).2
  refine Exists.elim (zL_R0 (L := fun fu (x : Int32) i => fn_Chase_bestFor_L18 45 (Int32.ofNat c) (Int32.ofNat a) s (fun y => some y) fu x i) (k := fun y => some y) (N := hS (aH A)) (hmx' A n c (Int32.ofNat a)) (fun i x m => x = Int32.ofNat m ∧ m ≤ 1000) (by omega) (fun fu x m h => ?_) (fun fu i x m hi h2 => ?_) (Int32.ofNat (hVl (hPt A) (hS (aH A)) n (c + 1) (Int32.ofNat a))) (hVl (hPt A) (hS (aH A)) n (c + 1) (Int32.ofNat a)) ⟨rfl, by omega⟩) (fun x hx => by rw [hx.1, hx.2.1])
  · try dsimp only
    rw [fn_Chase_bestFor_L18, cf_0, hx_S c1.1, if_neg Int32.lt_irrefl]
  · try dsimp only
    rw [fn_Chase_bestFor_L18, cf_0, hx_S c1.1, if_pos (zl_lt hi (by omega)), xs_free ok h hc hi, e_bd, e_jn, bI_if]
    simp only [e_let, zi_succ]
    unfold hmx' hmx
    cases hf : hfr (hPt A) c i (Int32.ofNat a) with
    | none => exact ⟨x, rfl, h2⟩
    | some d =>
      have hw := xs_worth ok h hc hi ha hb htb hf
      rw [hn2] at hw
      have hle := hmxx.2 i d hi hf
      refine ⟨Int32.ofNat (max m (100 - d + hVl (hPt A) (hS (aH A)) n (c + 1) (Int32.ofNat a ||| bitI i))), ?_, rfl, ?_⟩
      · rw [if_pos (show (some d).isSome = true from rfl), hw, e_bd, h2.1, max_nat (by omega) (by omega)]
      · have := h2.2
        show max m (100 - d + hVl (hPt A) (hS (aH A)) n (c + 1) (Int32.ofNat a ||| bitI i)) ≤ 1000
        omega
end HX

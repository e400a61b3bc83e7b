/-! THE WHOLE: the first state, and every script -/
def A0 : ab_A := (H0, rho0 H0, [], [], [], [])
theorem A0_ok : AOK A0 := ⟨H0_ok, rho0_ok H0_ok, ⟨by decide, Or.inl rfl⟩, ⟨fun q h => absurd h List.not_mem_nil, List.nodup_nil⟩, ⟨by decide, fun q h => absurd h List.not_mem_nil⟩, by decide, fun q h => absurd h List.not_mem_nil⟩
theorem kS_z {i k : Nat} (h1 : i ≠ 1) (h2 : i ≠ 42) (h3 : i ≠ 52) : kS_i i k = 0 := by
  unfold kS_i
  rw [hp_s_n h3, hp_s_n h2, hp_s_n h2, hp_s_n h1]
theorem kS_1 : kS_i 1 1 = 0 ∧ kS_i 1 5 = -1 := by
  unfold kS_i
  constructor
  · rw [hs_ne (by omega), hs_ne (by omega), hs_ne (by omega), hs_ne (by omega)]
  · rw [hs_ne (by omega), hs_ne (by omega), hs_ne (by omega), hs_at]
theorem kS_42 : kS_i 42 7 = 32 ∧ kS_i 42 8 = -1 := by
  unfold kS_i
  constructor
  · rw [hs_ne (by omega), hs_ne (by omega), hs_at]
  · rw [hs_ne (by omega), hs_at]
theorem kS_52 : kS_i 52 1 = 0 ∧ kS_i 52 3 = -1 := by
  unfold kS_i
  constructor
  · rw [hs_ne (by omega), hs_ne (by omega), hs_ne (by omega), hs_ne (by omega)]
  · rw [hs_at]
theorem rho0_0 {k : Nat} (h : vk H0 k) : rho0 H0 k = 0 := by
  have hk : k < 5 := by
    unfold vk at h
    have e1 : hS H0 = 0 := rfl
    have e2 : hC H0 = 0 := rfl
    omega
  unfold rho0
  by_cases c : k = 1
  · rw [if_pos c]; decide
  · rw [if_neg c, if_pos hk]
theorem made_1 : ∃ σ1, fn_M_made kS_i = some σ1 ∧ REL σ1 := by
  obtain ⟨s1, a1, a2, a3⟩ := bg_t (s := kS_i) (fun s => some s)
  have dm : DM s1 H0 := ⟨⟨a2 0 (by decide), a2 1 (by decide), a2 2 (by decide), a2 3 (by decide)⟩, fun r h => absurd h (Nat.not_lt_zero _), fun r h => absurd h (Nat.not_lt_zero _), fun r h => absurd h (Nat.not_lt_zero _), fun r h => absurd h (Nat.not_lt_zero _)⟩
  obtain ⟨s2, b1, b2, b3, b4, b5, b6⟩ := ms_anew H0_ok dm
  have lo : ∀ i, i < 52 → s2 i = kS_i i := fun i hi => (b6 i (by omega) (by omega) (by omega) (by omega)).trans (a3 i (by omega))
  have z : ∀ i k, i < 52 → i ≠ 1 → i ≠ 42 → s2 i k = 0 := fun i k hi h1 h2 => by rw [lo i hi]; exact kS_z h1 h2 (by omega)
  have e54 : ∀ k, s2 54 k = 0 := fun k => by rw [b6 54 (by decide) (by decide) (by omega) (by decide), a3 54 (by decide)]; exact kS_z (by decide) (by decide) (by decide)
  have e52 : ∀ j, j < 15 → s2 52 j = kS_i 52 j := fun j hj => by rw [b5 j hj, a3 52 (by decide)]
  refine ⟨s2, ?_, A0, A0_ok, ⟨?_, ?_, ?_, ?_, ?_, ?_⟩, ⟨b2, b3, ?_, ?_, ?_, ?_⟩, ⟨⟨0, by decide, ?_, ?_, fun k h => absurd h (Nat.not_lt_zero _)⟩, ?_, ?_⟩, ?_, ?_, ?_⟩
  · unfold fn_M_made fn_M_tellsNothing
    rw [e_let, a1, e_bd, b1, e_bd]
  · exact ⟨⟨z 3 0 (by decide) (by decide) (by decide), z 3 1 (by decide) (by decide) (by decide), z 3 2 (by decide) (by decide) (by decide), z 3 3 (by decide) (by decide) (by decide)⟩, fun r h => absurd h (Nat.not_lt_zero _), fun r h => absurd h (Nat.not_lt_zero _), fun r h => absurd h (Nat.not_lt_zero _), fun r h => absurd h (Nat.not_lt_zero _)⟩
  · refine ⟨so_32.2.2.2.2.1, fun k hk => ?_⟩
    rw [z 33 k (by decide) (by decide) (by decide)]
    exact (rho0_0 hk).symm
  · exact ⟨z 21 1 (by decide) (by decide) (by decide), fun k h => absurd h (Nat.not_lt_zero _)⟩
  · exact ⟨z 26 0 (by decide) (by decide) (by decide), z 26 1 (by decide) (by decide) (by decide)⟩
  · exact ⟨z 38 0 (by decide) (by decide) (by decide), fun k h => absurd h (Nat.not_lt_zero _)⟩
  · exact ⟨z 38 1 (by decide) (by decide) (by decide), fun k h => absurd h (Nat.not_lt_zero _)⟩
  · exact ⟨b4.1, fun k h => absurd h (Nat.not_lt_zero _)⟩
  · exact ⟨b4.2.1, fun k h => absurd h (Nat.not_lt_zero _)⟩
  · exact ⟨b4.2.2.1, fun k h => absurd h (Nat.not_lt_zero _)⟩
  · exact ⟨b4.2.2.2.2, fun k h => absurd h (Nat.not_lt_zero _)⟩
  · rw [lo 1 (by decide)]; exact kS_1.1
  · rw [e52 1 (by decide)]; exact kS_52.1
  · rw [e52 3 (by decide), lo 1 (by decide), kS_1.2, kS_52.2]
  · refine ⟨32, 0, ⟨by decide, by decide⟩, ⟨?_, ?_⟩, fun r w _ _ _ => z 43 _ (by decide) (by decide) (by decide)⟩
    · rw [lo 42 (by decide), kS_42.1]; rfl
    · rw [lo 42 (by decide), kS_42.2]; rfl
  · rw [b4.2.2.2.1, z 0 13 (by decide) (by decide) (by decide)]
  · rw [e54, z 0 14 (by decide) (by decide) (by decide)]
  · rw [e54, z 0 15 (by decide) (by decide) (by decide)]
def allS : List (Int32 × Option Int32) → Prop
  | [] => True
  | p :: r => p.2 = some 1 ∧ allS r
theorem sw_all {x : Int32} {e0 : Option Int32} (h0 : e0 = some 1) : ∀ l, allS l → px_sw x l e0 = some 1
  | [], _ => h0
  | (v, e) :: r, h => by
    rw [e_swc]
    by_cases c : x = v
    · rw [if_pos c]; exact h.1
    · rw [if_neg c]; exact sw_all h0 r h.2
theorem fin_1 {e : Option Int32} {j : hp_I → hp_L → Option Int32} (h : ∃ s3 u3, e = j s3 u3 ∧ REL s3) (hj : ∀ s u, REL s → j s u = some 1) : e = some 1 := by
  obtain ⟨s3, u3, h1, h2⟩ := h
  rw [h1]
  exact hj s3 u3 h2
theorem law_one {L : Nat} {xs : Nat → Int32} (hL : L ≤ 4096) : ∀ fu n s0 u0, (L - 8 * n) / 8 < fu → 8 * n ≤ L + 8 → REL s0 → fn_law L xs fu (Int32.ofNat (8 * n)) s0 u0 = some 1 := by
  intro fu
  induction fu with
  | zero => intro n s0 u0 h; omega
  | succ fu ih =>
    intro n s0 u0 hf hn r
    rw [fn_law]
    have hle : (Int32.ofNat (8 * n) ≤ Int32.ofNat L - 8) ↔ 8 * n + 8 ≤ L := by
      rw [Int32.le_iff_toInt_le, show Int32.ofNat L - 8 = Int32.ofNat L - Int32.ofNat 8 from rfl, sub_int (by omega) (by decide), zi_toInt (by omega)]
      omega
    by_cases c : 8 * n + 8 ≤ L
    · have hy : SL L xs (Int32.ofNat (8 * n)) (fun d => xs (8 * n + d)) := fun d hd => by
        unfold px_sld
        rw [zi_add, if_pos (by rw [zi_in (by omega)]; exact decide_eq_true (by omega)), zi_nat (by omega)]
      have h0 : px_sld L xs (Int32.ofNat (8 * n)) = some (xs (8 * n)) := by
        unfold px_sld
        rw [if_pos (by rw [zi_in (by omega)]; exact decide_eq_true (by omega)), zi_nat (by omega)]
      have hj : ∀ s u, REL s → (px_let (Int32.ofNat (8 * n) + 8) fun i2 => fn_law L xs fu i2 s u) = some 1 := fun s u hr => by
        rw [e_let, show Int32.ofNat (8 * n) + 8 = Int32.ofNat (8 * (n + 1)) by rw [show (8 : Int32) = Int32.ofNat 8 from rfl, zi_add, show 8 * n + 8 = 8 * (n + 1) by omega]]
        exact ih (n + 1) s u (by omega) (by omega) hr
      rw [if_pos (hle.mpr c), h0, e_bd]
      refine sw_all (hj s0 u0 r) _ ?_
      exact ⟨fin_1 (lk_0 hy r) hj, fin_1 (lk_1 hy r) hj, fin_1 (lk_2 hy r) hj, fin_1 (lk_3 hy r) hj, fin_1 (lk_4 hy r) hj, fin_1 (lk_5 hy r) hj, fin_1 (lk_6 hy r) hj, fin_1 (lk_7 hy r) hj, fin_1 (lk_8 hy r) hj, fin_1 (lk_9 hy r) hj, fin_1 (lk_10 hy r) hj, fin_1 (lk_11 hy r) hj, fin_1 (lk_12 hy r) hj, fin_1 (lk_13 hy r) hj, fin_1 (lk_14 hy r) hj, fin_1 (lk_15 hy r) hj, fin_1 (lk_16 hy r) hj, fin_1 (lk_17 hy r) hj, fin_1 (lk_18 hy r) hj, fin_1 (lk_19 hy r) hj, fin_1 (lk_20 hy r) hj, fin_1 (lk_21 hy r) hj, fin_1 (lk_22 hy r) hj, fin_1 (lk_23 hy r) hj, fin_1 (lk_24 hy r) hj, fin_1 (lk_25 hy r) hj, fin_1 (lk_26 hy r) hj, fin_1 (lk_27 hy r) hj, fin_1 (lk_28 hy r) hj, fin_1 (lk_29 hy r) hj, fin_1 (lk_30 hy r) hj, fin_1 (lk_31 hy r) hj, fin_1 (lk_32 hy r) hj, fin_1 (lk_33 hy r) hj, fin_1 (lk_34 hy r) hj, fin_1 (lk_35 hy r) hj, fin_1 (lk_36 hy r) hj, fin_1 (lk_37 hy r) hj, fin_1 (lk_38 hy r) hj, fin_1 (lk_39 hy r) hj, fin_1 (lk_40 hy r) hj, fin_1 (lk_41 hy r) hj, trivial⟩
    · rw [if_neg (fun q => c (hle.mp q))]
theorem pure_ok : PURE := by
  obtain ⟨σ1, h1, h2⟩ := made_1
  exact ⟨σ1, h1, fun L xs hL => law_one hL 513 0 σ1 kT_i (by omega) (by omega) h2⟩
/-- what the page asks -/
theorem i_vc : Claimed_1_1 ∧ Claimed_1_2 := lw_all pure_ok

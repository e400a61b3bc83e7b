/-! SEASONS -/
theorem zi_mul (a b : Nat) : Int32.ofNat a * Int32.ofNat b = Int32.ofNat (a * b) := (Int32.ofNat_mul a b).symm
theorem zi_div {a b : Nat} (ha : a < 2147483648) (hb : b < 2147483648) : Int32.ofNat a / Int32.ofNat b = Int32.ofNat (a / b) := by
  rw [← Int32.toInt_inj, Int32.toInt_div, zi_toInt ha, zi_toInt hb]
  have h : a / b < 2147483648 := Nat.lt_of_le_of_lt (Nat.div_le_self _ _) ha
  rw [show ((a : Int).tdiv (b : Int)) = ((a / b : Nat) : Int) from rfl]
  generalize a / b = c at h ⊢
  rw [zi_toInt h]
  exact Int.bmod_eq_of_le (by omega) (by omega)
theorem zi_rem {a b : Nat} (ha : a < 2147483648) (hb : b < 2147483648) (h0 : 0 < b) : px_rem (Int32.ofNat a) (Int32.ofNat b) = some (Int32.ofNat (a % b)) := by
  unfold px_rem
  rw [if_neg (show ¬ Int32.ofNat b = 0 from zl_ne (b := 0) (by omega) hb (by decide)), zi_div ha hb, zi_mul, zi_sub (Nat.div_mul_le_self a b)]
  congr 2
  have := Nat.div_add_mod a b
  rw [Nat.mul_comm] at this
  omega
theorem ushr_has (x : Int32) {k : Nat} (hk : k < 16) : hasB (px_ushr x 16) k = hasB (x >>> ((16 : Int32) &&& 31)) k := by
  rw [hasB_bv _ _ (by omega), hasB_bv _ _ (by omega), Int32.toBitVec_shiftRight]
  rw [show (px_ushr x 16).toBitVec = x.toBitVec >>> 16 from rfl, show (((16 : Int32) &&& 31).toBitVec.smod 32) = BitVec.ofNat 32 16 from by decide]
  unfold BitVec.sshiftRight'
  rw [BitVec.getLsbD_sshiftRight, BitVec.getLsbD_ushiftRight, show (BitVec.ofNat 32 16).toNat = 16 from rfl, if_pos (by omega)]
  have : ¬ 32 ≤ k := by omega
  simp [this]
theorem has_32767 {k : Nat} (hk : k < 32) : hasB 32767 k = decide (k < 15) := by revert k; decide
theorem ushr_eq (x : Int32) : px_ushr x 16 &&& 32767 = (x >>> ((16 : Int32) &&& 31)) &&& 32767 := by
  apply hasB_ext
  intro k hk
  rw [hasB_and hk, hasB_and hk, has_32767 hk]
  by_cases h : k < 15
  · rw [ushr_has x (by omega)]
  · rw [decide_eq_false h, Bool.and_false, Bool.and_false]
def sd_n (x : Int32) : Int32 := (x * 1103515245) + 12345
def sd_v (x : Int32) : Int32 := (x >>> ((16 : Int32) &&& 31)) &&& 32767
theorem sd_v_lt (x : Int32) : zB (sd_v x) 32768 := by
  unfold sd_v
  rw [Int32.and_comm]
  exact zB_and (by decide) ⟨32767, by decide, rfl⟩
/-- what is drawn, of n -/
def sd_d (x : Int32) (n : Nat) : Nat := (sd_v x).toNatClampNeg % n
theorem sd_rem (x : Int32) {n : Nat} (h0 : 0 < n) (hn : n < 2147483648) : px_rem (sd_v x) (Int32.ofNat n) = some (Int32.ofNat (sd_d x n)) := by
  obtain ⟨a, ha, e⟩ := sd_v_lt x
  unfold sd_d
  rw [e, zi_rem (by omega) hn h0, zi_nat (by omega)]
theorem xf12_0 : sh_rf 51 0 = 3 := by decide +kernel
theorem xs_draw {s : hp_I} {n : Nat} (h0 : 0 < n) (hn : n < 2147483648) : fn_Season_draw 51 (Int32.ofNat n) s = some (Int32.ofNat (sd_d (sd_n (s 51 1)) n), hp_s s 51 1 (sd_n (s 51 1))) := by
  unfold fn_Season_draw
  rw [e_let, e_jn, if_neg (show ¬ Int32.ofNat n ≤ 0 from zl_nle (b := 0) h0 hn), hp_s_i, upd_i, ushr_eq]
  rw [show ((((s 51 1 * 1103515245 + 12345) >>> ((16 : Int32) &&& 31)) &&& 32767)) = sd_v (sd_n (s 51 1)) from rfl, sd_rem _ h0 hn, e_bd]
  rfl
theorem ms_draw {s : hp_I} {n : Nat} (h0 : 0 < n) (hn : n < 2147483648) : fn_M_draw 52 (Int32.ofNat n) s = some (Int32.ofNat (sd_d (sd_n (s 52 44)) n), hp_s s 52 44 (sd_n (s 52 44))) := by
  unfold fn_M_draw
  rw [e_let, hp_s_i, upd_i]
  rw [show ((((s 52 44 * 1103515245 + 12345) >>> ((16 : Int32) &&& 31)) &&& 32767)) = sd_v (sd_n (s 52 44)) from rfl, sd_rem _ h0 hn, e_bd]
  rfl
theorem sd_lt (x : Int32) {n : Nat} (h0 : 0 < n) : sd_d x n < n := Nat.mod_lt _ h0
/-- one room beside another -/
def sp_hide (H : ab_H) (k t r : Nat) (ρ : ab_R) : ab_R := if hasB (sp_bes H ρ (ρ (k + t))) r = true then upd ρ (k + t) (Int32.ofNat r) else ρ
theorem rok_hide {H : ab_H} {ρ : ab_R} {t r : Nat} (ok : HOK H) (ro : ROK H ρ) (ht : t < hS H) (hr : r < hR H) : ROK H (sp_hide H 5 t r ρ) := by
  unfold sp_hide
  split
  · have h8 := ok.2.2.1
    obtain ⟨r1, r2, r3, r4, r5⟩ := ro
    refine ⟨fun s hs => ⟨?_, ?_⟩, fun c hc => ?_, ?_, ?_, ?_⟩
    · by_cases e : s = t
      · rw [e, upd_i]; exact ⟨r, hr, rfl⟩
      · rw [upd_n (by omega)]; exact (r1 s hs).1
    · rw [upd_n (by omega)]; exact (r1 s hs).2
    · rw [upd_n (by omega)]; exact r2 c hc
    · rw [upd_n (by omega)]; exact r3
    · rw [upd_n (by omega)]; exact r4
    · rw [upd_n (by omega), upd_n (by omega)]; exact r5
  · exact ro
theorem rok_call {H : ab_H} {ρ : ab_R} {t r : Nat} (ok : HOK H) (ro : ROK H ρ) (ht : t < hC H) (hr : r < hR H) : ROK H (sp_hide H 37 t r ρ) := by
  unfold sp_hide
  split
  · have h8 := ok.2.2.1
    have h5 := ok.2.2.2.1
    obtain ⟨r1, r2, r3, r4, r5⟩ := ro
    refine ⟨fun s hs => ⟨?_, ?_⟩, fun c hc => ?_, ?_, ?_, ?_⟩
    · rw [upd_n (by omega)]; exact (r1 s hs).1
    · rw [upd_n (by omega)]; exact (r1 s hs).2
    · by_cases e : c = t
      · rw [e, upd_i]; exact ⟨r, hr, rfl⟩
      · rw [upd_n (by omega)]; exact r2 c hc
    · rw [upd_n (by omega)]; exact r3
    · rw [upd_n (by omega)]; exact r4
    · rw [upd_n (by omega), upd_n (by omega)]; exact r5
  · exact ro
theorem bit_if {ρ : Type} {b : Int32} {k : Nat} {x y : ρ} : (if (b >>> (Int32.ofNat k &&& 31)) &&& 1 = 0 then x else y) = if hasB b k = true then y else x := by
  rw [v_bit, bI_if]
theorem upd_same {ρ : ab_R} {k : Nat} {v : Int32} (h : ρ k = v) : upd ρ k v = ρ := by
  funext j
  by_cases e : j = k
  · rw [e, upd_i, h]
  · rw [upd_n e]
section SEA
variable {σ s : hp_I} {A : ab_A} {H : ab_H} {ρ : ab_R} {o r c : Nat}
theorem xs_hide (so : SO o r c) (hx : HX s H) (rx : RX s r H ρ) (ok : HOK H) {t q : Nat} (ht : t < hS H) : ∃ v s', fn_State_hideScheme o (Int32.ofNat t) (Int32.ofNat q) s = some (v, s') ∧ v = bI (hasB (ρ 1) t && hasB (sp_bes H ρ (ρ (5 + t))) q) ∧ RX s' r H (if hasB (ρ 1) t = true then sp_hide H 5 t q ρ else ρ) ∧ Fc [r] s s' := by
  unfold fn_State_hideScheme
  have h8 := ok.2.2.1
  rw [xs_lives so rx, e_bd, e_jn, bI_if, xs_roomOf so rx ok t ht, e_bd, xs_besides so hx rx ok, e_bd, bit_if, so.2.2.1, show px_ast s r (5 + Int32.ofNat t) (Int32.ofNat q) = _ from rx_w (k := 5) so (by omega), e_bd, e_z0, e_z1]
  unfold sp_hide
  by_cases h1 : hasB (ρ 1) t = true
  · by_cases h2 : hasB (sp_bes H ρ (ρ (5 + t))) q = true
    · rw [if_pos h1, if_pos h2, if_pos h1, if_pos h2]
      exact ⟨1, _, rfl, by rw [h1, h2]; rfl, rx.put, Fc.put (by simp)⟩
    · rw [if_pos h1, if_neg h2, if_pos h1, if_neg h2]
      exact ⟨0, _, rfl, by rw [Bool.not_eq_true] at h2; rw [h2, Bool.and_false]; rfl, rx, Fc.refl⟩
  · rw [if_neg h1, if_neg h1]
    exact ⟨0, _, rfl, by rw [Bool.not_eq_true] at h1; rw [h1, Bool.false_and]; rfl, rx, Fc.refl⟩
theorem xs_call (so : SO o r c) (hx : HX s H) (rx : RX s r H ρ) (ok : HOK H) {t q : Nat} (ht : t < hC H) : ∃ v s', fn_State_callCat o (Int32.ofNat t) (Int32.ofNat q) s = some (v, s') ∧ v = bI (hasB (sp_bes H ρ (ρ (37 + t))) q) ∧ RX s' r H (sp_hide H 37 t q ρ) ∧ Fc [r] s s' := by
  unfold fn_State_callCat
  have h8 := ok.2.2.2.1
  rw [xs_catRoom so rx ok t ht, e_bd, xs_besides so hx rx ok, e_bd, bit_if, so.2.2.1, show px_ast s r (37 + Int32.ofNat t) (Int32.ofNat q) = _ from rx_w (k := 37) so (by omega), e_bd, e_z0, e_z1]
  unfold sp_hide
  by_cases h2 : hasB (sp_bes H ρ (ρ (37 + t))) q = true
  · rw [if_pos h2, if_pos h2]
    exact ⟨1, _, rfl, by rw [h2]; rfl, rx.put, Fc.put (by simp)⟩
  · rw [if_neg h2, if_neg h2]
    exact ⟨0, _, rfl, by rw [Bool.not_eq_true] at h2; rw [h2]; rfl, rx, Fc.refl⟩
/-- the model's way: no move where it is already; a room is not beside itself -/
theorem bes_self (ok : HOK H) {x : Nat} (hx : x < hR H) : hasB (sp_bes H ρ (Int32.ofNat x)) x = false := by
  have hR8 := ok.1
  refine zF_inv _ (fun a => hasB a x = false) (hW H) (fun i a hi h => ?_) (hW H) 0 0 (by omega) (hasB_zero (by omega))
  obtain ⟨⟨p, hp, ep⟩, ⟨q, hq, eq⟩, hne⟩ := ok.2.2.2.2.2.1 i hi
  split
  · exact h
  · split
    · rename_i h1
      rw [eq, ← bitI, hasB_or (by omega), h, hasB_bit (by omega) (by omega), Bool.false_or, decide_eq_false]
      intro e
      exact hne (by rw [h1, eq, e])
    · split
      · rename_i h1
        rw [ep, ← bitI, hasB_or (by omega), h, hasB_bit (by omega) (by omega), Bool.false_or, decide_eq_false]
        intro e
        exact hne (by rw [h1, ep, e])
      · exact h
theorem ms_goes {m : Nat} (hm : HM s H) (rm : RM s m H ρ) (ok : HOK H) {k b t q : Nat} (hk : k = b + 5) (h5 : 5 ≤ k) (hv : vk H (k + t)) (hq : q < hR H) : ∃ s', fn_M_goesTo 52 m (Int32.ofNat b + Int32.ofNat t) (Int32.ofNat q) s = some (bI (hasB (sp_bes H ρ (ρ (k + t))) q), s') ∧ RM s' m H (sp_hide H k t q ρ) ∧ Fc [m] s s' := by
  unfold fn_M_goesTo fn_M_becomes
  have hl := vk_lt ok hv
  have hR8 := ok.1
  have e1 : px_ald s m (Int32.ofNat b + Int32.ofNat t) = some (ρ (k + t)) := by
    rw [zi_add, zi_ald (by rw [rm.1]; omega) (by omega)]
    have := rm.2 (k + t) hv
    rw [mp_hi (by omega), show k + t - 5 = b + t by omega] at this
    rw [this]
  have e2 : px_ast s m (Int32.ofNat b + Int32.ofNat t) (Int32.ofNat q) = some (hp_s s m (b + t) (Int32.ofNat q)) := rm_w rm (by omega)
  rw [e1, e_bd, ms_beside hm rm ok, e_bd, ms_has, e_bd, e_jn, e_jn, bI_if, e_bd, e2, e_bd]
  unfold sp_hide
  by_cases h2 : hasB (sp_bes H ρ (ρ (k + t))) q = true
  · have hne : ¬ ρ (k + t) = Int32.ofNat q := by
      intro e
      rw [e, bes_self ok hq] at h2
      cases h2
    rw [if_pos h2, if_pos h2, if_neg hne, e_z1, e_b2, if_neg (show ¬ (1 : Int32) = 0 from by decide), h2]
    simp only [e_z1]
    exact ⟨_, rfl, rm.putS ok (by omega) h5 hk, Fc.put (by simp)⟩
  · rw [if_neg h2, if_neg h2]
    rw [Bool.not_eq_true] at h2
    rw [h2]
    simp only [e_z0]
    exact ⟨_, rfl, rm, Fc.refl⟩
end SEA

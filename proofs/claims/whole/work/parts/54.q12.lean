/-! SPAN -/
abbrev sp3 : Type := Int32 × Int32 × Int32
def spn_s (A : ab_A) (x q : Int32) (n k : Nat) (i : Nat) (a : sp3) : sp3 := (px_min a.1 (bc (sp_sea A n q (x + Int32.ofNat i) 1)), px_max a.2.1 (bc (sp_sea A n q (x + Int32.ofNat i) 1)), a.2.2 + bI (hasB (sp_sea A n q (x + Int32.ofNat i) 1) k))
def sp_span (A : ab_A) (x q : Int32) (m n k : Nat) : sp3 := zF (spn_s A x q n k) m 0 (8, 0, 0)
def qv_span (a : sp3) (w : Int32) : Int32 := if w = 0 then a.1 else if w = 1 then a.2.1 else a.2.2
theorem bc_lt {x : Int32} (h : zB x 256) : zB (bc x) 9 := by
  obtain ⟨k, hk, rfl⟩ := h
  exact bc_lt0 k hk
theorem min8 {n : Int32} (h : zB n 9) : px_min 8 n = n := by
  obtain ⟨k, hk, rfl⟩ := h
  revert k
  decide
theorem min_less (x n : Int32) : (if x < n then x else n) = px_min x n := by
  unfold px_min
  by_cases h : x < n
  · rw [if_pos h, if_neg (fun h2 => Int32.lt_irrefl (Int32.lt_trans h h2))]
  · rw [if_neg h]
    by_cases h2 : n < x
    · rw [if_pos h2]
    · rw [if_neg h2, Int32.le_antisymm (Int32.not_lt.mp h) (Int32.not_lt.mp h2)]
theorem max_more (x n : Int32) : (if n < x then x else n) = px_max x n := by
  unfold px_max
  by_cases h : n < x
  · rw [if_pos h, if_neg (fun h2 => Int32.lt_irrefl (Int32.lt_trans h h2))]
  · rw [if_neg h]
    by_cases h2 : x < n
    · rw [if_pos h2]
    · rw [if_neg h2, Int32.le_antisymm (Int32.not_lt.mp h2) (Int32.not_lt.mp h)]
theorem in_pred {p : Int32} {n : Nat} (hn : n < 2147483648) : inB p 0 (Int32.ofNat n - 1) = oneB p n := by
  have h := le_pred (p := p) hn
  rw [Bool.eq_iff_iff, inB_t, oneB_t]
  exact h
theorem nm1 : ∀ y, y < 9 → Int32.ofNat y = -1 → False := by decide
section SPN
variable {σ : hp_I} {A : ab_A}
theorem xq_span (ok : AOK A) (cx : CX σ A) (x m n q w p : Int32) : XQ σ (fn_X_span 0 x m n q w p σ) (qb_i (inB m 1 20) (qb_i (inB n 1 96) (qb_i (inB q 0 16) (qb_i (inB w 0 2) (qb_i (oneB p (hS (aH A))) 0))))) (qv_span (sp_span A x q m.toNatClampNeg n.toNatClampNeg p.toNatClampNeg) w) := by
  unfold fn_X_span
  have hc := cnt_lt ok.1
  refine xg_in fun h1 => xg_in fun h2 => xg_in fun h3 => xg_in fun h4 => ?_
  rw [xf_1, hx_S cx.1, ← in_pred (show hS (aH A) < 2147483648 by omega)]
  refine xg_in fun h5 => ?_
  rw [in_pred (by omega)] at h5
  obtain ⟨⟨m, hm, rfl⟩, -⟩ := zB_in1 (n := 20) (by decide) h1
  obtain ⟨⟨n, hn, rfl⟩, -⟩ := zB_in1 (n := 96) (by decide) h2
  obtain ⟨k, hk, rfl⟩ := oneB_z (by omega) h5
  rw [zi_nat (by omega), zi_nat (by omega), zi_nat (by omega)]
  simp only [e_let]
  refine Exists.elim (zL_R0 (L := fun fu (a : Int32 × Int32 × Int32 × hp_I) i => fn_X_span_L62 0 x (Int32.ofNat m) (Int32.ofNat n) q w (Int32.ofNat k) (fun y24 y25 y26 s27 => px_sw w [((0 : Int32), some (.inr (y24, s27))), ((1 : Int32), some (.inr (y25, s27)))] (some (.inr (y26, s27)))) fu a.1 a.2.1 a.2.2.1 i a.2.2.2) (k := fun (a : Int32 × Int32 × Int32 × hp_I) => px_sw w [((0 : Int32), some (.inr (a.1, a.2.2.2))), ((1 : Int32), some (.inr (a.2.1, a.2.2.2)))] (some (.inr (a.2.2.1, a.2.2.2)))) (N := m) (spn_s A x q n k) (fun i a b => (a.1 = b.1 ∧ a.2.1 = b.2.1 ∧ a.2.2.1 = b.2.2) ∧ Fc SXQ σ a.2.2.2) (by omega) (fun fu a b h => ?_) (fun fu i a b hi h => ?_) (8, 0, 0, σ) (8, 0, 0) ⟨⟨rfl, rfl, rfl⟩, Fc.refl⟩) (fun a hk2 => ?_)
  · try dsimp only
    rw [fn_X_span_L62, if_neg Int32.lt_irrefl]
  · obtain ⟨a1, a2, a3, s⟩ := a
    obtain ⟨⟨b1, b2, b3⟩, hf⟩ := h
    dsimp only at b1 b2 b3 hf ⊢
    have c0 : CX s A := cx.x hf
    obtain ⟨s1, g1, g2⟩ := xs_copy ok c0
    obtain ⟨s2, k1, k2⟩ := xs_play ok c0 (x + Int32.ofNat i) q (n := n) (by omega) g2
    have kr : RX s2 36 (aH A) (sp_sea A n q (x + Int32.ofNat i)) := k2.1.2.1
    have ko : ROK (aH A) (sp_sea A n q (x + Int32.ofNat i)) := k2.1.2.2
    refine ⟨(px_min a1 (bc (sp_sea A n q (x + Int32.ofNat i) 1)), px_max a2 (bc (sp_sea A n q (x + Int32.ofNat i) 1)), a3 + bI (hasB (sp_sea A n q (x + Int32.ofNat i) 1) k), s2), ?_, ⟨?_, ?_, ?_⟩, hf.trans k2.1.1⟩
    · rw [fn_X_span_L62, if_pos (zl_lt hi (by omega)), xf_6, xf_7, xf_12, g1, e_bd, k1, e_bd, xs_living so_35 kr, e_bd, xs_bc (live_256 ok.1 ko), e_bd, e_let, e_let, e_let, xs_lives so_35 kr, e_bd, e_jn, bI_if]
      simp only [e_let, zi_succ]
      cases hasB (sp_sea A n q (x + Int32.ofNat i) 1) k <;> rfl
    · show _ = px_min b.1 _; rw [b1]
    · show _ = px_max b.2.1 _; rw [b2]
    · show _ = b.2.2 + _; rw [b3]
  · obtain ⟨k1, ⟨k2, k3, k4⟩, k5⟩ := hk2
    obtain ⟨a1, a2, a3, s⟩ := a
    dsimp only at k1 k2 k3 k4 k5
    refine xq_f (k1.trans ?_) k5
    rw [e_swc, e_swc, e_swn, k2, k3, k4]
    exact ite_g (rX s) (fun _ => rfl) (fun _ => ite_g (rX s) (fun _ => rfl) (fun _ => rfl))
theorem mq_span (ok : AOK A) (cm : CM σ A) (x m n q w p : Int32) : MQs σ (fn_M_span 52 x m n q w p σ) (qb_i (inB m 1 20) (qb_i (inB n 1 96) (qb_i (inB q 0 16) (qb_i (inB w 0 2) (qb_i (oneB p (hS (aH A))) 0))))) (qv_span (sp_span A x q m.toNatClampNeg n.toNatClampNeg p.toNatClampNeg) w) 1 := by
  unfold fn_M_span
  simp only [e_let, e_jn]
  have cm0 := cm_0 ok cm
  have hc := cnt_lt ok.1
  rw [ms_in', e_bd]
  refine mor mb_b1 fun h1 => ?_
  rw [ms_isSeason, e_bd, ← qb_and]
  refine mor mb_b1 fun h2 => ?_
  rw [ms_in', e_bd]
  refine mor mb_b1 fun h4 => ?_
  rw [mt_S cm.1 ok.1, e_bd]
  refine mor mb_b1 fun h5 => ?_
  refine mb_b0 ?_
  rw [Bool.and_eq_true] at h2
  obtain ⟨⟨m, hm, rfl⟩, hm0⟩ := zB_in1 (n := 20) (by decide) h1
  obtain ⟨⟨n, hn, rfl⟩, -⟩ := zB_in1 (n := 96) (by decide) h2.1
  obtain ⟨k, hk, rfl⟩ := oneB_z (by omega) h5
  have hm1 : m ≠ 0 := fun e => hm0 (by rw [e]; rfl)
  rw [zi_nat (by omega), zi_nat (by omega), zi_nat (by omega)]
  refine Exists.elim (zL_R0 (L := fun fu (a : Int32 × Int32 × Int32 × hp_I) i => fn_M_span_L72 52 x (Int32.ofNat m) (Int32.ofNat n) q w (Int32.ofNat k) (fun y24 y25 y26 s27 => if w = 0 then some (y24, s27) else if w = (1 : Int32) then some (y25, s27) else some (y26, s27)) fu a.1 a.2.1 a.2.2.1 i a.2.2.2) (k := fun (a : Int32 × Int32 × Int32 × hp_I) => if w = 0 then some (a.1, a.2.2.2) else if w = (1 : Int32) then some (a.2.1, a.2.2.2) else some (a.2.2.1, a.2.2.2)) (N := m) (spn_s A x q n k) (fun i a b => ((if i = 0 then a.1 = -1 ∧ b.1 = 8 else a.1 = b.1 ∧ zB a.1 9) ∧ a.2.1 = b.2.1 ∧ a.2.2.1 = b.2.2) ∧ FM (hp_s σ 52 0 0) a.2.2.2 ∧ a.2.2.2 52 0 = hp_s σ 52 0 0 52 0 ∧ a.2.2.2 54 = hp_s σ 52 0 0 54) (by omega) (fun fu a b h => ?_) (fun fu i a b hi h => ?_) (-1, 0, 0, hp_s σ 52 0 0) (8, 0, 0) ⟨⟨⟨rfl, rfl⟩, rfl, rfl⟩, FM.refl, rfl, rfl⟩) (fun a hk2 => ?_)
  · try dsimp only
    rw [fn_M_span_L72, if_neg Int32.lt_irrefl]
  · obtain ⟨a1, a2, a3, s⟩ := a
    obtain ⟨⟨b1, b2, b3⟩, hf⟩ := h
    dsimp only at b1 b2 b3 hf ⊢
    obtain ⟨s2, k1, k2⟩ := ms_season ok cm0 (x + Int32.ofNat i) q (n := n) (by omega) hf
    have kr : RM s2 573 (aH A) (sp_sea A n q (x + Int32.ofNat i)) := k2.1.2.2.1
    have ko : ROK (aH A) (sp_sea A n q (x + Int32.ofNat i)) := k2.1.2.2.2
    have hb := bc_lt (live_256 ok.1 ko)
    refine ⟨(px_min b.1 (bc (sp_sea A n q (x + Int32.ofNat i) 1)), px_max a2 (bc (sp_sea A n q (x + Int32.ofNat i) 1)), a3 + bI (hasB (sp_sea A n q (x + Int32.ofNat i) 1) k), s2), ?_, ⟨?_, ?_, ?_⟩, k2.1.1, k2.1.2.1⟩
    · rw [fn_M_span_L72, if_pos (zl_lt hi (by omega)), k1, e_bd, sm_26, rm_1 kr, e_bd, ms_ones, e_bd, e_let, e_jn]
      simp only [e_let, zi_succ, ms_more2, ms_less, e_bd, v_bit, min_less, max_more]
      by_cases h0 : i = 0
      · rw [if_pos h0] at b1
        rw [b1.1, b1.2, if_pos rfl, min8 hb]
      · rw [if_neg h0] at b1
        obtain ⟨b11, y, hy, b12⟩ := b1
        rw [if_neg (show ¬ a1 = -1 from fun e => by rw [b12] at e; exact nm1 y hy e), b11]
    · rw [if_neg (by omega)]
      refine ⟨rfl, ?_⟩
      dsimp only
      by_cases h0 : i = 0
      · rw [if_pos h0] at b1
        rw [b1.2, min8 hb]
        exact hb
      · rw [if_neg h0] at b1
        rw [← b1.1]
        unfold px_min
        split
        · exact hb
        · exact b1.2
    · show _ = px_max b.2.1 _; rw [b2]
    · show _ = b.2.2 + _; rw [b3]
  · obtain ⟨k1, ⟨k2, k3, k4⟩, k5, k6, k7⟩ := hk2
    obtain ⟨a1, a2, a3, s⟩ := a
    dsimp only at k1 k2 k3 k4 k5 k6 k7
    rw [if_neg hm1] at k2
    refine mq_v (k1.trans ?_) k5 (k6.trans s0_0) (k7.trans (hp_s_n (by decide)))
    rw [k2.1, k3, k4]
    exact ite_g (rM s) (fun _ => rfl) (fun _ => ite_g (rM s) (fun _ => rfl) (fun _ => rfl))
end SPN

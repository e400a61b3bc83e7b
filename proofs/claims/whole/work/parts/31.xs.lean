/-! THE CLASS'S STATE: what its methods give -/
section XS
variable {σ : hp_I} {H : ab_H} {ρ : Nat → Int32} {o r c : Nat}
theorem hx_R (h : HX σ H) : σ 3 0 = Int32.ofNat (hR H) := h.1.1
theorem hx_W (h : HX σ H) : σ 3 1 = Int32.ofNat (hW H) := h.1.2.1
theorem hx_S (h : HX σ H) : σ 3 2 = Int32.ofNat (hS H) := h.1.2.2.1
theorem hx_C (h : HX σ H) : σ 3 3 = Int32.ofNat (hC H) := h.1.2.2.2
theorem sh_l4 : sh_ln 4 = 8 := by decide +kernel
theorem sh_l5 : sh_ln 5 = 12 := by decide +kernel
theorem sh_l6 : sh_ln 6 = 12 := by decide +kernel
theorem sh_l7 : sh_ln 7 = 8 := by decide +kernel
theorem sh_l8 : sh_ln 8 = 8 := by decide +kernel
theorem sh_l9 : sh_ln 9 = 8 := by decide +kernel
theorem sh_l10 : sh_ln 10 = 5 := by decide +kernel
theorem sh_l11 : sh_ln 11 = 5 := by decide +kernel
theorem sh_p4 : sh_rf 3 4 = 4 := by decide +kernel
theorem sh_p5 : sh_rf 3 5 = 5 := by decide +kernel
theorem sh_p6 : sh_rf 3 6 = 6 := by decide +kernel
theorem sh_p7 : sh_rf 3 7 = 7 := by decide +kernel
theorem sh_p8 : sh_rf 3 8 = 8 := by decide +kernel
theorem sh_p9 : sh_rf 3 9 = 9 := by decide +kernel
theorem sh_p10 : sh_rf 3 10 = 10 := by decide +kernel
theorem sh_p11 : sh_rf 3 11 = 11 := by decide +kernel
theorem hx_hide (h : HX σ H) (ok : HOK H) : ∀ q, q < hR H → px_ald σ 4 (Int32.ofNat q) = some (hV H 0 q) := fun q hq => by
  have := ok.1; rw [zi_ald (by rw [sh_l4]; omega) (by omega), h.2.1 q hq]
theorem hx_from (h : HX σ H) (ok : HOK H) : ∀ q, q < hW H → px_ald σ 5 (Int32.ofNat q) = some (hV H 1 q) := fun q hq => by
  have := ok.2.1; rw [zi_ald (by rw [sh_l5]; omega) (by omega), (h.2.2.1 q hq).1]
theorem hx_to (h : HX σ H) (ok : HOK H) : ∀ q, q < hW H → px_ald σ 6 (Int32.ofNat q) = some (hV H 2 q) := fun q hq => by
  have := ok.2.1; rw [zi_ald (by rw [sh_l6]; omega) (by omega), (h.2.2.1 q hq).2]
theorem hx_fr (h : HX σ H) (ok : HOK H) : ∀ q, q < hS H → px_ald σ 7 (Int32.ofNat q) = some (hV H 3 q) := fun q hq => by
  have := ok.2.2.1; rw [zi_ald (by rw [sh_l7]; omega) (by omega), (h.2.2.2.1 q hq).1]
theorem hx_fs (h : HX σ H) (ok : HOK H) : ∀ q, q < hS H → px_ald σ 8 (Int32.ofNat q) = some (hV H 4 q) := fun q hq => by
  have := ok.2.2.1; rw [zi_ald (by rw [sh_l8]; omega) (by omega), (h.2.2.2.1 q hq).2.1]
theorem hx_gr (h : HX σ H) (ok : HOK H) : ∀ q, q < hS H → px_ald σ 9 (Int32.ofNat q) = some (hV H 5 q) := fun q hq => by
  have := ok.2.2.1; rw [zi_ald (by rw [sh_l9]; omega) (by omega), (h.2.2.2.1 q hq).2.2]
theorem hx_fc (h : HX σ H) (ok : HOK H) : ∀ q, q < hC H → px_ald σ 10 (Int32.ofNat q) = some (hV H 6 q) := fun q hq => by
  have := ok.2.2.2.1; rw [zi_ald (by rw [sh_l10]; omega) (by omega), (h.2.2.2.2 q hq).1]
theorem hx_ns (h : HX σ H) (ok : HOK H) : ∀ q, q < hC H → px_ald σ 11 (Int32.ofNat q) = some (hV H 7 q) := fun q hq => by
  have := ok.2.2.2.1; rw [zi_ald (by rw [sh_l11]; omega) (by omega), (h.2.2.2.2 q hq).2]
theorem rx_k (h : RX σ r H ρ) {k : Nat} (hk : vk H k) (hl : k < 47) : px_ald σ r (Int32.ofNat k) = some (ρ k) := by
  rw [zi_ald (by rw [h.1]; exact hl) (by omega), h.2 k hk]
theorem rx_0 (h : RX σ r H ρ) : px_ald σ r 0 = some (ρ 0) := rx_k h (k := 0) (Or.inl (by decide)) (by decide)
theorem rx_1 (h : RX σ r H ρ) : px_ald σ r 1 = some (ρ 1) := rx_k h (k := 1) (Or.inl (by decide)) (by decide)
theorem rx_2 (h : RX σ r H ρ) : px_ald σ r 2 = some (ρ 2) := rx_k h (k := 2) (Or.inl (by decide)) (by decide)
theorem rx_3 (h : RX σ r H ρ) : px_ald σ r 3 = some (ρ 3) := rx_k h (k := 3) (Or.inl (by decide)) (by decide)
theorem rx_4 (h : RX σ r H ρ) : px_ald σ r 4 = some (ρ 4) := rx_k h (k := 4) (Or.inl (by decide)) (by decide)
theorem rx_5 (h : RX σ r H ρ) (ok : HOK H) : ∀ q, q < hS H → px_ald σ r (5 + Int32.ofNat q) = some (ρ (5 + q)) := fun q hq => by
  have := ok.2.2.1; exact (congrArg _ (zi_add 5 q)).trans (rx_k h (Or.inr (Or.inl (by omega))) (by omega))
theorem rx_13 (h : RX σ r H ρ) (ok : HOK H) : ∀ q, q < hS H → px_ald σ r (13 + Int32.ofNat q) = some (ρ (13 + q)) := fun q hq => by
  have := ok.2.2.1; exact (congrArg _ (zi_add 13 q)).trans (rx_k h (Or.inr (Or.inr (Or.inl (by omega)))) (by omega))
theorem rx_21 (h : RX σ r H ρ) (ok : HOK H) : ∀ q, q < hS H → px_ald σ r (21 + Int32.ofNat q) = some (ρ (21 + q)) := fun q hq => by
  have := ok.2.2.1; exact (congrArg _ (zi_add 21 q)).trans (rx_k h (Or.inr (Or.inr (Or.inr (Or.inl (by omega))))) (by omega))
theorem rx_29 (h : RX σ r H ρ) (ok : HOK H) : ∀ q, q < hS H → px_ald σ r (29 + Int32.ofNat q) = some (ρ (29 + q)) := fun q hq => by
  have := ok.2.2.1; exact (congrArg _ (zi_add 29 q)).trans (rx_k h (Or.inr (Or.inr (Or.inr (Or.inr (Or.inl (by omega)))))) (by omega))
theorem rx_37 (h : RX σ r H ρ) (ok : HOK H) : ∀ q, q < hC H → px_ald σ r (37 + Int32.ofNat q) = some (ρ (37 + q)) := fun q hq => by
  have := ok.2.2.2.1; exact (congrArg _ (zi_add 37 q)).trans (rx_k h (Or.inr (Or.inr (Or.inr (Or.inr (Or.inr (Or.inl (by omega))))))) (by omega))
theorem rx_42 (h : RX σ r H ρ) (ok : HOK H) : ∀ q, q < hC H → px_ald σ r (42 + Int32.ofNat q) = some (ρ (42 + q)) := fun q hq => by
  have := ok.2.2.2.1; exact (congrArg _ (zi_add 42 q)).trans (rx_k h (Or.inr (Or.inr (Or.inr (Or.inr (Or.inr (Or.inr (by omega))))))) (by omega))
theorem xs_lives (so : SO o r c) (rx : RX σ r H ρ) (q : Nat) : fn_State_lives o (Int32.ofNat q) σ = some (bI (hasB (ρ 1) q)) := by
  unfold fn_State_lives
  simp only [so.2.2.1, rx_1 rx, Option.bind_some, px_jn, px_z, hasB, bI]
  by_cases h : (ρ 1 >>> (Int32.ofNat q &&& 31)) &&& 1 = 1 <;> simp [h]
theorem xs_night (so : SO o r c) (rx : RX σ r H ρ) : fn_State_night o σ = some (ρ 0) := by unfold fn_State_night; simp only [so.2.2.1, rx_0 rx, Option.bind_some]
theorem xs_living (so : SO o r c) (rx : RX σ r H ρ) : fn_State_living o σ = some (ρ 1) := by unfold fn_State_living; simp only [so.2.2.1, rx_1 rx, Option.bind_some]
theorem xs_onMat (so : SO o r c) (rx : RX σ r H ρ) : fn_State_onMat o σ = some (ρ 2) := by unfold fn_State_onMat; simp only [so.2.2.1, rx_2 rx, Option.bind_some]
theorem xs_joined (so : SO o r c) (rx : RX σ r H ρ) : fn_State_joined o σ = some (ρ 3) := by unfold fn_State_joined; simp only [so.2.2.1, rx_3 rx, Option.bind_some]
theorem xs_shutWays (so : SO o r c) (rx : RX σ r H ρ) : fn_State_shutWays o σ = some (ρ 4) := by unfold fn_State_shutWays; simp only [so.2.2.1, rx_4 rx, Option.bind_some]
theorem xs_roomOf (so : SO o r c) (rx : RX σ r H ρ) (ok : HOK H) : ∀ q, q < hS H → fn_State_roomOf o (Int32.ofNat q) σ = some (ρ (5 + q)) := fun q hq => by unfold fn_State_roomOf; simp only [so.2.2.1, rx_5 rx ok q hq, Option.bind_some]
theorem xs_size (so : SO o r c) (rx : RX σ r H ρ) (ok : HOK H) : ∀ q, q < hS H → fn_State_size o (Int32.ofNat q) σ = some (ρ (13 + q)) := fun q hq => by unfold fn_State_size; simp only [so.2.2.1, rx_13 rx ok q hq, Option.bind_some]
theorem xs_when (so : SO o r c) (rx : RX σ r H ρ) (ok : HOK H) : ∀ q, q < hS H → fn_State_takenWhen o (Int32.ofNat q) σ = some (ρ (21 + q)) := fun q hq => by unfold fn_State_takenWhen; simp only [so.2.2.1, rx_21 rx ok q hq, Option.bind_some]
theorem xs_by (so : SO o r c) (rx : RX σ r H ρ) (ok : HOK H) : ∀ q, q < hS H → fn_State_takenBy o (Int32.ofNat q) σ = some (ρ (29 + q)) := fun q hq => by unfold fn_State_takenBy; simp only [so.2.2.1, rx_29 rx ok q hq, Option.bind_some]
theorem xs_catRoom (so : SO o r c) (rx : RX σ r H ρ) (ok : HOK H) : ∀ q, q < hC H → fn_State_roomOfCat o (Int32.ofNat q) σ = some (ρ (37 + q)) := fun q hq => by unfold fn_State_roomOfCat; simp only [so.2.2.1, rx_37 rx ok q hq, Option.bind_some]
theorem xs_took (so : SO o r c) (rx : RX σ r H ρ) (ok : HOK H) : ∀ q, q < hC H → fn_State_took o (Int32.ofNat q) σ = some (ρ (42 + q)) := fun q hq => by unfold fn_State_took; simp only [so.2.2.1, rx_42 rx ok q hq, Option.bind_some]
/-- the rooms beside one -/
def sp_bes (H : ab_H) (ρ : Nat → Int32) (v : Int32) : Int32 := zF (fun w acc => if hasB (ρ 4) w = true then acc else if hV H 1 w = v then acc ||| ((1 : Int32) <<< (hV H 2 w &&& 31)) else if hV H 2 w = v then acc ||| ((1 : Int32) <<< (hV H 1 w &&& 31)) else acc) (hW H) 0 0
theorem xs_besides (so : SO o r c) (hx : HX σ H) (rx : RX σ r H ρ) (ok : HOK H) (v : Int32) : fn_State_besides o v σ = some (sp_bes H ρ v) := by
  unfold fn_State_besides
  simp only [px_let]
  have hw := ok.2.1
  refine zL_0 (L := fun fu a i => fn_State_besides_L4 o v σ _ fu a i) _ (by omega) (fun fu a => ?_) (fun fu i a hi => ?_) 0
  · show fn_State_besides_L4 _ _ _ _ _ _ _ = _
    rw [fn_State_besides_L4]
    simp only [so.1, hx_W hx, Int32.lt_irrefl, if_false]
  · show fn_State_besides_L4 _ _ _ _ _ _ _ = _
    rw [fn_State_besides_L4]
    simp only [so.1, so.2.2.1, hx_W hx, zi_lt (show i < 2147483648 by omega) (show hW H < 2147483648 by omega), hi, if_true, rx_4 rx, Option.bind_some, px_jn, px_let, zi_succ, sh_p5, sh_p6, hx_from hx ok i hi, hx_to hx ok i hi, and1_0, hasB, decide_eq_true_eq, ite_not]
    split
    · rfl
    · split
      · rfl
      · split <;> rfl
end XS

/-! THE CLASS'S STATE, its loops -/
section XS2
variable {σ : hp_I} {H : ab_H} {ρ : Nat → Int32} {o r c : Nat}
theorem hx_hv (h : HX σ H) (ok : HOK H) : ∀ v, zB v (hR H) → px_ald σ 4 v = some (hV H 0 v.toNatClampNeg) := fun v hv => by
  have h0 := ok.1
  obtain ⟨h1, h2⟩ := zB_nat (by omega) hv
  rw [h2, hx_hide h ok _ h1, zi_nat (by omega)]
theorem xs_livingIn (so : SO o r c) (hx : HX σ H) (rx : RX σ r H ρ) (ok : HOK H) (v : Int32) : fn_State_livingIn o v σ = some (sp_liv H ρ v) := by
  unfold fn_State_livingIn
  simp only [px_let]
  have hn := ok.2.2.1
  refine zL_0 (L := fun fu a i => fn_State_livingIn_L4 o v σ _ fu a i) (N := hS H) _ (by omega) (fun fu a => ?_) (fun fu i a hi => ?_) 0
  · try dsimp only
    rw [fn_State_livingIn_L4]
    simp only [so.1, hx_S hx, Int32.lt_irrefl, if_false]
  · try dsimp only
    rw [fn_State_livingIn_L4]
    simp only [so.1, so.2.1, so.2.2.1, so.2.2.2.1, Option.bind_some, px_jn, px_let, zi_succ, if_true, if_false, and1_0, bI_0, sh_p4, sh_p5, sh_p6, sh_p9, sh_p11, hx_S hx, zi_lt (show i < 2147483648 by omega) (show hS H < 2147483648 by omega), hi, xs_lives so rx i, xs_roomOf so rx ok i hi, bitI]
    cases hasB (ρ 1) i
    · rfl
    · simp only [Bool.true_eq_false, if_false, if_true]
      split <;> rfl

theorem xs_catsIn (so : SO o r c) (hx : HX σ H) (rx : RX σ r H ρ) (ok : HOK H) (v : Int32) : fn_State_catsIn o v σ = some (sp_cin H ρ v) := by
  unfold fn_State_catsIn
  simp only [px_let]
  have hn := ok.2.2.2.1
  refine zL_0 (L := fun fu a i => fn_State_catsIn_L4 o v σ _ fu a i) (N := hC H) _ (by omega) (fun fu a => ?_) (fun fu i a hi => ?_) 0
  · try dsimp only
    rw [fn_State_catsIn_L4]
    simp only [so.1, hx_C hx, Int32.lt_irrefl, if_false]
  · try dsimp only
    rw [fn_State_catsIn_L4]
    simp only [so.1, so.2.1, so.2.2.1, so.2.2.2.1, Option.bind_some, px_jn, px_let, zi_succ, if_true, if_false, and1_0, bI_0, sh_p4, sh_p5, sh_p6, sh_p9, sh_p11, hx_C hx, zi_lt (show i < 2147483648 by omega) (show hC H < 2147483648 by omega), hi, xs_catRoom so rx ok i hi, bitI]
    split <;> rfl

theorem xs_sizeOf (so : SO o r c) (hx : HX σ H) (rx : RX σ r H ρ) (ok : HOK H) (v : Int32) : fn_State_sizeOf o v σ = some (sp_szo H ρ v) := by
  unfold fn_State_sizeOf
  simp only [px_let]
  have hn := ok.2.2.1
  refine zL_0 (L := fun fu a i => fn_State_sizeOf_L4 o v σ _ fu a i) (N := hS H) _ (by omega) (fun fu a => ?_) (fun fu i a hi => ?_) 0
  · try dsimp only
    rw [fn_State_sizeOf_L4]
    simp only [so.1, hx_S hx, Int32.lt_irrefl, if_false]
  · try dsimp only
    rw [fn_State_sizeOf_L4]
    simp only [so.1, so.2.1, so.2.2.1, so.2.2.2.1, Option.bind_some, px_jn, px_let, zi_succ, if_true, if_false, and1_0, bI_0, sh_p4, sh_p5, sh_p6, sh_p9, sh_p11, hx_S hx, zi_lt (show i < 2147483648 by omega) (show hS H < 2147483648 by omega), hi, xs_size so rx ok i hi, hasB, decide_eq_true_eq]
    split <;> rfl

theorem xs_ctm (so : SO o r c) (hx : HX σ H) (rx : RX σ r H ρ) (ok : HOK H) : fn_State_catThatTookMost o σ = some (sp_ctm H ρ).1 := by
  unfold fn_State_catThatTookMost
  simp only [px_let]
  have hn := ok.2.2.2.1
  refine zL_0 (L := fun fu (a : Int32 × Int32) i => fn_State_catThatTookMost_L6 o σ (fun y => some y) fu a.1 a.2 i) (k := fun a => some a.1) (N := hC H) _ (by omega) (fun fu a => ?_) (fun fu i a hi => ?_) (-1, 0)
  · try dsimp only
    rw [fn_State_catThatTookMost_L6]
    simp only [so.1, hx_C hx, Int32.lt_irrefl, if_false]
  · try dsimp only
    rw [fn_State_catThatTookMost_L6]
    simp only [so.1, so.2.1, so.2.2.1, so.2.2.2.1, Option.bind_some, px_jn, px_let, zi_succ, if_true, if_false, and1_0, bI_0, sh_p4, sh_p5, sh_p6, sh_p9, sh_p11, hx_C hx, zi_lt (show i < 2147483648 by omega) (show hC H < 2147483648 by omega), hi, xs_took so rx ok i hi]
    split <;> rfl

theorem xs_wouldSee (so : SO o r c) (hx : HX σ H) (ok : HOK H) (q : Nat) (hq : q < hC H) (z v : Int32) (hv : zB v (hR H)) : fn_State_wouldSee o (Int32.ofNat q) z v σ = some (bI (sp_ws H q z v)) := by
  unfold fn_State_wouldSee
  simp only [so.1, sh_p11, sh_p4, hx_ns hx ok q hq, hx_hv hx ok v hv, Option.bind_some, px_jn, sp_ws, bI, decide_eq_true_eq]
  split <;> rfl
theorem xs_seenBy (so : SO o r c) (hx : HX σ H) (rx : RX σ r H ρ) (ok : HOK H) (ro : ROK H ρ) (q : Nat) (hq : q < hC H) : fn_State_seenBy o (Int32.ofNat q) σ = some (sp_see H ρ q) := by
  unfold fn_State_seenBy
  simp only [px_let, xs_catRoom so rx ok q hq, Option.bind_some]
  have hn := ok.2.2.1
  refine zL_0 (L := fun fu a i => fn_State_seenBy_L11 o (Int32.ofNat q) (ρ (37 + q)) σ _ fu a i) (N := hS H) _ (by omega) (fun fu a => ?_) (fun fu i a hi => ?_) 0
  · try dsimp only
    rw [fn_State_seenBy_L11]
    simp only [so.1, hx_S hx, Int32.lt_irrefl, if_false]
  · try dsimp only
    rw [fn_State_seenBy_L11]
    simp only [so.1, so.2.1, so.2.2.1, so.2.2.2.1, Option.bind_some, px_jn, px_let, zi_succ, if_true, if_false, and1_0, bI_0, sh_p4, sh_p5, sh_p6, sh_p9, sh_p11, hx_S hx, zi_lt (show i < 2147483648 by omega) (show hS H < 2147483648 by omega), hi, xs_lives so rx i, xs_roomOf so rx ok i hi, xs_size so rx ok i hi, xs_wouldSee so hx ok q hq _ _ (ro.2.1 q hq), bitI]
    cases hasB (ρ 1) i
    · rfl
    · simp only [Bool.true_eq_false, if_false, if_true]
      split
      · cases sp_ws H q (ρ (13 + i)) (ρ (37 + q)) <;> rfl
      · rfl

theorem xs_hidden (so : SO o r c) (hx : HX σ H) (rx : RX σ r H ρ) (ok : HOK H) (ro : ROK H ρ) (z : Int32) : fn_State_hiddenRooms o z σ = some (sp_hid H ρ z (((1 : Int32) <<< (Int32.ofNat (hR H) &&& 31)) - 1)) := by
  unfold fn_State_hiddenRooms
  simp only [px_let, so.1, hx_R hx]
  have hn := ok.2.2.2.1
  refine zL_0 (L := fun fu a i => fn_State_hiddenRooms_L14 o z σ _ fu a i) (N := hC H) _ (by omega) (fun fu a => ?_) (fun fu i a hi => ?_) _
  · try dsimp only
    rw [fn_State_hiddenRooms_L14]
    simp only [so.1, hx_C hx, Int32.lt_irrefl, if_false]
  · try dsimp only
    rw [fn_State_hiddenRooms_L14]
    simp only [so.1, so.2.1, so.2.2.1, so.2.2.2.1, Option.bind_some, px_jn, px_let, zi_succ, if_true, if_false, and1_0, bI_0, sh_p4, sh_p5, sh_p6, sh_p9, sh_p11, hx_C hx, zi_lt (show i < 2147483648 by omega) (show hC H < 2147483648 by omega), hi, xs_catRoom so rx ok i hi, xs_wouldSee so hx ok i hi _ _ (ro.2.1 i hi)]
    cases sp_ws H i z (ρ (37 + i)) <;> rfl

theorem xs_greatest (so : SO o r c) (hx : HX σ H) (rx : RX σ r H ρ) (ok : HOK H) (b : Int32) : fn_State_greatestOf o b σ = some (oI (sp_gre H ρ b)) := by
  unfold fn_State_greatestOf
  simp only [px_let]
  have hn := ok.2.2.1
  refine (zL_I (L := fun fu a i => fn_State_greatestOf_L4 o b σ (fun y => some y) fu (oI a) i) (k := fun a => some (oI a)) (N := hS H) (sg_st ρ b) (fun _ a => ∀ t, a = some t → t < hS H) (by omega) (fun fu a _ => ?_) (fun fu i a hi ha => ⟨?_, ?_⟩) none (fun t h => by cases h)).1
  · try dsimp only
    rw [fn_State_greatestOf_L4]
    simp only [so.1, hx_S hx, Int32.lt_irrefl, if_false]
  · try dsimp only
    rw [fn_State_greatestOf_L4]
    simp only [so.1, so.2.1, so.2.2.1, so.2.2.2.1, Option.bind_some, px_jn, px_let, zi_succ, if_true, if_false, and1_0, bI_0, sh_p4, sh_p5, sh_p6, sh_p9, sh_p11, hx_S hx, zi_lt (show i < 2147483648 by omega) (show hS H < 2147483648 by omega), hi, sg_st, hasB, decide_eq_true_eq, oI_m a (fun t h => by have := ha t h; omega)]
    split
    · cases a with
      | none => simp only [if_true]; rfl
      | some t =>
        simp only [oI, xs_size so rx ok i hi, xs_size so rx ok t (ha t rfl), Option.bind_some, reduceCtorEq, if_false]
        split <;> rfl
    · rfl
  · intro t ht
    unfold sg_st at ht
    split at ht
    · cases a with
      | none => cases ht; omega
      | some t3 =>
        dsimp only at ht
        split at ht
        · cases ht; omega
        · cases ht; exact ha t rfl
    · exact ha t ht
end XS2

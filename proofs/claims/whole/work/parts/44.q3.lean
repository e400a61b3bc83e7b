/-! QUESTIONS: room -/
section Q3
variable {σ : hp_I} {A : ab_A}
def qb_i (b : Bool) (q : Nat) : Nat := if b = true then q else 2
def qb_o (b : Bool) (q : Nat) : Nat := if b = true then q else 1
theorem oneB_nat {p : Int32} {n : Nat} (hn : n < 2147483648) (h : oneB p n = true) : ∃ k, k < n ∧ p = Int32.ofNat k := oneB_z hn h
def qv_room (A : ab_A) (p w : Int32) : Int32 := if w = 0 then hV (aH A) 0 p.toNatClampNeg else if w = 1 then sp_liv (aH A) (aR A) p else if w = 2 then sp_cin (aH A) (aR A) p else sp_bes (aH A) (aR A) p
theorem xq_room (ok : AOK A) (cx : CX σ A) (p w : Int32) : XQ σ (fn_X_room 0 p w σ) (qb_o (oneB p (hR (aH A))) (qb_i (inB w 0 3) 0)) (qv_room A p w) := by
  unfold fn_X_room
  refine xg_one (by rw [xf_1]; exact hx_R cx.1) fun h1 => xg_in fun h2 => ?_
  refine xq_v ?_
  have hc := cnt_lt ok.1
  simp only [e_swc, e_swn, xf_1, xf_6, sh_p4, hx_hv cx.1 ok.1 p (oneB_z (by omega) h1), xs_livingIn so_32 cx.1 cx.2.1 ok.1, xs_catsIn so_32 cx.1 cx.2.1 ok.1, xs_besides so_32 cx.1 cx.2.1 ok.1, e_bd]
  unfold qv_room
  split
  · rfl
  split
  · rfl
  split <;> rfl
theorem ml_room {p w : Int32} {k : Int32 → Option (Int32 × hp_I)} {H : ab_H} {ρ : ab_R} (hm : HM σ H) (rm : RM σ 572 H ρ) (ok : HOK H) : fn_M_room_L58 52 p w σ k FU 0 0 = k (sp_liv H ρ p) := by
  have hn := ok.2.2.1
  refine zL_0 (L := fun fu a i => fn_M_room_L58 52 p w σ k fu a i) (k := k) (N := hS H) _ (by omega) (fun fu a => ?_) (fun fu i a hi => ?_) 0
  · try dsimp only
    rw [fn_M_room_L58]
    simp only [sm_12, (hm_n hm).2.2.1, e_bd, Int32.lt_irrefl, if_false]
  · try dsimp only
    rw [fn_M_room_L58]
    simp only [e_bd, e_jn, e_let, zi_succ, bI_0, sm_12, sm_25, (hm_n hm).2.2.1, zi_lt (show i < 2147483648 by omega) (show hS H < 2147483648 by omega), hi, if_true, ms_lives rm, rm_5 rm ok i hi]
    by_cases h1 : hasB (ρ 1) i = true
    · by_cases h2 : ρ (5 + i) = p
      · simp only [h1, h2, if_true, if_false, Bool.true_eq_false, bitI]
      · simp only [h1, h2, if_true, if_false, Bool.true_eq_false, Int32.or_zero]
    · have h3 : hasB (ρ 1) i = false := by simpa using h1
      simp only [h3, if_true, if_false, Bool.false_eq_true, Int32.or_zero]
theorem mq_room (ok : AOK A) (cm : CM σ A) (p w : Int32) : MQs σ (fn_M_room 52 p w σ) (qb_o (oneB p (hR (aH A))) (qb_i (inB w 0 3) 0)) (qv_room A p w) 2 := by
  unfold fn_M_room
  simp only [e_let, e_jn]
  have cm0 := cm_0 ok cm
  have hc := cnt_lt ok.1
  rw [mt_R cm.1 ok.1, e_bd]
  refine mb_a fun h1 => ?_
  rw [ms_in', e_bd]
  refine mb_c fun h2 => ?_
  refine mq_v0 ?_
  rw [ml_room cm0.1 cm0.2.1 ok.1]
  simp only [sm_25, ms_hide cm0.1 ok.1 p (oneB_z (by omega) h1), ms_catsIn cm0.1 cm0.2.1 ok.1, ms_beside cm0.1 cm0.2.1 ok.1, e_bd]
  unfold qv_room
  split
  · rfl
  split
  · rfl
  split <;> rfl
end Q3

/-! A NIGHT of the model's row -/
section N4
variable {σ : hp_I} {H : ab_H} {lw : ab_L} {ρ : Nat → Int32} {m : Nat}
def MR (m : Nat) : Prop := m = 572 ∨ m = 573 ∨ m = 574
def MI (σ : hp_I) (H : ab_H) (lw : ab_L) (m : Nat) (s : hp_I) (ρ : Nat → Int32) : Prop := HM s H ∧ LM s lw ∧ RM s m H ρ ∧ ROK H ρ ∧ Fc [m, 489, 490] σ s
theorem MI.step {s s' : hp_I} {ρ ρ' : Nat → Int32} (hm : MR m) (ok : HOK H) (lo : LOK lw) (h : MI σ H lw m s ρ) (hf : Fc [m, 489, 490] s s') (rm : RM s' m H ρ') (ro : ROK H ρ') : MI σ H lw m s' ρ' := by
  have hm2 : 572 ≤ m := by rcases hm with rfl | rfl | rfl <;> decide
  refine ⟨h.1.fr ok (hf 56 (fun q => ?_)) (fun a ha => hf _ (fun q => ?_)), h.2.1.fr lo.1 (congrFun (hf 52 (fun q => ?_)) 15) (fun a ha => hf _ (fun q => ?_)), rm, ro, h.2.2.2.2.trans hf⟩ <;>
  · simp only [List.mem_cons, List.not_mem_nil, or_false] at q; omega
theorem ms_moreOf (hm : HM σ H) (lm : LM σ lw) (rm : RM σ m H ρ) (ok : HOK H) (lo : LOK lw) (ro : ROK H ρ) (q : Nat) (hq : q < hS H) : ∃ σ', fn_M_moreOf 52 m (Int32.ofNat q) σ = some (sp_more H lw ρ q, σ') ∧ Fc [489, 490] σ σ' := by
  obtain ⟨σ', h1, h2⟩ := ml_moreBy lm lo (ρ (13 + q)) (hV H 5 q) (hV H 0 (ρ (5 + q)).toNatClampNeg) (bc (sp_cin H ρ (ρ (5 + q)))) (ρ 0) (bc (ρ 2)) (Int32.ofNat q)
  refine ⟨σ', ?_, h2⟩
  unfold fn_M_moreOf
  simp only [rm_13 rm ok q hq, e_bd, ms_grow hm ok q hq, rm_5 rm ok q hq, ms_hide hm ok _ (ro.1 q hq).1, ms_catsIn hm rm ok, ms_ones, rm_0 rm, rm_2 rm, h1, e_b2]
  rfl
theorem rm_w {k q : Nat} {v : Int32} (rm : RM σ m H ρ) (h : k + q < 47) : px_ast σ m (Int32.ofNat k + Int32.ofNat q) v = some (hp_s σ m (k + q) v) := by
  rw [zi_add]; exact zi_ast (by rw [rm.1]; exact h) (by omega)
theorem rm_w0 {k : Nat} {v : Int32} (rm : RM σ m H ρ) (h : k < 47) : px_ast σ m (Int32.ofNat k) v = some (hp_s σ m k v) := zi_ast (by rw [rm.1]; exact h) (by omega)
theorem RM.putS {k b q : Nat} {v : Int32} (h : RM σ m H ρ) (ok : HOK H) (hk : k + q < 47) (h5 : 5 ≤ k) (hb : k = b + 5) : RM (hp_s σ m (b + q) v) m H (upd ρ (k + q) v) := by
  have := h.put ok hk (v := v)
  rw [mp_hi (by omega), show k + q - 5 = b + q by omega] at this
  exact this
theorem ms_takes2 (hr : MR m) (hm : HM σ H) (rm : RM σ m H ρ) (ok : HOK H) (ro : ROK H ρ) (q : Nat) (hq : q < hC H) : ∃ σ', fn_M_takes2 52 m (Int32.ofNat q) σ = some σ' ∧ RM σ' m H (tstep H q ρ) ∧ Fc [m] σ σ' := by
  have hn := ok.2.2.1
  have hn4 := ok.2.2.2.1
  unfold fn_M_takes2
  simp only [e_let, ms_seen hm rm ok ro q hq, e_bd]
  have loop := (zL_I (L := fun fu a i => fn_M_takes2_L13 52 m (Int32.ofNat q) (sp_see H ρ q) σ (fun (y_15 : Int32) =>
      if y_15 = (-1 : Int32) then (
        some σ
      ) else (
        Option.bind (px_ald σ m (42 : Int32)) fun z16 =>
        Option.bind (px_ast σ m (42 : Int32) (z16 &&& (((1 : Int32) <<< (y_15 &&& 31)) ^^^ (-1 : Int32)))) fun s17 =>
        Option.bind (px_ald s17 m (43 : Int32)) fun z18 =>
        Option.bind (px_ast s17 m (43 : Int32) (z18 ||| ((1 : Int32) <<< (y_15 &&& 31)))) fun s19 =>
        Option.bind (px_ald s19 m (46 : Int32)) fun z20 =>
        Option.bind (px_ast s19 m ((16 : Int32) + y_15) z20) fun s21 =>
        Option.bind (px_ast s21 m ((24 : Int32) + y_15) (Int32.ofNat q)) fun s22 =>
        Option.bind (px_ald s22 m ((37 : Int32) + Int32.ofNat q)) fun z23 =>
        Option.bind (px_ast s22 m ((37 : Int32) + Int32.ofNat q) (z23 + (1 : Int32))) fun s24 =>
        some s24
      )) fu (oI a) i) (k := fun a => (fun (y_15 : Int32) =>
      if y_15 = (-1 : Int32) then (
        some σ
      ) else (
        Option.bind (px_ald σ m (42 : Int32)) fun z16 =>
        Option.bind (px_ast σ m (42 : Int32) (z16 &&& (((1 : Int32) <<< (y_15 &&& 31)) ^^^ (-1 : Int32)))) fun s17 =>
        Option.bind (px_ald s17 m (43 : Int32)) fun z18 =>
        Option.bind (px_ast s17 m (43 : Int32) (z18 ||| ((1 : Int32) <<< (y_15 &&& 31)))) fun s19 =>
        Option.bind (px_ald s19 m (46 : Int32)) fun z20 =>
        Option.bind (px_ast s19 m ((16 : Int32) + y_15) z20) fun s21 =>
        Option.bind (px_ast s21 m ((24 : Int32) + y_15) (Int32.ofNat q)) fun s22 =>
        Option.bind (px_ald s22 m ((37 : Int32) + Int32.ofNat q)) fun z23 =>
        Option.bind (px_ast s22 m ((37 : Int32) + Int32.ofNat q) (z23 + (1 : Int32))) fun s24 =>
        some s24
      )) (oI a)) (N := hS H) (sg_st ρ (sp_see H ρ q)) (fun _ a => ∀ t, a = some t → t < hS H) (by omega) (fun fu a _ => ?_) (fun fu i a hi ha => ⟨?_, ?_⟩) none (fun t h => by cases h)).1
  · refine ?_
    rw [show (fn_M_takes2_L13 52 m (Int32.ofNat q) (sp_see H ρ q) σ _ FU (-1) 0) = _ from loop]
    have etk : zF (sg_st ρ (sp_see H ρ q)) (hS H) 0 none = tk H ρ q := rfl
    rw [etk]
    dsimp only
    simp only [oI_m _ (fun t (ht : tk H ρ q = some t) => show t < 100000 by have := tk_lt ht; omega)]
    unfold tstep
    cases ht : tk H ρ q with
    | none => simp only [if_true]; exact ⟨σ, rfl, rm, Fc.refl⟩
    | some t =>
      have htl := tk_lt ht
      simp only [reduceCtorEq, if_false, show oI (some t) = Int32.ofNat t from rfl]
      have rm1 := rm.put ok (k := 1) (v := ρ 1 &&& (bitI t ^^^ (-1))) (by decide)
      have rm2 := rm1.put ok (k := 2) (v := ρ 2 ||| bitI t) (by decide)
      have rm3 := rm2.putS ok (k := 21) (b := 16) (q := t) (v := ρ 0) (by omega) (by decide) rfl
      have rm4 := rm3.putS ok (k := 29) (b := 24) (q := t) (v := Int32.ofNat q) (by omega) (by decide) rfl
      have rm5 := rm4.putS ok (k := 42) (b := 37) (q := q) (v := ρ (42 + q) + 1) (by omega) (by decide) rfl
      refine ⟨_, ?_, rm5, ?_⟩
      · rw [rm_1 rm, e_bd, show px_ast σ m 42 _ = _ from rm_w0 (k := 42) rm (by decide), e_bd, show ((1 : Int32) <<< (Int32.ofNat t &&& 31)) = bitI t from rfl]
        rw [show (42 : Nat) = mp 1 from rfl, rm_2 rm1, e_bd, upd_n (by decide), show px_ast _ m 43 _ = _ from rm_w0 (k := 43) rm1 (by decide), e_bd]
        rw [show (43 : Nat) = mp 2 from rfl, rm_0 rm2, e_bd, upd_n (by decide), upd_n (by decide), show px_ast _ m ((16 : Int32) + Int32.ofNat t) _ = _ from rm_w (k := 16) rm2 (by omega), e_bd]
        rw [show px_ast _ m ((24 : Int32) + Int32.ofNat t) _ = _ from rm_w (k := 24) rm3 (by omega), e_bd]
        rw [rm_42 rm4 ok q hq, e_bd, show px_ast _ m ((37 : Int32) + Int32.ofNat q) _ = _ from rm_w (k := 37) rm4 (by omega), e_bd]
        rw [upd_n (by omega), upd_n (by omega), upd_n (by omega), upd_n (by omega)]
        rfl
      · exact ((((Fc.put (List.mem_singleton.mpr rfl)).trans (Fc.put (List.mem_singleton.mpr rfl))).trans (Fc.put (List.mem_singleton.mpr rfl))).trans (Fc.put (List.mem_singleton.mpr rfl))).trans (Fc.put (List.mem_singleton.mpr rfl))
  · rw [fn_M_takes2_L13]
    simp only [sm_12, (hm_n hm).2.2.1, e_bd, Int32.lt_irrefl, if_false]
  · rw [fn_M_takes2_L13]
    simp only [sm_12, (hm_n hm).2.2.1, e_bd, zi_lt (show i < 2147483648 by omega) (show hS H < 2147483648 by omega), hi, if_true, ms_has, e_jn, e_let, zi_succ, bI_0, sg_st, oI_m a (fun t h => by have := ha t h; omega)]
    cases hasB (sp_see H ρ q) i with
    | false => simp only [if_true, Bool.false_eq_true, if_false]
    | true =>
      simp only [Bool.true_eq_false, if_false, if_true]
      cases a with
      | none => simp only [if_true]; rfl
      | some t =>
        simp only [reduceCtorEq, if_false, oI, rm_13 rm ok i hi, rm_13 rm ok t (ha t rfl), e_bd]
        split <;> rfl
  · intro t ht
    unfold sg_st at ht
    split at ht
    · cases a with
      | none => cases ht; omega
      | some t3 =>
        dsimp only at ht
        split at ht
        · cases ht; omega
        · cases ht; exact ha t rfl
    · exact ha t ht
theorem ms_nightEnds (hr : MR m) (hm : HM σ H) (lm : LM σ lw) (rm : RM σ m H ρ) (ok : HOK H) (lo : LOK lw) (ro : ROK H ρ) : ∃ σ', fn_M_nightEnds 52 m σ = some σ' ∧ RM σ' m H (sp_night H lw ρ) ∧ Fc [m, 489, 490] σ σ' := by
  have hn := ok.2.2.1
  have hn4 := ok.2.2.2.1
  have hm2 : 572 ≤ m := by rcases hr with rfl | rfl | rfl <;> decide
  unfold fn_M_nightEnds
  simp only [e_let]
  obtain ⟨s1, g1, g2⟩ : ∃ s', fn_M_nightEnds_L2 52 m (fun s_14 => fn_M_nightEnds_L62 52 m (fun s_20 => Option.bind (px_ald s_20 m 46) fun z21 => Option.bind (px_ast s_20 m 46 (z21 + 1)) fun s22 => some s22) FU 0 s_14) FU 0 σ = (fun s_14 => fn_M_nightEnds_L62 52 m (fun s_20 => Option.bind (px_ald s_20 m 46) fun z21 => Option.bind (px_ast s_20 m 46 (z21 + 1)) fun s22 => some s22) FU 0 s_14) s' ∧ MI σ H lw m s' (sp_grown H lw ρ) := by
    refine zL_R0 (L := fun fu a i => fn_M_nightEnds_L2 52 m _ fu i a) (N := hS H) (gstep H lw) (fun _ s ρ => MI σ H lw m s ρ) (by omega) (fun fu s ρ h => ?_) (fun fu i s ρ hi h => ?_) σ ρ ⟨hm, lm, rm, ro, Fc.refl⟩
    · rw [fn_M_nightEnds_L2]
      simp only [sm_12, (hm_n h.1).2.2.1, e_bd, Int32.lt_irrefl, if_false]
    · obtain ⟨hm, lm, rm, ro, fr⟩ := h
      have o3 := ok.2.2.1
      rw [fn_M_nightEnds_L2]
      simp only [sm_12, (hm_n hm).2.2.1, e_bd, zi_lt (show i < 2147483648 by omega) (show hS H < 2147483648 by omega), hi, if_true, ms_lives rm i, e_jn, e_let, zi_succ, bI_0]
      cases hb : hasB (ρ 1) i with
      | true =>
        obtain ⟨s1, g1, g2⟩ := ms_moreOf hm lm rm ok lo ro i hi
        have rm1 : RM s1 m H ρ := rm.fr (g2 m (by simp only [List.mem_cons, List.not_mem_nil, or_false]; omega))
        simp only [Bool.true_eq_false, if_false, rm_13 rm ok i hi, e_bd, g1, e_b2, ms_less]
        rw [show px_ast s1 m ((8 : Int32) + Int32.ofNat i) _ = _ from rm_w (k := 8) rm1 (by omega), e_bd]
        refine ⟨_, rfl, ?_⟩
        have hg : gstep H lw i ρ = upd ρ (13 + i) (if (999 : Int32) < ρ (13 + i) + sp_more H lw ρ i then 999 else ρ (13 + i) + sp_more H lw ρ i) := by
          unfold gstep
          rw [if_pos hb]
          refine congrArg (upd ρ (13 + i)) ?_
          unfold px_min
          by_cases h1 : (999 : Int32) < ρ (13 + i) + sp_more H lw ρ i
          · rw [if_pos h1, if_neg (fun h2 => Int32.lt_irrefl (Int32.lt_trans h1 h2))]
          · rw [if_neg h1]
            by_cases h2 : ρ (13 + i) + sp_more H lw ρ i < 999
            · rw [if_pos h2]
            · rw [if_neg h2]; exact Int32.le_antisymm (Int32.not_lt.mp h2) (Int32.not_lt.mp h1)
        have ro2 := rok_grow (lw := lw) ok ro hi
        rw [hg] at ro2 ⊢
        exact MI.step hr ok lo ⟨hm, lm, rm, ro, fr⟩ ((g2.mono (by intro j hj; simp only [List.mem_cons, List.not_mem_nil, or_false] at hj ⊢; omega)).trans (Fc.put (by simp))) (rm1.putS ok (k := 13) (b := 8) (by omega) (by decide) rfl) ro2
      | false =>
        simp only [if_true, rm_13 rm ok i hi, e_bd]
        rw [show px_ast s m ((8 : Int32) + Int32.ofNat i) _ = _ from rm_w (k := 8) rm (by omega), e_bd]
        refine ⟨_, rfl, ?_⟩
        have hg : gstep H lw i ρ = ρ := by unfold gstep; rw [hb]; rfl
        rw [hg]
        have e : upd ρ (13 + i) (ρ (13 + i)) = ρ := by funext j; unfold upd; by_cases h : j = 13 + i <;> simp [h]
        have := rm.putS ok (k := 13) (b := 8) (q := i) (v := ρ (13 + i)) (by omega) (by decide) rfl
        rw [e] at this
        exact MI.step hr ok lo ⟨hm, lm, rm, ro, fr⟩ (Fc.put (by simp)) this ro
  rw [g1]
  dsimp only
  obtain ⟨s2, g3, g4⟩ : ∃ s', fn_M_nightEnds_L62 52 m (fun s_20 => Option.bind (px_ald s_20 m 46) fun z21 => Option.bind (px_ast s_20 m 46 (z21 + 1)) fun s22 => some s22) FU 0 s1 = (fun s_20 => Option.bind (px_ald s_20 m 46) fun z21 => Option.bind (px_ast s_20 m 46 (z21 + 1)) fun s22 => some s22) s' ∧ MI σ H lw m s' (sp_taken H (sp_grown H lw ρ)) := by
    refine zL_R0 (L := fun fu a i => fn_M_nightEnds_L62 52 m _ fu i a) (N := hC H) (tstep H) (fun _ s ρ => MI σ H lw m s ρ) (by omega) (fun fu s ρ h => ?_) (fun fu i s ρ hi h => ?_) s1 _ g2
    · rw [fn_M_nightEnds_L62]
      simp only [sm_12, (hm_n h.1).2.2.2, e_bd, Int32.lt_irrefl, if_false]
    · obtain ⟨hm, lm, rm, ro, fr⟩ := h
      obtain ⟨s3, k1, k2, k3⟩ := ms_takes2 hr hm rm ok ro i hi
      rw [fn_M_nightEnds_L62]
      simp only [sm_12, (hm_n hm).2.2.2, e_bd, zi_lt (show i < 2147483648 by omega) (show hC H < 2147483648 by omega), hi, if_true, k1, e_let, zi_succ]
      exact ⟨s3, rfl, MI.step hr ok lo ⟨hm, lm, rm, ro, fr⟩ (k3.mono (by intro j hj; simp only [List.mem_cons, List.not_mem_nil, or_false] at hj ⊢; exact Or.inl hj)) k2 (rok_take ok ro hi)⟩
  rw [g3]
  obtain ⟨hm, lm, rm, ro, fr⟩ := g4
  dsimp only
  rw [rm_0 rm, e_bd, show px_ast s2 m 46 _ = _ from rm_w0 (k := 46) rm (by decide), e_bd]
  exact ⟨_, rfl, rm.put ok (k := 0) (by decide), fr.trans (Fc.put (by simp))⟩
end N4

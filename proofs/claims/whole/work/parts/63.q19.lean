/-! FITS, LOOK: the model, and the class's look -/
theorem bf_477 (a : Nat) : sh_rf 477 a = 478 + a := by unfold sh_rf; rw [if_pos (by decide +kernel)]
theorem bn_477 : sh_ln 477 = 5 := by decide +kernel
theorem bn_478 : ∀ a, a < 5 → sh_ln (478 + a) = 2 := by decide +kernel
section GM
variable {σ s : hp_I} {A : ab_A} {g : gw_T}
theorem bm_row (ok : AOK A) (cm : CM s A) {k : Nat} (hk : k < (aB A).length) : Int32.ofNat k < s 52 30 ∧ px_rld (sh_rf 52 19) (Int32.ofNat k) = some (478 + k) ∧ px_ald s (478 + k) 0 = some (Int32.ofNat (aB A)[k].1) ∧ px_ald s (478 + k) 1 = some (aB A)[k].2 := by
  have h5 := ok.2.2.2.1.len ok.1
  have hb := cm.2.2.2.1
  refine ⟨?_, ?_, ?_, ?_⟩
  · rw [hb.1]; exact zl_lt hk (by omega)
  · rw [sm_19, zi_rld (by rw [bn_477]; omega) (by omega), bf_477]
  · rw [show px_ald s (478 + k) 0 = some (s (478 + k) 0) from zi_ald (a := 0) (by rw [bn_478 k (by omega)]; decide) (by decide), (hb.2 k hk).1]
  · rw [show px_ald s (478 + k) 1 = some (s (478 + k) 1) from zi_ald (a := 1) (by rw [bn_478 k (by omega)]; decide) (by decide), (hb.2 k hk).2]
theorem bm_end (ok : AOK A) (cm : CM s A) : ¬ Int32.ofNat (aB A).length < s 52 30 := by
  rw [cm.2.2.2.1.1]; exact Int32.lt_irrefl
/-- all lines right -/
def allB (bk : ab_B) (b : Int32) : Bool := bk.all (fun q => decide (bI (hasB b q.1) = q.2))
theorem allB_agr {H : ab_H} {bk : ab_B} (ok : HOK H) (bo : BOK H bk) (b : Int32) : allB bk b = agr bk b := by
  rw [Bool.eq_iff_iff, agr_iff ok bo]
  unfold allB
  rw [List.all_eq_true]
  constructor
  · intro h q hq; exact of_decide_eq_true (h q hq)
  · intro h q hq; exact decide_eq_true (h q hq)
theorem ms_isSo (ok : AOK A) (cm : CM σ A) (h : FM σ s ∧ s 52 0 = σ 52 0 ∧ s 54 = σ 54) {t r : Nat} (ht : t < hS (aH A)) (hr : r < hR (aH A)) : ∃ s', fn_M_isSo 52 (Int32.ofNat t) (Int32.ofNat r) s = some (bI (agr (aB A) (gw_k A t r)), s') ∧ TM A 573 σ s' (sp_night (aH A) (aL A) (upd (aR A) (5 + t) (Int32.ofNat r))) := by
  have h8 := ok.1.2.2.1
  have h5 := ok.1.2.2.2.1
  unfold fn_M_isSo
  have c0 : CM s A := cm.m ok h.1
  have t0 : TM A 572 σ s (aR A) := ⟨h.1, h.2, c0.2.1, ok.2.1⟩
  obtain ⟨s1, g1, g2⟩ := tm_copy ok t0 (by decide)
  have t2 : TM A 573 σ (hp_s s1 573 (0 + t) (Int32.ofNat r)) (upd (aR A) (5 + t) (Int32.ofNat r)) := g2.row (g2.2.2.1.putS (k := 5) (b := 0) (q := t) ok.1 (by omega) (by decide) rfl) (Fc.put (by simp)) (rok_put ok.1 ok.2.1 ht hr)
  obtain ⟨s3, g3, g4, -⟩ := tm_night (Or.inl rfl) ok cm t2
  have c3 := g4.cm ok cm
  refine ⟨s3, ?_, g4⟩
  rw [sm_25, sm_26, g1, e_bd, show px_ast s1 573 ((0 : Int32) + Int32.ofNat t) (Int32.ofNat r) = _ from rm_w (k := 0) (q := t) g2.2.2.1 (by omega), e_bd, g3, e_bd, e_let, e_z1, ← allB_agr ok.1 ok.2.2.2.1]
  have key : ∀ n i fu, i + n = (aB A).length → n < fu → fn_M_isSo_L30 52 s3 (some (1, s3)) fu (Int32.ofNat i) = some (bI (allB ((aB A).drop i) (gw_k A t r)), s3) := by
    intro n
    induction n with
    | zero =>
      intro i fu hi hf
      obtain ⟨fu, rfl⟩ : ∃ f, fu = f + 1 := ⟨fu - 1, by omega⟩
      rw [fn_M_isSo_L30, show i = (aB A).length by omega, if_neg (bm_end ok c3), List.drop_length]
      rfl
    | succ n ih =>
      intro i fu hi hf
      obtain ⟨fu, rfl⟩ : ∃ f, fu = f + 1 := ⟨fu - 1, by omega⟩
      have hil : i < (aB A).length := by omega
      obtain ⟨r1, r2, r3, r4⟩ := bm_row ok c3 hil
      have hq : (aB A)[i].1 < hC (aH A) := (ok.2.2.2.1.1 _ (List.getElem_mem hil)).1
      rw [fn_M_isSo_L30, if_pos r1, r2, e_bd, r3, e_bd, sm_26, sm_25, rm_42 g4.2.2.1 ok.1 _ hq, e_bd, e_bd, r3, e_bd, rm_42 c3.2.1 ok.1 _ hq, e_bd, e_bd, r4, e_bd, e_let, zi_succ, e_z0, ih (i + 1) fu (by omega) (by omega)]
      have hd := took_diff (lw := aL A) (ρ := upd (aR A) (5 + t) (Int32.ofNat r)) ok.1 hq
      rw [upd_n (by omega)] at hd
      rw [hd, List.drop_eq_getElem_cons hil]
      show (if bI (hasB (gw_k A t r) (aB A)[i].1) = (aB A)[i].2 then _ else _) = some (bI (decide (bI (hasB (gw_k A t r) (aB A)[i].1) = (aB A)[i].2) && allB ((aB A).drop (i + 1)) (gw_k A t r)), s3)
      by_cases hh : bI (hasB (gw_k A t r) (aB A)[i].1) = (aB A)[i].2
      · rw [if_pos hh, decide_eq_true hh, Bool.true_and]
      · rw [if_neg hh, decide_eq_false hh, Bool.false_and]; rfl
  have h9 := ok.2.2.2.1.len ok.1
  exact key (aB A).length 0 FU (by omega) (FU_gt (by omega))
/-- fits -/
def GM (σ s : hp_I) : Prop := FM σ s ∧ s 52 0 = σ 52 0 ∧ s 54 = σ 54
theorem ml_fits1 (ok : AOK A) (cm : CM σ A) {w : Int32} {t : Nat} (ht : t < hS (aH A)) (K : Int32 → Int32 → hp_I → Option (Int32 × hp_I)) (hs : GM σ s) : ∃ s', fn_M_fits_L51 52 w (Int32.ofNat t) K FU g.1 g.2.1 0 s = K (gw_s A t g).1 (gw_s A t g).2.1 s' ∧ GM σ s' := by
  have hR8 := ok.1.1
  have hS8 := ok.1.2.2.1
  have e : ∀ g, gw_s A t g = zF (fun r g => if hasB (aR A 1) t = true then gw_r A t r g else g) (hR (aH A)) 0 g := by
    intro g
    unfold gw_s
    by_cases hb : hasB (aR A 1) t = true
    · rw [if_pos hb]
      exact zF_ext _ _ (hR (aH A)) (fun i a _ => by rw [if_pos hb]) (hR (aH A)) 0 g (by omega)
    · rw [if_neg hb]
      exact (zF_id _ (hR (aH A)) g (fun i _ => by rw [if_neg hb]) (hR (aH A)) 0 (by omega)).symm
  rw [e]
  refine Exists.elim (zL_R0 (L := fun fu (a : Int32 × Int32 × hp_I) i => fn_M_fits_L51 52 w (Int32.ofNat t) K fu a.1 a.2.1 i a.2.2) (k := fun a => K a.1 a.2.1 a.2.2) (N := hR (aH A)) (fun r g => if hasB (aR A 1) t = true then gw_r A t r g else g) (fun i a g => (a.1 = g.1 ∧ a.2.1 = g.2.1) ∧ GM σ a.2.2) (by omega) (fun fu a u h => ?_) (fun fu i a g hi h => ?_) (g.1, g.2.1, s) g ⟨⟨rfl, rfl⟩, hs⟩) (fun a ha => ⟨a.2.2, ?_, ha.2.2⟩)
  · try dsimp only
    have c1 : CM a.2.2 A := cm.m ok h.2.1
    rw [fn_M_fits_L51, sm_12, (hm_n c1.1).1, e_bd, if_neg Int32.lt_irrefl]
  · obtain ⟨a1, a2, s⟩ := a
    obtain ⟨⟨b1, b2⟩, hf⟩ := h
    dsimp only at b1 b2 hf ⊢
    have c1 : CM s A := cm.m ok hf.1
    obtain ⟨s2, g1, g2⟩ := ms_isSo ok cm hf ht hi
    rw [fn_M_fits_L51, sm_12, (hm_n c1.1).1, e_bd, if_pos (zl_lt hi (by omega)), sm_25, ms_lives c1.2.1, e_bd, e_jn, bI_if, g1, e_b2, bI_if]
    simp only [e_jn, e_let, zi_succ]
    by_cases hb : hasB (aR A 1) t = true
    · rw [if_pos hb, if_pos hb]
      unfold gw_r
      by_cases ha : agr (aB A) (gw_k A t i) = true
      · rw [if_pos ha, if_pos ha, b1, b2]
        refine ⟨(g.1 + 1, if g.1 = 0 then 10 * Int32.ofNat t + Int32.ofNat i else g.2.1, s2), ?_, ⟨rfl, rfl⟩, g2.1, g2.2.1⟩
        split <;> rfl
      · rw [if_neg ha, if_neg ha]
        exact ⟨(a1, a2, s2), rfl, ⟨b1, b2⟩, g2.1, g2.2.1⟩
    · rw [if_neg hb, if_neg hb]
      exact ⟨(a1, a2, s), rfl, ⟨b1, b2⟩, hf⟩
  · rw [ha.1]
    show K a.1 a.2.1 a.2.2 = K _ _ a.2.2
    rw [ha.2.1.1, ha.2.1.2]
theorem mq_fits (ok : AOK A) (cm : CM σ A) (w : Int32) : MQs σ (fn_M_fits 52 w σ) (qb_i (inB w 0 1) 0) (if w = 0 then (sp_gw A).1 else (sp_gw A).2.1) 1 := by
  unfold fn_M_fits
  simp only [e_let, e_jn]
  have cm0 := cm_0 ok cm
  have hS8 := ok.1.2.2.1
  rw [ms_in', e_bd]
  refine mb_b fun _ => ?_
  refine Exists.elim (zL_R0 (L := fun fu (a : Int32 × Int32 × hp_I) i => fn_M_fits_L37 52 w (fun y28 y29 s30 => if w = 0 then some (y28, s30) else some (y29, s30)) fu a.1 a.2.1 i a.2.2) (k := fun a => if w = 0 then some (a.1, a.2.2) else some (a.2.1, a.2.2)) (N := hS (aH A)) (gw_s A) (fun i a g => (a.1 = g.1 ∧ a.2.1 = g.2.1) ∧ GM (hp_s σ 52 0 0) a.2.2) (by omega) (fun fu a u h => ?_) (fun fu i a g hi h => ?_) (0, -1, hp_s σ 52 0 0) (0, -1, fun _ => 0) ⟨⟨rfl, rfl⟩, FM.refl, rfl, rfl⟩) (fun a ha => ?_)
  · try dsimp only
    have c1 : CM a.2.2 A := cm0.m ok h.2.1
    rw [fn_M_fits_L37, sm_12, (hm_n c1.1).2.2.1, e_bd, if_neg Int32.lt_irrefl]
  · obtain ⟨a1, a2, s⟩ := a
    obtain ⟨⟨b1, b2⟩, hf⟩ := h
    dsimp only at b1 b2 hf ⊢
    have c1 : CM s A := cm0.m ok hf.1
    obtain ⟨s2, g1, g2⟩ := ml_fits1 (w := w) (g := g) ok cm0 hi (fun y_24 y_25 s_26 => fn_M_fits_L37 52 w (fun y28 y29 s30 => if w = 0 then some (y28, s30) else some (y29, s30)) fu y_24 y_25 (Int32.ofNat (i + 1)) s_26) hf
    rw [fn_M_fits_L37, sm_12, (hm_n c1.1).2.2.1, e_bd, if_pos (zl_lt hi (by omega)), e_let, b1, b2]
    simp only [e_let, zi_succ]
    exact ⟨((gw_s A i g).1, (gw_s A i g).2.1, s2), g1, ⟨rfl, rfl⟩, g2⟩
  · obtain ⟨a1, a2, s⟩ := a
    obtain ⟨k1, ⟨b1, b2⟩, hf⟩ := ha
    dsimp only at k1 b1 b2 hf
    refine mq_v (k1.trans ?_) hf.1 (hf.2.1.trans s0_0) (hf.2.2.trans (hp_s_n (by decide)))
    rw [b1, b2]
    exact ite_g (rM s) (fun _ => rfl) (fun _ => rfl)
/-- look -/
def wW (g : gw_T) (c : Nat) : Int32 := px_max (g.2.2 c) (g.1 - g.2.2 c)
theorem ms_worst (ok : AOK A) (cm : CM σ A) {c : Nat} (hc : c < hC (aH A)) (hs : GM σ s) : ∃ s', fn_M_worstAt 52 (Int32.ofNat c) s = some (wW (sp_gw A) c, s') ∧ GM σ s' := by
  unfold fn_M_worstAt
  simp only [e_let]
  have hS8 := ok.1.2.2.1
  have hR8 := ok.1.1
  have h5 := ok.1.2.2.2.1
  have inner : ∀ (K : Int32 → Int32 → hp_I → Option (Int32 × hp_I)) (t : Nat) (g : gw_T) (s : hp_I), t < hS (aH A) → GM σ s → ∃ s', fn_M_worstAt_L21 52 (Int32.ofNat c) (Int32.ofNat t) K FU (g.2.2 c) g.1 0 s = K ((gw_s A t g).2.2 c) (gw_s A t g).1 s' ∧ GM σ s' := by
    intro K t g s ht hs
    have e : ∀ g, gw_s A t g = zF (fun r g => if hasB (aR A 1) t = true then gw_r A t r g else g) (hR (aH A)) 0 g := by
      intro g
      unfold gw_s
      by_cases hb : hasB (aR A 1) t = true
      · rw [if_pos hb]
        exact zF_ext _ _ (hR (aH A)) (fun i a _ => by rw [if_pos hb]) (hR (aH A)) 0 g (by omega)
      · rw [if_neg hb]
        exact (zF_id _ (hR (aH A)) g (fun i _ => by rw [if_neg hb]) (hR (aH A)) 0 (by omega)).symm
    rw [e]
    refine Exists.elim (zL_R0 (L := fun fu (a : Int32 × Int32 × hp_I) i => fn_M_worstAt_L21 52 (Int32.ofNat c) (Int32.ofNat t) K fu a.1 a.2.1 i a.2.2) (k := fun a => K a.1 a.2.1 a.2.2) (N := hR (aH A)) (fun r g => if hasB (aR A 1) t = true then gw_r A t r g else g) (fun i a g => (a.1 = g.2.2 c ∧ a.2.1 = g.1) ∧ GM σ a.2.2) (by omega) (fun fu a u h => ?_) (fun fu i a g hi h => ?_) (g.2.2 c, g.1, s) g ⟨⟨rfl, rfl⟩, hs⟩) (fun a ha => ⟨a.2.2, ?_, ha.2.2⟩)
    · try dsimp only
      have c1 : CM a.2.2 A := cm.m ok h.2.1
      rw [fn_M_worstAt_L21, sm_12, (hm_n c1.1).1, e_bd, if_neg Int32.lt_irrefl]
    · obtain ⟨a1, a2, s⟩ := a
      obtain ⟨⟨b1, b2⟩, hf⟩ := h
      dsimp only at b1 b2 hf ⊢
      have c1 : CM s A := cm.m ok hf.1
      obtain ⟨s2, g1, g2⟩ := ms_isSo ok cm hf ht hi
      have c2 := g2.cm ok cm
      have hd := took_diff (lw := aL A) (ρ := upd (aR A) (5 + t) (Int32.ofNat i)) ok.1 hc
      rw [upd_n (by omega)] at hd
      rw [fn_M_worstAt_L21, sm_12, (hm_n c1.1).1, e_bd, if_pos (zl_lt hi (by omega)), sm_25, ms_lives c1.2.1, e_bd, e_jn, bI_if, g1, e_b2, bI_if]
      simp only [sm_26, e_let, zi_succ, rm_42 g2.2.2.1 ok.1 c hc, rm_42 c2.2.1 ok.1 c hc, e_bd, hd]
      by_cases hb : hasB (aR A 1) t = true
      · rw [if_pos hb, if_pos hb]
        unfold gw_r
        by_cases ha : agr (aB A) (gw_k A t i) = true
        · rw [if_pos ha, if_pos ha, b1, b2]
          exact ⟨(g.2.2 c + bI (hasB (gw_k A t i) c), g.1 + 1, s2), rfl, ⟨rfl, rfl⟩, g2.1, g2.2.1⟩
        · rw [if_neg ha, if_neg ha]
          exact ⟨(a1, a2, s2), rfl, ⟨b1, b2⟩, g2.1, g2.2.1⟩
      · rw [if_neg hb, if_neg hb]
        exact ⟨(a1, a2, s), rfl, ⟨b1, b2⟩, hf⟩
    · rw [ha.1]
      show K a.1 a.2.1 a.2.2 = K _ _ a.2.2
      rw [ha.2.1.1, ha.2.1.2]
  refine Exists.elim (zL_R0 (L := fun fu (a : Int32 × Int32 × hp_I) i => fn_M_worstAt_L7 52 (Int32.ofNat c) (fun y23 y24 s25 => Option.bind (fn_M_more2 y23 (y24 - y23)) fun z26 => some (z26, s25)) fu a.1 a.2.1 i a.2.2) (k := fun a => Option.bind (fn_M_more2 a.1 (a.2.1 - a.1)) fun z26 => some (z26, a.2.2)) (N := hS (aH A)) (gw_s A) (fun i a g => (a.1 = g.2.2 c ∧ a.2.1 = g.1) ∧ GM σ a.2.2) (by omega) (fun fu a u h => ?_) (fun fu i a g hi h => ?_) (0, 0, s) (0, -1, fun _ => 0) ⟨⟨rfl, rfl⟩, hs⟩) (fun a ha => ⟨a.2.2, ?_, ha.2.2⟩)
  · try dsimp only
    have c1 : CM a.2.2 A := cm.m ok h.2.1
    rw [fn_M_worstAt_L7, sm_12, (hm_n c1.1).2.2.1, e_bd, if_neg Int32.lt_irrefl]
  · obtain ⟨a1, a2, s⟩ := a
    obtain ⟨⟨b1, b2⟩, hf⟩ := h
    dsimp only at b1 b2 hf ⊢
    have c1 : CM s A := cm.m ok hf.1
    obtain ⟨s2, g1, g2⟩ := inner (fun y_24 y_25 s_26 => fn_M_worstAt_L7 52 (Int32.ofNat c) (fun y23 y24 s25 => Option.bind (fn_M_more2 y23 (y24 - y23)) fun z26 => some (z26, s25)) fu y_24 y_25 (Int32.ofNat (i + 1)) s_26) i g s hi hf
    rw [fn_M_worstAt_L7, sm_12, (hm_n c1.1).2.2.1, e_bd, if_pos (zl_lt hi (by omega)), e_let, b1, b2]
    simp only [e_let, zi_succ]
    exact ⟨((gw_s A i g).2.2 c, (gw_s A i g).1, s2), g1, ⟨rfl, rfl⟩, g2⟩
  · refine ha.1.trans ?_
    rw [ha.2.1.1, ha.2.1.2, ms_more2, e_bd, max_more]
    rfl
theorem ms_isTold (ok : AOK A) (cm : CM s A) {c : Nat} (hc : c < hC (aH A)) : fn_M_isTold 52 (Int32.ofNat c) s = some (bI (hasB (bk_in (aB A)) c)) := by
  have h5 := ok.1.2.2.2.1
  unfold fn_M_isTold
  rw [e_let, e_z0, bk_has (aB A) c (by omega) (fun x hx => by have := (ok.2.2.2.1.1 x hx).1; omega)]
  have key : ∀ n i fu, i + n = (aB A).length → n < fu → fn_M_isTold_L2 52 (Int32.ofNat c) s (some 0) fu (Int32.ofNat i) = some (bI (decide (c ∈ ((aB A).drop i).map Prod.fst))) := by
    intro n
    induction n with
    | zero =>
      intro i fu hi hf
      obtain ⟨fu, rfl⟩ : ∃ f, fu = f + 1 := ⟨fu - 1, by omega⟩
      rw [fn_M_isTold_L2, show i = (aB A).length by omega, if_neg (bm_end ok cm), List.drop_length]
      rfl
    | succ n ih =>
      intro i fu hi hf
      obtain ⟨fu, rfl⟩ : ∃ f, fu = f + 1 := ⟨fu - 1, by omega⟩
      have hil : i < (aB A).length := by omega
      obtain ⟨r1, r2, r3, r4⟩ := bm_row ok cm hil
      have hq : (aB A)[i].1 < hC (aH A) := (ok.2.2.2.1.1 _ (List.getElem_mem hil)).1
      rw [fn_M_isTold_L2, if_pos r1, r2, e_bd, r3, e_bd, e_let, zi_succ, e_z1, ih (i + 1) fu (by omega) (by omega), List.drop_eq_getElem_cons hil, List.map_cons]
      by_cases hh : (aB A)[i].1 = c
      · rw [if_pos (by rw [hh]), decide_eq_true (by rw [hh]; exact List.mem_cons_self)]; rfl
      · rw [if_neg (zl_ne hh (by omega) (by omega))]
        congr 2
        rw [decide_eq_decide]
        simp only [List.mem_cons]
        constructor
        · exact Or.inr
        · rintro (h | h)
          · exact absurd h.symm hh
          · exact h
  have h9 := ok.2.2.2.1.len ok.1
  exact key (aB A).length 0 FU (by omega) (FU_gt (by omega))
def lkS (A : ab_A) (c : Nat) (a : Option Nat) : Option Nat := if hasB (bk_in (aB A)) c = true then a else match a with
  | none => some c
  | some b => if wW (sp_gw A) c < wW (sp_gw A) b then some c else some b
def sp_look (A : ab_A) : Option Nat := zF (lkS A) (hC (aH A)) 0 none
theorem lkS_lt {c : Nat} {a : Option Nat} (hc : c < hC (aH A)) (ha : ∀ t, a = some t → t < hC (aH A)) : ∀ t, lkS A c a = some t → t < hC (aH A) := by
  intro t ht
  unfold lkS at ht
  split at ht
  · exact ha t ht
  · cases a with
    | none => cases ht; exact hc
    | some b =>
      dsimp only at ht
      split at ht
      · cases ht; exact hc
      · cases ht; exact ha t rfl
def qv_look (A : ab_A) (w : Int32) : Int32 := if w = 0 then oI (sp_look A) else match sp_look A with
  | none => -1
  | some b => wW (sp_gw A) b
theorem xs_left (ok : AOK A) (h : GX A σ s g) {c : Nat} (hc : c < hC (aH A)) : fn_Guess_leftAtWorst 49 (Int32.ofNat c) s = some (wW g c) := by
  have h5 := ok.1.2.2.2.1
  unfold fn_Guess_leftAtWorst
  rw [gf_1, zi_ald (by rw [gn_50]; omega) (by omega), e_bd, e_bd, h.1.2.2 c hc, h.1.1]
  rfl
theorem xs_line (ok : AOK A) (cx : CX s A) (c : Nat) : fn_Book_hasLineOf 26 (Int32.ofNat c) s = some (bI (hasB (bk_in (aB A)) c)) := by
  unfold fn_Book_hasLineOf
  rw [e_jn, has_if, cx.2.2.2.1.1]
  simp only [e_z0, e_z1]
  cases hasB (bk_in (aB A)) c <;> rfl
theorem xs_best (ok : AOK A) (cx : CX s A) (h : GX A σ s (sp_gw A)) : fn_Guess_bestToWatch 49 26 s = some (oI (sp_look A)) ∧ ∀ t, sp_look A = some t → t < hC (aH A) := by
  have h5 := ok.1.2.2.2.1
  unfold fn_Guess_bestToWatch
  rw [e_let, e_let]
  refine zL_I (L := fun fu a i => fn_Guess_bestToWatch_L4 49 26 s (fun y => some y) fu (oI a) i) (k := fun a => some (oI a)) (N := hC (aH A)) (lkS A) (fun _ a => ∀ t, a = some t → t < hC (aH A)) (by omega) (fun fu a _ => ?_) (fun fu i a hi ha => ⟨?_, lkS_lt hi ha⟩) none (fun t h => by cases h)
  · try dsimp only
    rw [fn_Guess_bestToWatch_L4, gf_0, hx_C cx.1, if_neg Int32.lt_irrefl]
  · try dsimp only
    rw [fn_Guess_bestToWatch_L4, gf_0, hx_C cx.1, if_pos (zl_lt hi (by omega)), xs_line ok cx, e_bd, e_jn, bI_if]
    simp only [e_jn, e_let, zi_succ, oI_m a (fun t h => by have := ha t h; omega)]
    unfold lkS
    by_cases hb : hasB (bk_in (aB A)) i = true
    · rw [if_pos hb, if_pos hb]
    · rw [if_neg hb, if_neg hb]
      cases a with
      | none => rw [if_pos rfl]; rfl
      | some b =>
        rw [if_neg (by intro e; cases e), xs_left ok h hi, e_bd, show oI (some b) = Int32.ofNat b from rfl, xs_left ok h (ha b rfl), e_bd]
        dsimp only
        split <;> rfl
theorem xq_look (ok : AOK A) (cx : CX σ A) (w : Int32) : XQ σ (fn_X_look 0 w σ) (qb_i (inB w 0 1) 0) (qv_look A w) := by
  unfold fn_X_look
  refine xg_in fun _ => ?_
  have h5 := ok.1.2.2.2.1
  obtain ⟨s', g1, g2⟩ := xs_weigh ok cx
  have c1 : CX s' A := cx.x g2.2
  obtain ⟨b1, b2⟩ := xs_best ok c1 g2
  refine xq_f ?_ g2.2
  rw [xf_11, xf_6, xf_7, xf_4, g1, e_bd, b1, e_bd]
  simp only [e_let, e_jn]
  unfold qv_look
  refine ite_g (rX s') (fun _ => rfl) (fun _ => ?_)
  cases hl : sp_look A with
  | none => rw [if_pos (show oI none = -1 from rfl)]; rfl
  | some b =>
    have hb := b2 b hl
    rw [if_neg (show ¬ oI (some b) = -1 from fun e => by rw [oI_m _ (fun t' h' => by cases h'; omega)] at e; cases e), show oI (some b) = Int32.ofNat b from rfl, xs_left ok g2 hb, e_bd]
theorem mq_look (ok : AOK A) (cm : CM σ A) (w : Int32) : MQs σ (fn_M_look 52 w σ) (qb_i (inB w 0 1) 0) (qv_look A w) 1 := by
  unfold fn_M_look
  simp only [e_let, e_jn]
  have cm0 := cm_0 ok cm
  have h5 := ok.1.2.2.2.1
  rw [ms_in', e_bd]
  refine mb_b fun _ => ?_
  refine Exists.elim (zL_R0 (L := fun fu (a : Int32 × Int32 × hp_I) i => fn_M_look_L37 52 w (fun y22 y23 s24 => if w = 0 then some (y22, s24) else some (y23, s24)) fu a.1 a.2.1 i a.2.2) (k := fun a => if w = 0 then some (a.1, a.2.2) else some (a.2.1, a.2.2)) (N := hC (aH A)) (lkS A) (fun i a b => (a.1 = oI b ∧ a.2.1 = (match b with
    | none => -1
    | some t => wW (sp_gw A) t) ∧ ∀ t, b = some t → t < hC (aH A)) ∧ GM (hp_s σ 52 0 0) a.2.2) (by omega) (fun fu a u h => ?_) (fun fu i a b hi h => ?_) (-1, -1, hp_s σ 52 0 0) none ⟨⟨rfl, rfl, fun t h => by cases h⟩, FM.refl, rfl, rfl⟩) (fun a ha => ?_)
  · try dsimp only
    have c1 : CM a.2.2 A := cm0.m ok h.2.1
    rw [fn_M_look_L37, sm_12, (hm_n c1.1).2.2.2, e_bd, if_neg Int32.lt_irrefl]
  · obtain ⟨a1, a2, s⟩ := a
    obtain ⟨⟨b1, b2, b3⟩, hf⟩ := h
    dsimp only at b1 b2 hf ⊢
    have c1 : CM s A := cm0.m ok hf.1
    obtain ⟨s2, g1, g2⟩ := ms_worst ok cm0 hi hf
    have hlt := lkS_lt hi b3
    rw [fn_M_look_L37, sm_12, (hm_n c1.1).2.2.2, e_bd, if_pos (zl_lt hi (by omega)), ms_isTold ok c1 hi, e_bd, e_jn, bI_if, g1, e_b2]
    simp only [e_jn, e_let, zi_succ]
    unfold lkS at hlt ⊢
    by_cases hb : hasB (bk_in (aB A)) i = true
    · rw [if_pos hb]
      rw [if_pos hb] at hlt ⊢
      exact ⟨(a1, a2, s), rfl, ⟨b1, b2, hlt⟩, hf⟩
    · rw [if_neg hb]
      rw [if_neg hb] at hlt ⊢
      cases b with
      | none =>
        rw [if_pos (by rw [b1]; rfl)]
        exact ⟨(Int32.ofNat i, wW (sp_gw A) i, s2), rfl, ⟨rfl, rfl, hlt⟩, g2⟩
      | some t =>
        dsimp only at b2
        have ht := b3 t rfl
        rw [if_neg (show ¬ a1 = -1 from fun e => by rw [b1, oI_m _ (fun t' h' => by cases h'; omega)] at e; cases e), b2]
        dsimp only at hlt ⊢
        by_cases hw : wW (sp_gw A) i < wW (sp_gw A) t
        · rw [if_pos hw] at hlt ⊢
          rw [if_neg (Int32.not_le.mpr hw)]
          exact ⟨(Int32.ofNat i, wW (sp_gw A) i, s2), rfl, ⟨rfl, rfl, hlt⟩, g2⟩
        · rw [if_neg hw] at hlt ⊢
          rw [if_pos (Int32.not_lt.mp hw)]
          exact ⟨(a1, wW (sp_gw A) t, s2), rfl, ⟨b1, rfl, hlt⟩, g2⟩
  · obtain ⟨a1, a2, s⟩ := a
    obtain ⟨k1, ⟨b1, b2, -⟩, hf⟩ := ha
    dsimp only at k1 b1 b2 hf
    refine mq_v (k1.trans ?_) hf.1 (hf.2.1.trans s0_0) (hf.2.2.trans (hp_s_n (by decide)))
    rw [b1, b2]
    exact ite_g (rM s) (fun _ => rfl) (fun _ => rfl)
end GM

/-! SLIPS: the model -/
theorem sn_596 : sh_ln 596 = 8000 := by decide +kernel
theorem sn_597 : sh_ln 597 = 8000 := by decide +kernel
theorem nar0 : vp_nar .boolean 0 = 0 := by decide
theorem nar1 : vp_nar .boolean 1 = 1 := by decide
theorem ix1000 (a b : Nat) : (1000 : Int32) * Int32.ofNat a + Int32.ofNat b = Int32.ofNat (1000 * a + b) := by
  rw [show (1000 : Int32) = Int32.ofNat 1000 from rfl, zi_mul, zi_add]
section BES
variable {H : ab_H} {ρ : ab_R}
def WAY (H : ab_H) (ρ : ab_R) (a b w : Nat) : Prop := ¬ hasB (ρ 4) w = true ∧ ((hV H 1 w = Int32.ofNat a ∧ hV H 2 w = Int32.ofNat b) ∨ (hV H 2 w = Int32.ofNat a ∧ hV H 1 w = Int32.ofNat b))
theorem bes_F (ok : HOK H) {a b : Nat} (hb : b < hR H) : ∀ n i acc, i + n ≤ hW H → (hasB (zF (fun w acc => if hasB (ρ 4) w = true then acc else if hV H 1 w = Int32.ofNat a then acc ||| ((1 : Int32) <<< (hV H 2 w &&& 31)) else if hV H 2 w = Int32.ofNat a then acc ||| ((1 : Int32) <<< (hV H 1 w &&& 31)) else acc) n i acc) b = true ↔ (hasB acc b = true ∨ ∃ w, i ≤ w ∧ w < i + n ∧ WAY H ρ a b w)) := by
  have h8 := ok.1
  intro n
  induction n with
  | zero =>
    intro i acc _
    exact ⟨Or.inl, fun h => h.elim id (fun ⟨o, h1, h2, _⟩ => by omega)⟩
  | succ n ih =>
    intro i acc hi
    show hasB (zF _ n (i + 1) _) b = true ↔ _
    rw [ih _ _ (by omega)]
    dsimp only
    obtain ⟨⟨k1, hk1, e1⟩, ⟨k2, hk2, e2⟩, hne⟩ := ok.2.2.2.2.2.1 i (by omega)
    have key : (hasB (if hasB (ρ 4) i = true then acc else if hV H 1 i = Int32.ofNat a then acc ||| ((1 : Int32) <<< (hV H 2 i &&& 31)) else if hV H 2 i = Int32.ofNat a then acc ||| ((1 : Int32) <<< (hV H 1 i &&& 31)) else acc) b = true) ↔ (hasB acc b = true ∨ WAY H ρ a b i) := by
      unfold WAY
      by_cases c : hasB (ρ 4) i = true
      · rw [if_pos c]
        exact ⟨Or.inl, fun h => h.elim id (fun q => absurd c q.1)⟩
      · rw [if_neg c]
        by_cases c1 : hV H 1 i = Int32.ofNat a
        · rw [if_pos c1, e2, show ((1 : Int32) <<< (Int32.ofNat k2 &&& 31)) = bitI k2 from rfl, hasB_or (by omega), hasB_bit (by omega) (by omega), Bool.or_eq_true, decide_eq_true_iff]
          constructor
          · rintro (q | q)
            · exact Or.inl q
            · exact Or.inr ⟨c, Or.inl ⟨c1, by rw [q]⟩⟩
          · rintro (q | ⟨_, q | q⟩)
            · exact Or.inl q
            · exact Or.inr ((zi_inj (by omega) (by omega)).mp q.2)
            · exact absurd (c1.trans (q.1.symm.trans e2.symm)) hne
        · rw [if_neg c1]
          by_cases c2 : hV H 2 i = Int32.ofNat a
          · rw [if_pos c2, e1, show ((1 : Int32) <<< (Int32.ofNat k1 &&& 31)) = bitI k1 from rfl, hasB_or (by omega), hasB_bit (by omega) (by omega), Bool.or_eq_true, decide_eq_true_iff]
            constructor
            · rintro (q | q)
              · exact Or.inl q
              · exact Or.inr ⟨c, Or.inr ⟨c2, by rw [q]⟩⟩
            · rintro (q | ⟨_, q | q⟩)
              · exact Or.inl q
              · exact absurd (e1.trans q.1) c1
              · exact Or.inr ((zi_inj (by omega) (by omega)).mp q.2)
          · rw [if_neg c2]
            exact ⟨Or.inl, fun h => h.elim id (fun ⟨_, q⟩ => q.elim (fun q => absurd q.1 c1) (fun q => absurd q.1 c2))⟩
    rw [key]
    constructor
    · rintro ((q | q) | ⟨w, q1, q2, q3⟩)
      · exact Or.inl q
      · exact Or.inr ⟨i, by omega, by omega, q⟩
      · exact Or.inr ⟨w, by omega, by omega, q3⟩
    · rintro (q | ⟨w, q1, q2, q3⟩)
      · exact Or.inl (Or.inl q)
      · by_cases e : w = i
        · rw [e] at q3; exact Or.inl (Or.inr q3)
        · exact Or.inr ⟨w, by omega, by omega, q3⟩
theorem bes_has (ok : HOK H) {a b : Nat} (hb : b < hR H) : hasB (sp_bes H ρ (Int32.ofNat a)) b = true ↔ ∃ w, w < hW H ∧ WAY H ρ a b w := by
  unfold sp_bes
  rw [bes_F ok hb _ _ _ (by omega), hasB_0]
  exact ⟨fun h => h.elim (fun q => (by cases q)) (fun ⟨w, _, q2, q3⟩ => ⟨w, by omega, q3⟩), fun ⟨w, q2, q3⟩ => Or.inr ⟨w, by omega, by omega, q3⟩⟩
theorem bes_sym (ok : HOK H) {a b : Nat} (ha : a < hR H) (hb : b < hR H) : hasB (sp_bes H ρ (Int32.ofNat a)) b = true ↔ hasB (sp_bes H ρ (Int32.ofNat b)) a = true := by
  rw [bes_has ok hb, bes_has ok ha]
  exact ⟨fun ⟨w, h1, h2, h3⟩ => ⟨w, h1, h2, h3.elim (fun q => Or.inr ⟨q.2, q.1⟩) (fun q => Or.inl ⟨q.2, q.1⟩)⟩, fun ⟨w, h1, h2, h3⟩ => ⟨w, h1, h2, h3.elim (fun q => Or.inr ⟨q.2, q.1⟩) (fun q => Or.inl ⟨q.2, q.1⟩)⟩⟩
end BES
/-- the set, in the model -/
def MSt (σ : hp_I) (m : Nat) (P : Nat → Nat → Prop) : Prop := ∀ r z, r < 8 → z < 1000 → (σ m (1000 * r + z) = 0 ∨ σ m (1000 * r + z) = 1) ∧ (σ m (1000 * r + z) = 1 ↔ P r z)
abbrev SML : List Nat := [489, 490, 573, 574, 596, 597]
section MSL
variable {σ t : hp_I} {P Q : Nat → Nat → Prop} {s g m o z : Nat} {H : ab_H} {ρ : ab_R} {lw : ab_L}
theorem MSt.fr {σ' : hp_I} (h : MSt σ m P) (e : σ' m = σ m) : MSt σ' m P := by unfold MSt; rw [e]; exact h
theorem MSt.iff (h : MSt σ m P) (e : ∀ r z, r < 8 → z < 1000 → (P r z ↔ Q r z)) : MSt σ m Q := fun r z hr hz => ⟨(h r z hr hz).1, (h r z hr hz).2.trans (e r z hr hz)⟩
theorem MSt.put (h : MSt σ m P) {r y : Nat} (hr : r < 8) (hy : y < 1000) : MSt (hp_s σ m (1000 * r + y) 1) m (fun r' y' => P r' y' ∨ (r' = r ∧ y' = y)) := by
  intro r' y' hr' hy'
  by_cases e : 1000 * r' + y' = 1000 * r + y
  · rw [e, hs_at]
    exact ⟨Or.inr rfl, fun _ => Or.inr ⟨by omega, by omega⟩, fun _ => rfl⟩
  · rw [hs_ne (Or.inr e)]
    refine ⟨(h r' y' hr' hy').1, fun q => Or.inl ((h r' y' hr' hy').2.mp q), fun q => ?_⟩
    rcases q with q | q
    · exact (h r' y' hr' hy').2.mpr q
    · exact absurd (by omega) e
theorem sml_hm (ok : HOK H) (hm : HM σ H) (f : Fc SML σ t) : HM t H := hm.fr ok (f 56 (by decide)) (fun a ha => f _ (by simp; omega))
theorem sml_lm (lo : LOK lw) (lm : LM σ lw) (f : Fc SML σ t) : LM t lw := lm.fr lo.1 (by rw [f 52 (by decide)]) (fun a ha => f _ (by simp; omega))
theorem m_any (h : MSt σ 596 P) (hg : g < 8) : ∃ v, fn_M_mayBeIn 52 (Int32.ofNat g) σ = some v ∧ (v = 0 ↔ ¬ ∃ z, z < 1000 ∧ P g z) := by
  unfold fn_M_mayBeIn
  rw [e_let]
  have key : ∀ n j fu, n < fu → j + n = 1000 → (∀ z, z < j → ¬ P g z) → ∃ v, fn_M_mayBeIn_L2 52 (Int32.ofNat g) σ (px_z (0 : Int32) (0 : Int32)) fu (Int32.ofNat j) = some v ∧ (v = 0 ↔ ¬ ∃ z, z < 1000 ∧ P g z) := by
    intro n
    induction n with
    | zero =>
      intro j fu hf hj hz
      cases fu with
      | zero => omega
      | succ fu =>
        rw [fn_M_mayBeIn_L2, if_neg (show ¬ Int32.ofNat j < 1000 from zl_nlt (b := 1000) (by omega) (by omega)), e_z0]
        exact ⟨0, rfl, fun _ ⟨z, h1, h2⟩ => hz z (by omega) h2, fun _ => rfl⟩
    | succ n ih =>
      intro j fu hf hj hz
      cases fu with
      | zero => omega
      | succ fu =>
        rw [fn_M_mayBeIn_L2, if_pos (show Int32.ofNat j < 1000 from zl_lt (b := 1000) (by omega) (by omega)), sm_37, ix1000, zi_ald (by rw [sn_596]; omega) (by omega), e_bd]
        rcases (h g j hg (by omega)).1 with c | c
        · rw [if_pos c, e_let, zi_succ j]
          refine ih (j + 1) fu (by omega) (by omega) (fun z h1 h2 => ?_)
          by_cases e : z = j
          · rw [e] at h2
            have := (h g j hg (by omega)).2.mpr h2
            rw [c] at this
            exact absurd this (by decide)
          · exact hz z (by omega) h2
        · rw [if_neg (by rw [c]; decide), e_z1]
          exact ⟨1, rfl, fun q => absurd q (by decide), fun q => absurd ⟨j, by omega, (h g j hg (by omega)).2.mp c⟩ q⟩
  exact key 1000 0 FU (show 1000 < 100000 by omega) (by omega) (fun z hz => absurd hz (Nat.not_lt_zero _))
theorem rok_ins (ok : HOK H) (ro : ROK H ρ) (hs : s < hS H) (h2 : hasB (ρ 2) s = false) {e : Nat} (he : e < hR H) (h1 : 1 ≤ z) (hz : z ≤ 999) : ROK H (ins s (Int32.ofNat e) (Int32.ofNat z) ρ) := by
  have h8 := ok.2.2.1
  have h5 := ok.2.2.2.1
  obtain ⟨r1, r2, r3, r4, r5⟩ := ro
  refine ⟨fun q hq => ⟨?_, ?_⟩, fun q hq => ?_, ?_, ?_, ?_⟩
  · by_cases c : q = s
    · rw [c, ins_r (by omega)]; exact ⟨e, he, rfl⟩
    · rw [ins_n (by omega) (by omega) (by omega)]; exact (r1 q hq).1
  · by_cases c : q = s
    · rw [c, ins_z]; exact ⟨z, h1, hz, rfl⟩
    · rw [ins_n (by omega) (by omega) (by omega)]; exact (r1 q hq).2
  · rw [ins_n (by omega) (by omega) (by omega)]; exact r2 q hq
  · rw [ins_1]; exact zB_or (by omega) r3 (zB_bit hs h8)
  · rw [ins_n (by omega) (by omega) (by omega)]; exact r4
  · rw [ins_1, ins_n (by omega) (by omega) (by omega)]
    apply hasB_ext
    intro k hk
    have := congrArg (fun v => hasB v k) r5
    simp only [hasB_and hk, hasB_0] at this
    rw [hasB_and hk, hasB_or hk, hasB_0, hasB_bit (by omega) hk]
    by_cases c : s = k
    · rw [← c, h2, Bool.and_false]
    · rw [decide_eq_false c, Bool.or_false]; exact this
/-- one trial -/
theorem m_trial (hm : HM t H) (lm : LM t lw) (ok : HOK H) (lo : LOK lw) (rm : RM t 574 H ρ) (ro : ROK H ρ) (hs : s < hS H) (hd : hasB (ρ 1) s = false) (h2 : hasB (ρ 2) s = false) {e : Nat} (he : e < hR H) (h1 : 1 ≤ z) (hz : z ≤ 999) : ∃ s1 s2 s3 s4 s5, fn_M_copies 574 573 t = some s1 ∧ px_ald s1 573 42 = some (ρ 1) ∧ px_ast s1 573 42 (ρ 1 ||| ((1 : Int32) <<< (Int32.ofNat s &&& 31))) = some s2 ∧ px_ast s2 573 (0 + Int32.ofNat s) (Int32.ofNat e) = some s3 ∧ px_ast s3 573 (8 + Int32.ofNat s) (Int32.ofNat z) = some s4 ∧ fn_M_nightEnds 52 573 s4 = some s5 ∧ RM s5 573 H (sp_night H lw (ins s (Int32.ofNat e) (Int32.ofNat z) ρ)) ∧ Fc [489, 490, 573] t s5 := by
  have h8 := ok.2.2.1
  obtain ⟨s1, a1, a2, a3⟩ := ms_copyR ok (show 574 ≠ 573 by decide) sn_573 rm
  have b1 : RM (hp_s s1 573 42 (ρ 1 ||| bitI s)) 573 H (upd ρ 1 (ρ 1 ||| bitI s)) := a3.put ok (k := 1) (by decide)
  have b2 := b1.putS ok (k := 5) (b := 0) (q := s) (v := Int32.ofNat e) (by omega) (by omega) (by omega)
  have b3 := b2.putS ok (k := 13) (b := 8) (q := s) (v := Int32.ofNat z) (by omega) (by omega) (by omega)
  have f4 : Fc [489, 490, 573] t (hp_s (hp_s (hp_s s1 573 42 (ρ 1 ||| bitI s)) 573 (0 + s) (Int32.ofNat e)) 573 (8 + s) (Int32.ofNat z)) := (a2.mono (by decide)).trans (((Fc.put (by decide)).trans (Fc.put (by decide))).trans (Fc.put (by decide)))
  have f4' := f4.mono (T := SML) (by decide)
  obtain ⟨s5, g1, g2, g3⟩ := ms_nightEnds (Or.inr (Or.inl rfl)) (sml_hm ok hm f4') (sml_lm lo lm f4') b3 ok lo (rok_ins ok ro hs h2 he h1 hz)
  refine ⟨s1, hp_s s1 573 42 (ρ 1 ||| bitI s), hp_s (hp_s s1 573 42 (ρ 1 ||| bitI s)) 573 (0 + s) (Int32.ofNat e), hp_s (hp_s (hp_s s1 573 42 (ρ 1 ||| bitI s)) 573 (0 + s) (Int32.ofNat e)) 573 (8 + s) (Int32.ofNat z), s5, a1, rm_1 a3, ?_, ?_, ?_, g1, g2, f4.trans (g3.mono (by decide))⟩
  · exact zi_ast (a := 42) (by rw [sn_573]; decide) (by decide)
  · rw [show (0 : Int32) = Int32.ofNat 0 from rfl, zi_add]; exact zi_ast (by rw [sn_573]; omega) (by omega)
  · rw [show (8 : Int32) = Int32.ofNat 8 from rfl, zi_add]; exact zi_ast (by rw [sn_573]; omega) (by omega)
def mst (H : ab_H) (lw : ab_L) (ρ : ab_R) (s o z e y : Nat) : Prop := (e = o ∨ hasB (sp_bes H ρ (Int32.ofNat o)) e = true) ∧ Int32.ofNat y = gz H lw ρ s (Int32.ofNat e) (Int32.ofNat z) ∧ SVA H lw ρ s (Int32.ofNat e) (Int32.ofNat y)
theorem m_from (hm : HM t H) (lm : LM t lw) (ok : HOK H) (lo : LOK lw) (rm : RM t 574 H ρ) (ro : ROK H ρ) (hs : s < hS H) (hd : hasB (ρ 1) s = false) (h2 : hasB (ρ 2) s = false) (ho : o < hR H) (h1 : 1 ≤ z) (hz : z ≤ 999) (ms : MSt t 597 Q) : ∃ t', fn_M_slipsFrom 52 (Int32.ofNat s) (Int32.ofNat o) (Int32.ofNat z) t = some t' ∧ Fc [489, 490, 573, 597] t t' ∧ MSt t' 597 (fun e y => Q e y ∨ (e < hR H ∧ mst H lw ρ s o z e y)) := by
  have h8 := ok.2.2.1
  have hR8 := ok.1
  unfold fn_M_slipsFrom
  rw [sm_27, ms_beside hm rm ok, e_bd, e_let, e_let]
  refine zS (L := fun fu s' i => fn_M_slipsFrom_L18 52 (Int32.ofNat s) (Int32.ofNat z) (sp_bes H ρ (Int32.ofNat o) ||| bitI o) (fun s => some s) fu i s') (k := fun s => some s) (N := hR H) (i0 := 0) (s := t) (fun i s' => Fc [489, 490, 573, 597] t s' ∧ MSt s' 597 (fun e y => Q e y ∨ (e < i ∧ mst H lw ρ s o z e y))) (fun fu s' h => ?_) (fun fu i s' _ hi h => ?_) (by omega) (by omega) ⟨Fc.refl, ms.iff (fun e y _ _ => ⟨Or.inl, fun q => q.elim id (fun q => absurd q.1 (Nat.not_lt_zero _))⟩)⟩
  · try dsimp only
    rw [fn_M_slipsFrom_L18, sm_12, (hm_n (sml_hm ok hm (h.1.mono (by decide)))).1, e_bd, if_neg Int32.lt_irrefl]
  · try dsimp only
    have hm' : HM s' H := sml_hm ok hm (h.1.mono (by decide))
    have lm' : LM s' lw := sml_lm lo lm (h.1.mono (by decide))
    have rm' : RM s' 574 H ρ := rm.fr (h.1 574 (by decide))
    rw [fn_M_slipsFrom_L18, sm_12, (hm_n hm').1, e_bd, if_pos (zl_lt hi (by omega)), ms_has, e_bd, e_jn]
    have hb : hasB (sp_bes H ρ (Int32.ofNat o) ||| bitI o) i = true ↔ (i = o ∨ hasB (sp_bes H ρ (Int32.ofNat o)) i = true) := by
      rw [hasB_or (by omega), hasB_bit (by omega) (by omega), Bool.or_eq_true, decide_eq_true_iff]
      exact ⟨fun q => q.elim Or.inr (fun q => Or.inl q.symm), fun q => q.elim (fun q => Or.inr q.symm) Or.inl⟩
    have skip : ∀ s2 : hp_I, MSt s2 597 (fun e y => Q e y ∨ (e < i ∧ mst H lw ρ s o z e y)) → (∀ y, y < 1000 → ¬ mst H lw ρ s o z i y) → MSt s2 597 (fun e y => Q e y ∨ (e < i + 1 ∧ mst H lw ρ s o z e y)) := fun s2 k1 k2 => k1.iff (fun e y _ hy => by
      constructor
      · rintro (q | q)
        · exact Or.inl q
        · exact Or.inr ⟨by omega, q.2⟩
      · rintro (q | ⟨q1, q2⟩)
        · exact Or.inl q
        · by_cases c : e = i
          · rw [c] at q2; exact absurd q2 (k2 y hy)
          · exact Or.inr ⟨by omega, q2⟩)
    by_cases c : hasB (sp_bes H ρ (Int32.ofNat o) ||| bitI o) i = true
    · obtain ⟨s1, s2, s3, s4, s5, g1, g2, g3, g4, g5, g6, g7, g8⟩ := m_trial hm' lm' ok lo rm' ro hs hd h2 hi h1 hz
      rw [c, if_neg (by decide), sm_27, sm_26, g1, e_bd, g2, e_bd, g3, e_bd, g4, e_bd, g5, e_bd, g6, e_bd, ms_lives g7, e_bd]
      rcases night_ins (e := Int32.ofNat i) (z := Int32.ofNat z) (lw := lw) ok hs hd with ⟨n1, n2, n3⟩ | ⟨n1, n2⟩
      · obtain ⟨y, y1, y2, ey⟩ := gz_nat (lw := lw) (ρ := ρ) (s := s) ok hi h1 hz
        have hms : MSt s5 597 (fun e y => Q e y ∨ (e < i ∧ mst H lw ρ s o z e y)) := h.2.fr (g8 597 (by decide))
        refine ⟨hp_s s5 597 (1000 * i + y) 1, ?_, (h.1.trans (g8.mono (by decide))).trans (Fc.put (by decide)), (hms.put (r := i) (y := y) (by omega) (by omega)).iff (fun e y' _ hy' => ?_)⟩
        · rw [n2, if_neg (by decide), rm_13 g7 ok s hs, e_bd, n3, ey, sm_38, ix1000, nar1, zi_ast (by rw [sn_597]; omega) (by omega), e_bd]
          dsimp only
          rw [e_let, zi_succ i]
        · constructor
          · rintro ((q | q) | ⟨q1, q2⟩)
            · exact Or.inl q
            · exact Or.inr ⟨by omega, q.2⟩
            · rw [q1, q2]
              exact Or.inr ⟨by omega, hb.mp c, ey.symm, by rw [← ey]; exact n1⟩
          · rintro (q | ⟨q1, q2⟩)
            · exact Or.inl (Or.inl q)
            · by_cases ce : e = i
              · refine Or.inr ⟨ce, ?_⟩
                rw [ce] at q2
                have q3 := q2.2.1
                rw [ey] at q3
                exact (zi_inj (by omega) (by omega)).mp q3
              · exact Or.inl (Or.inr ⟨by omega, q2⟩)
      · refine ⟨s5, ?_, h.1.trans (g8.mono (by decide)), skip s5 (h.2.fr (g8 597 (by decide))) (fun y _ q => n1 (by rw [← q.2.1]; exact q.2.2))⟩
        rw [n2, if_pos (show bI false = 0 from rfl)]
        dsimp only
        rw [e_let, zi_succ i]
    · have c' : hasB (sp_bes H ρ (Int32.ofNat o) ||| bitI o) i = false := by simpa using c
      refine ⟨s', ?_, h.1, skip s' h.2 (fun y _ q => c (hb.mpr q.1))⟩
      rw [c', if_pos (show bI false = 0 from rfl)]
      dsimp only
      rw [e_let, zi_succ i]
end MSL

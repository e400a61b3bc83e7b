/-! SLIPS: spreading and growing -/
theorem ushr1 (x : Int32) {k : Nat} (hk : k < 32) : hasB (px_ushr x 1) k = (decide (k + 1 < 32) && hasB x (k + 1)) := by
  have e : hasB (px_ushr x 1) k = x.toBitVec.getLsbD (k + 1) := by
    rw [hasB_bv _ _ hk]
    rw [show (px_ushr x 1).toBitVec = x.toBitVec >>> 1 from rfl, BitVec.getLsbD_ushiftRight, Nat.add_comm]
  rw [e]
  by_cases c : k + 1 < 32
  · rw [decide_eq_true c, Bool.true_and, hasB_bv _ _ c]
  · rw [decide_eq_false c, Bool.false_and, BitVec.getLsbD_of_ge _ _ (by omega)]
theorem bit0 (x : Int32) : (x &&& 1 = 1) ↔ hasB x 0 = true := by
  rw [hasB_bv _ _ (by decide), ← and1_bit, decide_eq_true_iff]
theorem or_F (m : Int32) (g : Nat → Int32) {b : Nat} (hb : b < 32) : ∀ n i a, hasB (zF (fun o acc => if hasB m o = true then acc ||| g o else acc) n i a) b = true ↔ (hasB a b = true ∨ ∃ o, i ≤ o ∧ o < i + n ∧ hasB m o = true ∧ hasB (g o) b = true) := by
  intro n
  induction n with
  | zero =>
    intro i a
    exact ⟨Or.inl, fun h => h.elim id (fun ⟨o, h1, h2, _⟩ => by omega)⟩
  | succ n ih =>
    intro i a
    show hasB (zF _ n (i + 1) _) b = true ↔ _
    rw [ih]
    dsimp only
    by_cases c : hasB m i = true
    · rw [if_pos c, hasB_or hb, Bool.or_eq_true]
      constructor
      · rintro ((h | h) | ⟨o, h1, h2, h3⟩)
        · exact Or.inl h
        · exact Or.inr ⟨i, by omega, by omega, c, h⟩
        · exact Or.inr ⟨o, by omega, by omega, h3⟩
      · rintro (h | ⟨o, h1, h2, h3⟩)
        · exact Or.inl (Or.inl h)
        · by_cases e : o = i
          · rw [e] at h3; exact Or.inl (Or.inr h3.2)
          · exact Or.inr ⟨o, by omega, by omega, h3⟩
    · rw [if_neg c]
      constructor
      · rintro (h | ⟨o, h1, h2, h3⟩)
        · exact Or.inl h
        · exact Or.inr ⟨o, by omega, by omega, h3⟩
      · rintro (h | ⟨o, h1, h2, h3⟩)
        · exact Or.inl h
        · by_cases e : o = i
          · rw [e] at h3; exact absurd h3.1 c
          · exact Or.inr ⟨o, by omega, by omega, h3⟩
def SPd (H : ab_H) (ρ : ab_R) (P : Nat → Nat → Prop) (r z : Nat) : Prop := ∃ o, o < hR H ∧ (o = r ∨ hasB (sp_bes H ρ (Int32.ofNat r)) o = true) ∧ P o z
section SPR
variable {σ : hp_I} {P : Nat → Nat → Prop} {f l r z s : Nat} {H : ab_H} {ρ : ab_R} {lw : ab_L}
theorem c_spread (hx : HX σ H) (rx : RX σ 36 H ρ) (ok : HOK H) (h : PSt σ P f l) : ∃ s, fn_Slip_spread 42 35 σ = some s ∧ Fc [44] σ s ∧ ∀ r w b, r < hR H → f ≤ w → w < l → b < 32 → (hasB (s 44 (r * 32 + w)) b = true ↔ SPd H ρ P r (w * 32 + b)) := by
  have h8 := ok.1
  obtain ⟨hfl, hw, h0, hb⟩ := h
  unfold fn_Slip_spread
  rw [e_let]
  obtain ⟨s1, g1, g2, g3⟩ := zS (L := fun fu s i => fn_Slip_spread_L2 42 35 (fun s => some s) fu i s) (k := fun s => some s) (N := hR H) (i0 := 0) (s := σ) (fun i s => Fc [44] σ s ∧ ∀ r w b, r < i → r < hR H → f ≤ w → w < l → b < 32 → (hasB (s 44 (r * 32 + w)) b = true ↔ SPd H ρ P r (w * 32 + b))) (fun fu s h => by
      try dsimp only
      rw [fn_Slip_spread_L2, lf42_0, hx_R (hx.fr (fun i a b => h.1 i (by simp; omega))), if_neg Int32.lt_irrefl]) (fun fu i s _ hi h => by
      try dsimp only
      have hx' : HX s H := hx.fr (fun i a b => h.1 i (by simp; omega))
      rw [fn_Slip_spread_L2, lf42_0, hx_R hx', if_pos (zl_lt hi (by omega)), xs_besides so_35 hx' (rx.fr (h.1 36 (by decide))) ok, e_bd, e_let, e_let, h.1 42 (by decide), hw.1]
      obtain ⟨s', k1, k2, k3⟩ := zS (L := fun fu' s i' => fn_Slip_spread_L29 42 35 (Int32.ofNat i) (sp_bes H ρ (Int32.ofNat i) ||| bitI i) (fun (s_15 : hp_I) => px_let (Int32.ofNat i + 1) fun v2_16 => fn_Slip_spread_L2 42 35 (fun s => some s) fu v2_16 s_15) fu' i' s) (k := fun (s_15 : hp_I) => px_let (Int32.ofNat i + 1) fun v2_16 => fn_Slip_spread_L2 42 35 (fun s => some s) fu v2_16 s_15) (N := max f l) (i0 := f) (s := s) (fun j s => Fc [44] σ s ∧ ∀ r w b, (r < i ∨ (r = i ∧ w < j)) → r < hR H → f ≤ w → w < l → b < 32 → (hasB (s 44 (r * 32 + w)) b = true ↔ SPd H ρ P r (w * 32 + b))) (fun fu2 s2 h2 => by
          try dsimp only
          rw [fn_Slip_spread_L29, h2.1 42 (by decide), hw.2, if_neg (fun q => absurd ((le_l (by omega) (by omega)).mp q) (by omega))]) (fun fu2 j s2 hfj hj h2 => by
          try dsimp only
          have hx2 : HX s2 H := hx.fr (fun i a b => h2.1 i (by simp; omega))
          refine ⟨hp_s s2 44 (i * 32 + j) (zF (fun o acc => if hasB (sp_bes H ρ (Int32.ofNat i) ||| bitI i) o = true then acc ||| s2 43 (o * 32 + j) else acc) (hR H) 0 0), ?_, h2.1.trans (Fc.put (by decide)), fun r w b hc hr h3 h4 hb2 => ?_⟩
          · rw [fn_Slip_spread_L29, h2.1 42 (by decide), hw.2, if_pos ((le_l (by omega) (by omega)).mpr (by omega)), e_let, e_let]
            refine Eq.trans (zL_0 (L := fun fu' a i' => fn_Slip_spread_L44 42 35 (Int32.ofNat i) (sp_bes H ρ (Int32.ofNat i) ||| bitI i) (Int32.ofNat j) s2 (fun (y_12 : Int32) => Option.bind (px_ast s2 (sh_rf 42 3) ((Int32.ofNat i * (32 : Int32)) + Int32.ofNat j) y_12) fun s13 => px_let (Int32.ofNat j + 1) fun v4_14 => fn_Slip_spread_L29 42 35 (Int32.ofNat i) (sp_bes H ρ (Int32.ofNat i) ||| bitI i) (fun (s_15 : hp_I) => px_let (Int32.ofNat i + 1) fun v2_16 => fn_Slip_spread_L2 42 35 (fun s => some s) fu v2_16 s_15) fu2 v4_14 s13) fu' a i') (k := fun (y_12 : Int32) => Option.bind (px_ast s2 (sh_rf 42 3) ((Int32.ofNat i * (32 : Int32)) + Int32.ofNat j) y_12) fun s13 => px_let (Int32.ofNat j + 1) fun v4_14 => fn_Slip_spread_L29 42 35 (Int32.ofNat i) (sp_bes H ρ (Int32.ofNat i) ||| bitI i) (fun (s_15 : hp_I) => px_let (Int32.ofNat i + 1) fun v2_16 => fn_Slip_spread_L2 42 35 (fun s => some s) fu v2_16 s_15) fu2 v4_14 s13) (N := hR H) (fun o acc => if hasB (sp_bes H ρ (Int32.ofNat i) ||| bitI i) o = true then acc ||| s2 43 (o * 32 + j) else acc) (by omega) (fun fu3 a => ?_) (fun fu3 o a ho => ?_) 0) ?_
            · try dsimp only
              rw [fn_Slip_spread_L44, lf42_0, hx_R hx2, if_neg Int32.lt_irrefl]
            · try dsimp only
              rw [fn_Slip_spread_L44, lf42_0, hx_R hx2, if_pos (zl_lt ho (by omega)), e_jn]
              by_cases c : hasB (sp_bes H ρ (Int32.ofNat i) ||| bitI i) o = true
              · rw [if_pos (of_decide_eq_true c), if_pos c, lf42_2, ix32, zi_ald (by rw [ln_43]; omega) (by omega), e_bd, e_let]
                dsimp only
                rw [e_let, zi_succ o]
              · rw [if_neg (fun q => c (decide_eq_true q)), if_neg c]
                dsimp only
                rw [e_let, zi_succ o]
            · try dsimp only
              rw [lf42_3, ix32, zi_ast (by rw [ln_44]; omega) (by omega), e_bd, e_let, zi_succ j]
          · by_cases e : r * 32 + w = i * 32 + j
            · have e1 : r = i := by omega
              have e2 : w = j := by omega
              rw [e, hs_at, or_F _ _ hb2, e1, e2]
              unfold SPd
              constructor
              · rintro (q | ⟨o, q1, q2, q3, q4⟩)
                · rw [hasB_0] at q; cases q
                · rw [h2.1 43 (by decide), hb o j b (by omega) (by omega) hb2] at q4
                  rw [hasB_or (by omega), hasB_bit (by omega) (by omega), Bool.or_eq_true, decide_eq_true_iff] at q3
                  exact ⟨o, by omega, q3.elim Or.inr (fun q => Or.inl q.symm), q4⟩
              · rintro ⟨o, q2, q3, q4⟩
                refine Or.inr ⟨o, by omega, by omega, ?_, ?_⟩
                · rw [hasB_or (by omega), hasB_bit (by omega) (by omega), Bool.or_eq_true, decide_eq_true_iff]
                  exact q3.elim (fun q => Or.inr q.symm) Or.inl
                · rw [h2.1 43 (by decide), hb o j b (by omega) (by omega) hb2]; exact q4
            · rw [hs_ne (Or.inr e)]
              exact h2.2 r w b (by omega) hr h3 h4 hb2) (by omega) (by omega) ⟨h.1, fun r w b hc hr h3 h4 hb2 => h.2 r w b (by omega) hr h3 h4 hb2⟩
      refine ⟨s', ?_, k2, fun r w b hc hr h3 h4 hb2 => k3 r w b (by omega) hr h3 h4 hb2⟩
      exact k1.trans (by rw [e_let, zi_succ i])) (by omega) (by omega) ⟨Fc.refl, fun r w b hc => absurd hc (Nat.not_lt_zero _)⟩
  exact ⟨s1, g1, g2, fun r w b hr h3 h4 hb2 => g3 r w b hr hr h3 h4 hb2⟩
def gy (H : ab_H) (lw : ab_L) (s r : Nat) (cats n m : Int32) (z : Nat) : Int32 := px_min 999 (Int32.ofNat z + sp_gr lw (kn7 (Int32.ofNat z) (hV H 5 s) (hV H 0 r) cats n m (Int32.ofNat s)))
theorem gy_nat (cats n m : Int32) {z : Nat} (hz : z < 2000) : ∃ y : Nat, y ≤ 999 ∧ gy H lw s r cats n m z = Int32.ofNat y := by
  unfold gy
  obtain ⟨g, hg, e⟩ := sp_gr_lt lw (kn7 (Int32.ofNat z) (hV H 5 s) (hV H 0 r) cats n m (Int32.ofNat s))
  rw [e, zi_add, show (999 : Int32) = Int32.ofNat 999 from rfl, min_of (by omega) (by omega)]
  exact ⟨min 999 (z + g), by omega, rfl⟩
def QW (H : ab_H) (lw : ab_L) (P : Nat → Nat → Prop) (s r w : Nat) (cats n5 n6 m W : Int32) (j r' y : Nat) : Prop := P r' y ∨ (r' = r ∧ ∃ b, b < j ∧ hasB W b = true ∧ Int32.ofNat y = gy H lw s r cats n5 n6 (w * 32 + b) ∧ Int32.ofNat y ≤ m)
def FS (σ s : hp_I) : Prop := Fc [24, 25, 42, 43] σ s ∧ ∀ k, k < 7 → s 42 k = σ 42 k
theorem FS.trans {a b c : hp_I} (h1 : FS a b) (h2 : FS b c) : FS a c := ⟨h1.1.trans h2.1, fun k hk => (h2.2 k hk).trans (h1.2 k hk)⟩
theorem c_gword (hx : HX σ H) (lx : LX σ lw) (ok : HOK H) (lo : LOK lw) (hs : s < hS H) (h4 : σ 42 4 = Int32.ofNat s) (h : PSt σ P f l) (hr : r < hR H) {w : Nat} (hw : w < 32) (cats m : Int32) : ∃ s' f' l', fn_Slip_growWord 42 (Int32.ofNat r) (Int32.ofNat w) cats m σ = some s' ∧ PSt s' (QW H lw P s r w cats (σ 42 5) (σ 42 6) m (σ 44 (r * 32 + w)) 32) f' l' ∧ FS σ s' := by
  have h8 := ok.1
  have hS8 := ok.2.2.1
  unfold fn_Slip_growWord
  rw [lf42_3, ix32, zi_ald (by rw [ln_44]; omega) (by omega), e_bd, e_let, e_let]
  generalize hW : σ 44 (r * 32 + w) = W
  have key : ∀ n j fu x s1 f l, j + n = 32 → n < fu → (∀ k, k < 32 → hasB x k = (decide (j + k < 32) && hasB W (j + k))) → PSt s1 (QW H lw P s r w cats (σ 42 5) (σ 42 6) m W j) f l → FS σ s1 → ∃ s' f' l', fn_Slip_growWord_L16 42 (Int32.ofNat r) (Int32.ofNat w) cats m (fun s => some s) fu x (Int32.ofNat j) s1 = some s' ∧ PSt s' (QW H lw P s r w cats (σ 42 5) (σ 42 6) m W 32) f' l' ∧ FS σ s' := by
    intro n
    induction n with
    | zero =>
      intro j fu x s1 f l hj hf hxk hp fr
      cases fu with
      | zero => omega
      | succ fu =>
        have e : j = 32 := by omega
        subst e
        rw [fn_Slip_growWord_L16, if_neg (by decide)]
        exact ⟨s1, f, l, rfl, hp, fr⟩
    | succ n ih =>
      intro j fu x s1 f l hj hf hxk hp fr
      cases fu with
      | zero => omega
      | succ fu =>
        rw [fn_Slip_growWord_L16, if_pos (show Int32.ofNat j < 32 from zl_lt (b := 32) (by omega) (by decide))]
        by_cases c0 : x = 0
        · rw [if_pos c0]
          refine ⟨s1, f, l, rfl, hp.iff (fun r' y hr' hy => ?_), fr⟩
          unfold QW
          constructor
          · rintro (q | ⟨q1, b, q2, q3⟩)
            · exact Or.inl q
            · exact Or.inr ⟨q1, b, by omega, q3⟩
          · rintro (q | ⟨q1, b, q2, q3, q4⟩)
            · exact Or.inl q
            · refine Or.inr ⟨q1, b, ?_, q3, q4⟩
              apply Classical.byContradiction
              intro hn
              have h1 := hxk (b - j) (by omega)
              rw [c0, hasB_0, show j + (b - j) = b by omega, decide_eq_true q2, Bool.true_and, q3] at h1
              cases h1
        · rw [if_neg c0, e_jn]
          have hx1 : ∀ k, k < 32 → hasB (px_ushr x 1) k = (decide (j + 1 + k < 32) && hasB W (j + 1 + k)) := fun k hk => by
            rw [ushr1 x hk]
            by_cases c : k + 1 < 32
            · rw [decide_eq_true c, Bool.true_and, hxk (k + 1) c, show j + (k + 1) = j + 1 + k by omega]
            · rw [decide_eq_false c, Bool.false_and, decide_eq_false (by omega), Bool.false_and]
          have hb0 : hasB x 0 = hasB W j := by
            rw [hxk 0 (by decide), decide_eq_true (by omega), Bool.true_and, Nat.add_zero]
          by_cases c1 : x &&& 1 = 1
          · have hbj : hasB W j = true := by rw [← hb0]; exact (bit0 x).mp c1
            have hx' : HX s1 H := hx.fr (fun i a b => fr.1 i (by simp; omega))
            obtain ⟨s2, g1, g2⟩ := law_growth (lx.fr (fr.1 21 (by decide)) (fr.1 22 (by decide))) lo (Int32.ofNat (w * 32 + j)) (hV H 5 s) (hV H 0 r) cats (σ 42 5) (σ 42 6) (Int32.ofNat s)
            rw [if_pos c1, e_let, ix32, lf42_0, sh_p9, fr.2 4 (by decide), h4, hx_gr hx' ok s hs, e_bd, sh_p4, hx_hide hx' ok r hr, e_bd, lf42_1, fr.2 5 (by decide), fr.2 6 (by decide), g1, e_b2, e_let, e_let]
            obtain ⟨y, hy, ey⟩ := gy_nat (H := H) (lw := lw) (s := s) (r := r) cats (σ 42 5) (σ 42 6) (z := w * 32 + j) (by omega)
            have ey' : px_min 999 (Int32.ofNat (w * 32 + j) + sp_gr lw (kn7 (Int32.ofNat (w * 32 + j)) (hV H 5 s) (hV H 0 r) cats (σ 42 5) (σ 42 6) (Int32.ofNat s))) = Int32.ofNat y := ey
            rw [ey']
            have hp2 : PSt s2 (QW H lw P s r w cats (σ 42 5) (σ 42 6) m W j) f l := hp.fr (by rw [g2 42 (by decide)]) (by rw [g2 42 (by decide)]) (g2 43 (by decide))
            have fr2 : FS σ s2 := fr.trans ⟨g2.mono (by decide), fun k hk => by rw [g2 42 (by decide)]⟩
            by_cases c2 : Int32.ofNat y ≤ m
            · obtain ⟨s3, f3, l3, k1, k2, k3, k4⟩ := c_add hp2 (r := r) (z := y) (by omega) (by omega)
              rw [if_pos c2, k1, e_bd]
              dsimp only
              rw [e_let, e_let, zi_succ j]
              refine ih (j + 1) fu _ s3 f3 l3 (by omega) (by omega) hx1 (k2.iff (fun r' y' hr' hy' => ?_)) (fr2.trans ⟨k3.mono (by decide), k4⟩)
              unfold QW
              constructor
              · rintro ((q | ⟨q1, b, q2, q3⟩) | ⟨q1, q2⟩)
                · exact Or.inl q
                · exact Or.inr ⟨q1, b, by omega, q3⟩
                · exact Or.inr ⟨q1, j, by omega, hbj, by rw [q2]; exact ey.symm, by rw [q2]; exact c2⟩
              · rintro (q | ⟨q1, b, q2, q3, q4, q5⟩)
                · exact Or.inl (Or.inl q)
                · by_cases e : b = j
                  · rw [e, ey] at q4
                    exact Or.inr ⟨q1, (zi_inj (by omega) (by omega)).mp q4⟩
                  · exact Or.inl (Or.inr ⟨q1, b, by omega, q3, q4, q5⟩)
            · rw [if_neg c2]
              dsimp only
              rw [e_let, e_let, zi_succ j]
              refine ih (j + 1) fu _ s2 f l (by omega) (by omega) hx1 (hp2.iff (fun r' y' hr' hy' => ?_)) fr2
              unfold QW
              constructor
              · rintro (q | ⟨q1, b, q2, q3⟩)
                · exact Or.inl q
                · exact Or.inr ⟨q1, b, by omega, q3⟩
              · rintro (q | ⟨q1, b, q2, q3, q4, q5⟩)
                · exact Or.inl q
                · by_cases e : b = j
                  · rw [e, ey] at q4
                    exact absurd (by rw [← q4]; exact q5) c2
                  · exact Or.inr ⟨q1, b, by omega, q3, q4, q5⟩
          · have hbj : ¬ hasB W j = true := fun q => c1 ((bit0 x).mpr (by rw [hb0]; exact q))
            rw [if_neg c1]
            dsimp only
            rw [e_let, e_let, zi_succ j]
            refine ih (j + 1) fu _ s1 f l (by omega) (by omega) hx1 (hp.iff (fun r' y' hr' hy' => ?_)) fr
            unfold QW
            constructor
            · rintro (q | ⟨q1, b, q2, q3⟩)
              · exact Or.inl q
              · exact Or.inr ⟨q1, b, by omega, q3⟩
            · rintro (q | ⟨q1, b, q2, q3, q4⟩)
              · exact Or.inl q
              · by_cases e : b = j
                · rw [e] at q3; exact absurd q3 hbj
                · exact Or.inr ⟨q1, b, by omega, q3, q4⟩
  refine key 32 0 FU W σ f l (by omega) (show 32 < 100000 by omega) (fun k hk => by rw [Nat.zero_add, decide_eq_true hk, Bool.true_and]) (h.iff (fun r' y _ _ => ⟨Or.inl, fun q => q.elim id (fun ⟨_, b, q2, _⟩ => absurd q2 (Nat.not_lt_zero _))⟩)) ⟨Fc.refl, fun _ _ => rfl⟩
end SPR

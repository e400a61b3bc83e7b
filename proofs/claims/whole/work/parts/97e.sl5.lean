/-! SLIPS: growing all, the nights of the class -/
def NPI (H : ab_H) (P : Nat → Nat → Prop) : Prop := ∀ o z, P o z → o < hR H ∧ 1 ≤ z ∧ z ≤ 999
def nP (H : ab_H) (lw : ab_L) (ρ : ab_R) (s : Nat) (P : Nat → Nat → Prop) (e y : Nat) : Prop := e < hR H ∧ (1 ≤ y ∧ y ≤ 999) ∧ ∃ z, z ≤ 999 ∧ SPd H ρ P e z ∧ Int32.ofNat y = gz H lw ρ s (Int32.ofNat e) (Int32.ofNat z) ∧ SVA H lw ρ s (Int32.ofNat e) (Int32.ofNat y)
theorem nP_i {H : ab_H} {lw : ab_L} {ρ : ab_R} {s : Nat} {P : Nat → Nat → Prop} : NPI H (nP H lw ρ s P) := fun _ _ h => ⟨h.1, h.2.1⟩
section GRW
variable {σ : hp_I} {P S : Nat → Nat → Prop} {f l r z s : Nat} {H : ab_H} {ρ : ab_R} {lw : ab_L}
theorem ngt_c (ok : HOK H) {c : Nat} (hc : c < hC H) : sp_night H lw ρ (37 + c) = ρ (37 + c) := by
  have h5 := ok.2.2.2.1
  have h8 := ok.2.2.1
  rw [ngt_k ok (Or.inr (by omega))]
  exact grow_k (Or.inr (by omega)) (hS H) 0 ρ (by omega)
theorem gy_gz (ok : HOK H) (hr : r < hR H) : gy H lw s r (bc (sp_cin H (sp_night H lw ρ) (Int32.ofNat r))) (ρ 0) (bc (ρ 2)) z = gz H lw ρ s (Int32.ofNat r) (Int32.ofNat z) := by
  have h8 := ok.1
  unfold gy gz
  rw [cin_ext (fun c hc => ngt_c ok hc), zi_nat (by omega)]
theorem gz_nat (ok : HOK H) (hr : r < hR H) (h1 : 1 ≤ z) (hz : z ≤ 999) : ∃ y : Nat, 1 ≤ y ∧ y ≤ 999 ∧ gz H lw ρ s (Int32.ofNat r) (Int32.ofNat z) = Int32.ofNat y := by
  unfold gz
  obtain ⟨g, hg, e⟩ := sp_gr_lt lw (kn7 (Int32.ofNat z) (hV H 5 s) (hV H 0 (Int32.ofNat r).toNatClampNeg) (bc (sp_cin H ρ (Int32.ofNat r))) (ρ 0) (bc (ρ 2)) (Int32.ofNat s))
  rw [e, zi_add, show (999 : Int32) = Int32.ofNat 999 from rfl, min_of (by omega) (by omega)]
  exact ⟨min 999 (z + g), by omega, by omega, rfl⟩
def GD (H : ab_H) (lw : ab_L) (ρ : ab_R) (s : Nat) (σ : hp_I) : Prop := HX σ H ∧ LX σ lw ∧ RX σ 36 H (sp_night H lw ρ) ∧ (σ 42 4 = Int32.ofNat s ∧ σ 42 5 = ρ 0 ∧ σ 42 6 = bc (ρ 2)) ∧ ∀ q, q < hC H → σ 37 q = oI (tk H (zF (tstep H) q 0 (sp_grown H lw ρ)) q)
theorem GD.fs {σ' : hp_I} (h : GD H lw ρ s σ) (f : FS σ σ') : GD H lw ρ s σ' := by
  obtain ⟨h1, h2, h3, h4, h5⟩ := h
  refine ⟨h1.fr (fun i a b => f.1 i (by simp; omega)), h2.fr (f.1 21 (by decide)) (f.1 22 (by decide)), h3.fr (f.1 36 (by decide)), ⟨?_, ?_, ?_⟩, fun q hq => ?_⟩
  · rw [f.2 4 (by decide)]; exact h4.1
  · rw [f.2 5 (by decide)]; exact h4.2.1
  · rw [f.2 6 (by decide)]; exact h4.2.2
  · rw [f.1 37 (by decide)]; exact h5 q hq
def QA (H : ab_H) (lw : ab_L) (ρ : ab_R) (s f l : Nat) (S : Nat → Nat → Prop) (j r y : Nat) : Prop := ∃ z, z < 1024 ∧ (f ≤ z / 32 ∧ z / 32 < l ∧ z / 32 < j) ∧ S r z ∧ Int32.ofNat y = gz H lw ρ s (Int32.ofNat r) (Int32.ofNat z) ∧ Int32.ofNat y ≤ lim H lw ρ s r
theorem c_grow (gd : GD H lw ρ s σ) (ok : HOK H) (lo : LOK lw) (hs : s < hS H) (h : PSt σ P f l) (h44 : ∀ r w b, r < hR H → f ≤ w → w < l → b < 32 → (hasB (σ 44 (r * 32 + w)) b = true ↔ S r (w * 32 + b))) : ∃ s' f' l', fn_Slip_growAll 42 35 σ = some s' ∧ PSt s' (fun r y => r < hR H ∧ QA H lw ρ s f l S 32 r y) f' l' ∧ FS σ s' := by
  have h8 := ok.1
  unfold fn_Slip_growAll
  have hfl := h.1
  obtain ⟨s1, a1, a2, a3, a4⟩ := c_clear h.sli
  have fs1 : FS σ s1 := ⟨a3.mono (by decide), a4⟩
  rw [e_let, e_let, a1, e_bd, e_let, h.2.1.1, h.2.1.2]
  obtain ⟨s2, g1, g2, f2, l2, g3⟩ := zS (L := fun fu s i => fn_Slip_growAll_L17 42 35 (Int32.ofNat f) (Int32.ofNat l - 1) (fun s => some s) fu i s) (k := fun s => some s) (N := hR H) (i0 := 0) (s := s1) (fun i s' => FS σ s' ∧ ∃ f' l', PSt s' (fun r y => r < i ∧ QA H lw ρ s f l S 32 r y) f' l') (fun fu s' h' => by
      try dsimp only
      rw [fn_Slip_growAll_L17, lf42_0, hx_R (gd.fs h'.1).1, if_neg Int32.lt_irrefl]) (fun fu i s' _ hi h' => by
      try dsimp only
      obtain ⟨fs', f', l', ps'⟩ := h'
      have gd' := gd.fs fs'
      rw [fn_Slip_growAll_L17, lf42_0, hx_R gd'.1, if_pos (zl_lt hi (by omega)), xs_catsIn so_35 gd'.1 gd'.2.2.1 ok, e_bd, xs_bc (sp_cin_lt H ok _ _), e_bd, e_let, xs_spared gd'.1 gd'.2.2.1 ok hi gd'.2.2.2.1.1 hs gd'.2.2.2.2, e_bd, e_let, e_let]
      obtain ⟨s3, k1, k2, f3, l3, k3⟩ := zS (L := fun fu' s' i' => fn_Slip_growAll_L52 42 35 (Int32.ofNat f) (Int32.ofNat l - 1) (Int32.ofNat i) (bc (sp_cin H (sp_night H lw ρ) (Int32.ofNat i))) (lim H lw ρ s i) (fun (s_15 : hp_I) => px_let (Int32.ofNat i + 1) fun v4_16 => fn_Slip_growAll_L17 42 35 (Int32.ofNat f) (Int32.ofNat l - 1) (fun s => some s) fu v4_16 s_15) fu' i' s') (k := fun (s_15 : hp_I) => px_let (Int32.ofNat i + 1) fun v4_16 => fn_Slip_growAll_L17 42 35 (Int32.ofNat f) (Int32.ofNat l - 1) (fun s => some s) fu v4_16 s_15) (N := max f l) (i0 := f) (s := s') (fun j s' => FS σ s' ∧ ∃ f' l', PSt s' (fun r y => (r < i ∧ QA H lw ρ s f l S 32 r y) ∨ (r = i ∧ QA H lw ρ s f l S j r y)) f' l') (fun fu2 s2 h2 => by
          try dsimp only
          rw [fn_Slip_growAll_L52, if_neg (fun q => absurd ((le_l (by omega) (by omega)).mp q) (by omega))]) (fun fu2 j s2 hfj hj h2 => by
          try dsimp only
          obtain ⟨fs2, f2, l2, ps2⟩ := h2
          have gd2 := gd.fs fs2
          obtain ⟨s3, f3, l3, b1, b2, b3⟩ := c_gword gd2.1 gd2.2.1 ok lo hs gd2.2.2.2.1.1 ps2 hi (w := j) (by omega) (bc (sp_cin H (sp_night H lw ρ) (Int32.ofNat i))) (lim H lw ρ s i)
          rw [gd2.2.2.2.1.2.1, gd2.2.2.2.1.2.2, fs2.1 44 (by decide)] at b2
          refine ⟨s3, ?_, fs2.trans b3, f3, l3, b2.iff (fun r' y hr' hy => ?_)⟩
          · rw [fn_Slip_growAll_L52, if_pos ((le_l (by omega) (by omega)).mpr (by omega)), b1, e_bd, e_let, zi_succ j]
          · unfold QW
            constructor
            · rintro ((q | ⟨q1, z, q2, q3, q4⟩) | ⟨q1, b, q2, q3, q4, q5⟩)
              · exact Or.inl q
              · exact Or.inr ⟨q1, z, q2, ⟨q3.1, q3.2.1, by omega⟩, q4⟩
              · rw [gy_gz ok hi] at q4
                rw [q1]
                exact Or.inr ⟨rfl, j * 32 + b, by omega, ⟨by omega, by omega, by omega⟩, (h44 i j b hi (by omega) (by omega) q2).mp q3, q4, q5⟩
            · rintro (q | ⟨q1, z, q2, q3, q4, q5, q6⟩)
              · exact Or.inl (Or.inl q)
              · by_cases e : z / 32 = j
                · rw [q1] at q4 q5 q6
                  have ez : j * 32 + z % 32 = z := by omega
                  exact Or.inr ⟨q1, z % 32, by omega, (h44 i j (z % 32) hi (by omega) (by omega) (by omega)).mpr (by rw [ez]; exact q4), by rw [gy_gz ok hi, ez]; exact q5, q6⟩
                · exact Or.inl (Or.inr ⟨q1, z, q2, ⟨q3.1, q3.2.1, by omega⟩, q4, q5, q6⟩)) (by omega) (by omega) ⟨fs', f', l', ps'.iff (fun r' y _ _ => ⟨Or.inl, fun q => q.elim id (fun ⟨_, z, _, q3, _⟩ => by omega)⟩)⟩
      refine ⟨s3, k1.trans (by rw [e_let, zi_succ i]), k2, f3, l3, k3.iff (fun r' y _ _ => ?_)⟩
      constructor
      · rintro (q | ⟨q1, z, q2, q3, q4⟩)
        · exact ⟨by omega, q.2⟩
        · exact ⟨by omega, z, q2, ⟨q3.1, q3.2.1, by omega⟩, q4⟩
      · rintro ⟨q1, z, q2, q3, q4⟩
        by_cases e : r' = i
        · exact Or.inr ⟨e, z, q2, ⟨q3.1, q3.2.1, by omega⟩, q4⟩
        · exact Or.inl ⟨by omega, z, q2, q3, q4⟩) (by omega) (by omega) ⟨fs1, 32, 0, a2.iff (fun r' y _ _ => ⟨fun q => q.elim, fun q => absurd q.1 (Nat.not_lt_zero _)⟩)⟩
  exact ⟨s2, f2, l2, g1, g3, g2⟩
theorem hR0 (ok : HOK H) : hR H ≤ 8 := ok.1
/-! the nights -/
abbrev SCL : List Nat := [24, 25, 36, 37, 42, 43, 44]
def CIn (H : ab_H) (σ : hp_I) (s : Nat) (ρ : ab_R) (P : Nat → Nat → Prop) (t : hp_I) : Prop := Fc SCL σ t ∧ RX t 36 H ρ ∧ t 42 4 = Int32.ofNat s ∧ ∃ f l, PSt t P f l
def Out (H : ab_H) (s : Nat) (ρ : ab_R) (P : Nat → Nat → Prop) : Prop := ROK H ρ ∧ (hasB (ρ 1) s = false ∧ hasB (ρ 2) s = false) ∧ NPI H P
/-- the first night on which it may be there -/
noncomputable def fN (H : ab_H) (lw : ab_L) (s g : Nat) : Nat → Nat → ab_R → (Nat → Nat → Prop) → Int32
  | 0, _, _, _ => -1
  | n + 1, i, ρ, P => @ite _ (∃ z, z < 1000 ∧ P g z) (Classical.propDecidable _) (Int32.ofNat i) (fN H lw s g n (i + 1) (sp_night H lw ρ) (nP H lw ρ s P))
theorem fN_no (g : Nat) : ∀ n i ρ P, (∀ o z, ¬ P o z) → fN H lw s g n i ρ P = -1 := by
  intro n
  induction n with
  | zero => intro i ρ P _; rfl
  | succ n ih =>
    intro i ρ P h
    rw [fN, if_neg (fun ⟨z, _, q⟩ => h _ z q)]
    exact ih _ _ _ (fun o z ⟨_, _, z', _, ⟨o', _, _, q⟩, _⟩ => h o' z' q)
end GRW

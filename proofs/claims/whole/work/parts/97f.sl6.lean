/-! SLIPS: the class's nights -/
section CNI
variable {σ t : hp_I} {P : Nat → Nat → Prop} {s g : Nat} {H : ab_H} {ρ : ab_R} {lw : ab_L}
theorem tmat_2 {q c : Nat} : tmat ρ q c 2 = ρ 2 ||| bitI q := by unfold tmat; rw [upd_n (by omega), upd_n (by omega), upd_n (by omega), upd_i]
theorem tstep_2 (ok : HOK H) (hs : s < hS H) {c : Nat} (hd : hasB (ρ 1) s = false) (h2 : hasB (ρ 2) s = false) : hasB (tstep H c ρ 2) s = false := by
  have h8 := ok.2.2.1
  unfold tstep
  cases ht : tk H ρ c with
  | none => exact h2
  | some q =>
    obtain ⟨hq, hl⟩ := tkl_ive ok ht
    show hasB (tmat ρ q c 2) s = false
    rw [tmat_2, hasB_or (by omega), h2, hasB_bit (by omega) (by omega), decide_eq_false (fun e => by rw [e, hd] at hl; cases hl)]
    rfl
theorem off_all (ok : HOK H) (hs : s < hS H) : ∀ n i ρ, hasB (ρ 1) s = false → hasB (ρ 2) s = false → hasB (zF (tstep H) n i ρ 2) s = false := by
  intro n
  induction n with
  | zero => intro i ρ _ h; exact h
  | succ n ih => intro i ρ h1 h2; exact ih (i + 1) _ (tstep_d ok hs h1) (tstep_2 ok hs h1 h2)
theorem out_night (ok : HOK H) (hs : s < hS H) (h : Out H s ρ P) : Out H s (sp_night H lw ρ) (nP H lw ρ s P) := by
  have h8 := ok.2.2.1
  obtain ⟨h1, h2, h3⟩ := h
  have g1 : hasB (sp_grown H lw ρ 1) s = false := by
    rw [show sp_grown H lw ρ 1 = ρ 1 from grow_k (Or.inl (by decide)) (hS H) 0 ρ (by omega)]; exact h2.1
  have g2 : hasB (sp_grown H lw ρ 2) s = false := by
    rw [show sp_grown H lw ρ 2 = ρ 2 from grow_k (Or.inl (by decide)) (hS H) 0 ρ (by omega)]; exact h2.2
  refine ⟨rok_night ok h1, ⟨?_, ?_⟩, nP_i⟩
  · unfold sp_night sp_taken
    rw [upd_n (by omega)]
    exact dead_all ok hs _ _ _ g1
  · unfold sp_night sp_taken
    rw [upd_n (by omega)]
    exact off_all ok hs _ _ _ g1 g2
theorem qa_np (ok : HOK H) (o : Out H s ρ P) {f l r y : Nat} (ps : ∃ t, PSt t P f l) (hy : y < 1024) : (r < hR H ∧ QA H lw ρ s f l (SPd H ρ P) 32 r y) ↔ nP H lw ρ s P r y := by
  have h8 := ok.1
  obtain ⟨t, ps⟩ := ps
  constructor
  · rintro ⟨hr, z, q1, q2, q3, q4, q5⟩
    obtain ⟨o', p1, p2, p3⟩ := q3
    have hz := o.2.2 o' z p3
    obtain ⟨y', k1, k2, k3⟩ := gz_nat (lw := lw) (ρ := ρ) (s := s) ok hr hz.2.1 hz.2.2
    rw [k3] at q4
    have ey : y = y' := (zi_inj (by omega) (by omega)).mp q4
    refine ⟨hr, by omega, z, hz.2.2, ⟨o', p1, p2, p3⟩, by rw [k3]; exact q4, (lim_iff ok o.1 hr (by omega)).mp q5⟩
  · rintro ⟨hr, h1, z, q1, q3, q4, q5⟩
    obtain ⟨o', p1, p2, p3⟩ := q3
    have hin := ps.in (r := o') (z := z) (by omega) (by omega) p3
    exact ⟨hr, z, by omega, ⟨hin.1, hin.2, by omega⟩, ⟨o', p1, p2, p3⟩, q4, (lim_iff ok o.1 hr (by omega)).mpr q5⟩
theorem c_night (hx : HX σ H) (lx : LX σ lw) (ok : HOK H) (lo : LOK lw) (hs : s < hS H) (hg : g < hR H) : ∀ cnt n fu t ρ P, n + cnt = 41 → cnt < fu → Out H s ρ P → CIn H σ s ρ P t → ∃ t', fn_Slip_fewestNights_L59 42 35 (Int32.ofNat g) (fun (s_26 : hp_I) => some ((-1 : Int32), s_26)) fu (Int32.ofNat n) t = some (fN H lw s g cnt n (sp_night H lw ρ) (nP H lw ρ s P), t') ∧ Fc SCL σ t' ∧ SLI t' := by
  have h8 := ok.1
  intro cnt
  induction cnt with
  | zero =>
    intro n fu t ρ P hn hf o ci
    cases fu with
    | zero => omega
    | succ fu =>
      obtain ⟨c1, c2, c3, f, l, ps⟩ := ci
      rw [fn_Slip_fewestNights_L59, if_neg (show ¬ Int32.ofNat n ≤ 40 from zl_nle (b := 40) (by omega) (by omega))]
      exact ⟨t, rfl, c1, ps.sli⟩
  | succ cnt ih =>
    intro n fu t ρ P hn hf o ci
    cases fu with
    | zero => omega
    | succ fu =>
      obtain ⟨c1, c2, c3, f, l, ps⟩ := ci
      have hfl := ps.1
      rw [fn_Slip_fewestNights_L59, if_pos (show Int32.ofNat n ≤ 40 from zl_le (b := 40) (by omega) (by omega)), ps.2.1.1, ps.2.1.2]
      by_cases c : f < l
      · rw [if_pos ((le_l (by omega) (by omega)).mpr c)]
        have hx1 : HX t H := hx.fr (fun i a b => c1 i (by simp; omega))
        have lx1 : LX t lw := lx.fr (c1 21 (by decide)) (c1 22 (by decide))
        obtain ⟨s1, a1, a2, a3⟩ := c_spread hx1 c2 ok ps
        have rx1 : RX s1 36 H ρ := c2.fr (a2 36 (by decide))
        rw [a1, e_bd, xs_night so_35 rx1, e_bd, e_let]
        have rx2 : RX (hp_s s1 42 5 (ρ 0)) 36 H ρ := rx1.fr (hp_s_n (by decide))
        rw [xs_onMat so_35 rx2, e_bd, xs_bc (mat_256 ok o.1), e_bd, e_let]
        have rx3 : RX (hp_s (hp_s s1 42 5 (ρ 0)) 42 6 (bc (ρ 2))) 36 H ρ := rx2.fr (hp_s_n (by decide))
        have f3 : Fc [42, 44] t (hp_s (hp_s s1 42 5 (ρ 0)) 42 6 (bc (ρ 2))) := (a2.mono (by decide)).trans ((Fc.put (by decide)).trans (Fc.put (by decide)))
        have hx3 : HX (hp_s (hp_s s1 42 5 (ρ 0)) 42 6 (bc (ρ 2))) H := hx1.fr (fun i a b => f3 i (by simp; omega))
        have lx3 : LX (hp_s (hp_s s1 42 5 (ρ 0)) 42 6 (bc (ρ 2))) lw := lx1.fr (f3 21 (by decide)) (f3 22 (by decide))
        obtain ⟨s4, b1, b2, b3, b4⟩ := xs_passNight so_35 hx3 lx3 rx3 ok lo o.1
        rw [b1, e_b2]
        have e42 : s4 42 = hp_s (hp_s s1 42 5 (ρ 0)) 42 6 (bc (ρ 2)) 42 := b3 42 (by decide)
        have e43 : s4 43 = t 43 := (b3 43 (by decide)).trans (f3 43 (by decide))
        have e44 : s4 44 = s1 44 := (b3 44 (by decide)).trans ((hp_s_n (by decide)).trans (hp_s_n (by decide)))
        have t42 : s1 42 = t 42 := a2 42 (by decide)
        have gd : GD H lw ρ s s4 := by
          refine ⟨hx3.fr (fun i a b => b3 i (by simp; omega)), lx3.fr (b3 21 (by decide)) (b3 22 (by decide)), b2, ⟨?_, ?_, ?_⟩, b4⟩
          · rw [e42, hs_ne (by omega), hs_ne (by omega), t42]; exact c3
          · rw [e42, hs_ne (by omega), hs_at]
          · rw [e42, hs_at]
        have ps4 : PSt s4 P f l := ps.fr (by rw [e42, hs_ne (by omega), hs_ne (by omega), t42]) (by rw [e42, hs_ne (by omega), hs_ne (by omega), t42]) e43
        obtain ⟨s5, f5, l5, d1, d2, d3⟩ := c_grow gd ok lo hs ps4 (S := SPd H ρ P) (fun r w b h1 h2 h3 h4 => by rw [e44]; exact a3 r w b h1 h2 h3 h4)
        have d2' : PSt s5 (nP H lw ρ s P) f5 l5 := d2.iff (fun r y _ hy => qa_np ok o ⟨t, ps⟩ hy)
        obtain ⟨v, m1, m2⟩ := c_any d2' (r := g) (by omega)
        have fr5 : Fc SCL σ s5 := c1.trans ((f3.mono (by decide)).trans ((b3.mono (by decide)).trans (d3.1.mono (by decide))))
        have m3 : (∃ z, z < 1024 ∧ nP H lw ρ s P g z) ↔ (∃ z, z < 1000 ∧ nP H lw ρ s P g z) := ⟨fun ⟨z, _, q⟩ => ⟨z, by have := q.2.1; omega, q⟩, fun ⟨z, h, q⟩ => ⟨z, by omega, q⟩⟩
        rw [d1, e_bd, m1, e_bd, fN]
        by_cases cv : v = 0
        · rw [if_pos cv, if_neg (fun q => (m2.mp cv) (m3.mpr q)), e_let, zi_succ n]
          exact ih (n + 1) fu s5 (sp_night H lw ρ) (nP H lw ρ s P) (by omega) (by omega) (out_night ok hs o) ⟨fr5, gd.2.2.1.fr (d3.1 36 (by decide)), by rw [d3.2 4 (by decide)]; exact gd.2.2.2.1.1, f5, l5, d2'⟩
        · rw [if_neg cv, if_pos (Classical.byContradiction (fun q => cv (m2.mpr (fun w => q (m3.mp w)))))]
          exact ⟨s5, rfl, fr5, d2'.sli⟩
      · rw [if_neg (fun q => c ((le_l (by omega) (by omega)).mp q))]
        have hno : ∀ o' z, ¬ P o' z := fun o' z q => by
          have h1 := o.2.2 o' z q
          have h2 := ps.in (r := o') (z := z) (by omega) (by omega) q
          omega
        rw [fN_no g _ _ _ _ (fun o' z ⟨_, _, z', _, ⟨o2, _, _, q⟩, _⟩ => hno o2 z' q)]
        exact ⟨t, rfl, c1, ps.sli⟩
/-- the first pair -/
def P0 (ρ : ab_R) (s r z : Nat) : Prop := Int32.ofNat r = ρ (5 + s) ∧ Int32.ofNat z = ρ (13 + s)
def lvo (s : Nat) (ρ : ab_R) : ab_R := upd ρ 1 (ρ 1 &&& (bitI s ^^^ (-1)))
/-- what both answer -/
noncomputable def slA (H : ab_H) (lw : ab_L) (ρ : ab_R) (s g : Nat) : Int32 := if hasB (ρ 1) s = true then fN H lw s g 41 0 (lvo s ρ) (fun r z => r < 8 ∧ z < 1000 ∧ P0 ρ s r z) else -1
theorem out_0 (ok : HOK H) (hs : s < hS H) (ro : ROK H ρ) (hl : hasB (ρ 1) s = true) : Out H s (lvo s ρ) (fun r z => r < 8 ∧ z < 1000 ∧ P0 ρ s r z) := by
  have h8 := ok.2.2.1
  have hR8 := ok.1
  refine ⟨rok_live ok ro, ⟨?_, ?_⟩, fun o z ⟨h1, h2, h3, h4⟩ => ?_⟩
  · unfold lvo
    rw [upd_i, hasB_and (by omega), hasB_not (by omega), hasB_bit (by omega) (by omega), decide_eq_true rfl]
    simp
  · unfold lvo
    rw [upd_n (by omega)]
    have h5 := congrArg (fun v => hasB v s) ro.2.2.2.2
    simp only [hasB_and (show s < 32 by omega), hl, Bool.true_and, hasB_0] at h5
    exact h5
  · obtain ⟨⟨r, hr, er⟩, y, y1, y2, ey⟩ := ro.1 s hs
    rw [er] at h3
    rw [ey] at h4
    have e1 : o = r := (zi_inj (by omega) (by omega)).mp h3
    have e2 : z = y := (zi_inj (by omega) (by omega)).mp h4
    omega
theorem c_few (hx : HX σ H) (lx : LX σ lw) (ok : HOK H) (lo : LOK lw) (ro : ROK H ρ) (rx : RX σ 36 H ρ) (sl : SLI σ) (hs : s < hS H) (hg : g < hR H) : ∃ t', fn_Slip_fewestNights 42 35 (Int32.ofNat s) (Int32.ofNat g) σ = some (slA H lw ρ s g, t') ∧ Fc SCL σ t' ∧ SLI t' := by
  have h8 := ok.1
  have hS8 := ok.2.2.1
  unfold fn_Slip_fewestNights slA
  rw [xs_lives so_35 rx, e_bd]
  by_cases hl : hasB (ρ 1) s = true
  · obtain ⟨⟨r, hr, er⟩, y, y1, y2, ey⟩ := ro.1 s hs
    rw [hl, if_neg (by decide), if_pos rfl, xs_roomOf so_35 rx ok s hs, e_bd, e_let, er, fN]
    by_cases ce : Int32.ofNat r = Int32.ofNat g
    · rw [if_pos ce, if_pos ⟨y, by omega, by omega, by omega, by rw [er, ce], ey.symm⟩]
      exact ⟨σ, rfl, Fc.refl, sl⟩
    · have hne : ¬ ∃ z, z < 1000 ∧ (g < 8 ∧ z < 1000 ∧ P0 ρ s g z) := fun ⟨z, _, _, _, q, _⟩ => ce (by rw [← er]; exact q.symm)
      rw [if_neg ce, if_neg hne, e_let]
      have sl1 : SLI (hp_s σ 42 4 (Int32.ofNat s)) := by
        obtain ⟨f, l, k1, k2, k3⟩ := sl
        exact ⟨f, l, k1, ⟨by rw [hs_ne (by omega)]; exact k2.1, by rw [hs_ne (by omega)]; exact k2.2⟩, fun r w h1 h2 h3 => by rw [hs_ne (by omega)]; exact k3 r w h1 h2 h3⟩
      obtain ⟨s1, a1, a2, a3, a4⟩ := c_clear sl1
      have f1 : Fc [42, 43] σ s1 := (Fc.put (by decide)).trans a3
      have e4 : s1 42 4 = Int32.ofNat s := by rw [a4 4 (by decide), hs_at]
      have rx1 : RX s1 36 H ρ := rx.fr (f1 36 (by decide))
      obtain ⟨s2, f2, l2, b1, b2, b3, b4⟩ := c_add a2 (r := r) (z := y) (by omega) (by omega)
      have e5 : s2 42 4 = Int32.ofNat s := by rw [b4 4 (by decide), e4]
      have rx2 : RX s2 36 H ρ := rx1.fr (b3 36 (by decide))
      rw [a1, e_bd, e4, xs_size so_35 rx1 ok s hs, e_bd, ey, b1, e_bd, e5]
      unfold fn_State_leaveOut
      rw [so_35.2.2.1, show (1 : Int32) = Int32.ofNat 1 from rfl, zi_ald (by rw [so_35.2.2.2.2.1]; decide) (by decide), e_bd, zi_ast (by rw [so_35.2.2.2.2.1]; decide) (by decide), e_bd, e_bd, e_let]
      have r1 : s2 36 1 = ρ 1 := rx2.2 1 (Or.inl (by decide))
      have rx3 : RX (hp_s s2 36 1 (s2 36 1 &&& (bitI s ^^^ (-1)))) 36 H (lvo s ρ) := by rw [r1]; exact rx2.put
      have ps3 : PSt (hp_s s2 36 1 (s2 36 1 &&& (bitI s ^^^ (-1)))) (fun r z => r < 8 ∧ z < 1000 ∧ P0 ρ s r z) f2 l2 := by
        refine (b2.fr (by rw [hs_ne (by omega)]) (by rw [hs_ne (by omega)]) (hp_s_n (by decide))).iff (fun r' z' hr' hz' => ?_)
        constructor
        · rintro (q | ⟨q1, q2⟩)
          · exact q.elim
          · rw [q1, q2]; exact ⟨by omega, by omega, er.symm, ey.symm⟩
        · rintro ⟨q1, q2, q3, q4⟩
          rw [er] at q3
          rw [ey] at q4
          exact Or.inr ⟨(zi_inj (by omega) (by omega)).mp q3, (zi_inj (by omega) (by omega)).mp q4⟩
      exact c_night hx lx ok lo hs hg 40 1 FU (hp_s s2 36 1 (s2 36 1 &&& (bitI s ^^^ (-1)))) (lvo s ρ) _ (by omega) (show 40 < 100000 by omega) (out_0 ok hs ro hl) ⟨((f1.mono (by decide)).trans (b3.mono (by decide))).trans (Fc.put (by decide)), rx3, by rw [hs_ne (by omega)]; exact e5, f2, l2, ps3⟩
  · have hl' : hasB (ρ 1) s = false := by simpa using hl
    rw [hl', if_pos (show bI false = 0 from rfl), if_neg (by decide)]
    exact ⟨σ, rfl, Fc.refl, sl⟩
end CNI

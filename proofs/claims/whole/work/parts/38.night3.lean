section N3
variable {σ : hp_I} {H : ab_H} {lw : ab_L} {ρ : Nat → Int32} {o r c m : Nat}
theorem so_ne (so : SO o r c) : r ≠ 21 ∧ r ≠ 22 ∧ r ≠ 24 ∧ r ≠ 25 ∧ 11 < r ∧ c ≠ 21 ∧ c ≠ 22 ∧ c ≠ 24 ∧ c ≠ 25 ∧ 11 < c ∧ r ≠ c := by
  rcases so.2.2.2.2.2.2 with ⟨rfl, rfl⟩ | ⟨rfl, rfl⟩ <;> decide
/-- what stays while a State of the class goes through a night -/
def NI (σ : hp_I) (H : ab_H) (lw : ab_L) (r c : Nat) (s : hp_I) (ρ : Nat → Int32) : Prop := HX s H ∧ LX s lw ∧ RX s r H ρ ∧ ROK H ρ ∧ Fc [r, c, 24, 25] σ s
theorem NI.step {s s' : hp_I} {ρ ρ' : Nat → Int32} (so : SO o r c) (h : NI σ H lw r c s ρ) (hf : Fc [r, c, 24, 25] s s') (rx : RX s' r H ρ') (ro : ROK H ρ') : NI σ H lw r c s' ρ' := by
  obtain ⟨n1, n2, n3, n4, n5, n6, n7, n8, n9, n10, n11⟩ := so_ne so
  refine ⟨h.1.fr (fun i h1 h2 => hf i (fun hm => ?_)), h.2.1.fr (hf 21 (fun hm => ?_)) (hf 22 (fun hm => ?_)), rx, ro, h.2.2.2.2.trans hf⟩
  · simp only [List.mem_cons, List.not_mem_nil, or_false] at hm; omega
  · simp only [List.mem_cons, List.not_mem_nil, or_false] at hm; omega
  · simp only [List.mem_cons, List.not_mem_nil, or_false] at hm; omega
theorem xs_passA (so : SO o r c) (ok : HOK H) (lo : LOK lw) (k : hp_I → Option (Int32 × hp_I)) (h0 : NI σ H lw r c σ ρ) : ∃ s', fn_State_passNight_L2 o k FU 0 σ = k s' ∧ NI σ H lw r c s' (sp_grown H lw ρ) := by
  have hn := ok.2.2.1
  obtain ⟨n1, n2, n3, n4, n5, n6, n7, n8, n9, n10, n11⟩ := so_ne so
  refine zL_R0 (L := fun fu a i => fn_State_passNight_L2 o k fu i a) (N := hS H) (gstep H lw) (fun _ s ρ => NI σ H lw r c s ρ) (by omega) (fun fu s ρ h => ?_) (fun fu i s ρ hi h => ?_) σ ρ h0
  · rw [fn_State_passNight_L2]
    simp only [so.1, hx_S h.1, Int32.lt_irrefl, if_false]
  · obtain ⟨hx, lx, rx, ro, fr⟩ := h
    rw [fn_State_passNight_L2]
    simp only [so.1, hx_S hx, zi_lt (show i < 2147483648 by omega) (show hS H < 2147483648 by omega), hi, if_true, xs_lives so rx i, e_bd, e_jn, e_let, zi_succ, bI_0]
    by_cases hb : hasB (ρ 1) i = true
    · obtain ⟨s1, g1, g2⟩ := xs_growthOf so hx lx rx ok lo ro i hi
      have rx1 : RX s1 r H ρ := rx.fr (g2 r (by simp only [List.mem_cons, List.not_mem_nil, or_false]; omega))
      simp only [hb, Bool.true_eq_false, if_false, g1, e_b2, xs_enlarge so rx1 ok i hi, e_bd]
      refine ⟨_, rfl, ?_⟩
      have hg : gstep H lw i ρ = upd ρ (13 + i) (px_min 999 (ρ (13 + i) + sp_more H lw ρ i)) := by unfold gstep; rw [if_pos hb]
      rw [hg]
      refine NI.step so ⟨hx, lx, rx, ro, fr⟩ ((g2.mono (by intro j hj; simp only [List.mem_cons, List.not_mem_nil, or_false] at hj ⊢; omega)).trans (Fc.put (by simp))) rx1.put ?_
      rw [← hg]
      exact rok_grow ok ro hi
    · have hb2 : hasB (ρ 1) i = false := by cases h9 : hasB (ρ 1) i with
        | true => exact absurd h9 hb
        | false => rfl
      simp only [hb2, if_true]
      refine ⟨s, rfl, ?_⟩
      unfold gstep
      rw [if_neg hb]
      exact ⟨hx, lx, rx, ro, fr⟩
/-- the second half: what the cats take; the bits of those that took, and what each took -/
def NB (σ : hp_I) (H : ab_H) (lw : ab_L) (r c : Nat) (ρ1 : Nat → Int32) (i : Nat) (a : Int32 × hp_I) (b : (Nat → Int32) × Int32) : Prop := NI σ H lw r c a.2 b.1 ∧ a.1 = b.2 ∧ b.1 = zF (tstep H) i 0 ρ1 ∧ ∀ q, q < i → a.2 c q = oI (tk H (zF (tstep H) q 0 ρ1) q)
theorem zF_snoc {α : Type} (f : Nat → α → α) : ∀ (n i : Nat) (a : α), zF f (n + 1) i a = f (i + n) (zF f n i a) := by
  intro n
  induction n with
  | zero => intro i a; rfl
  | succ n ih =>
    intro i a
    show zF f (n + 1) (i + 1) (f i a) = _
    rw [ih (i + 1) (f i a), show i + 1 + n = i + (n + 1) by omega]
    rfl
theorem xs_passB (so : SO o r c) (ok : HOK H) (k : Int32 → hp_I → Option (Int32 × hp_I)) {ρ1 : Nat → Int32} {s1 : hp_I} (h0 : NI σ H lw r c s1 ρ1) : ∃ a' : Int32 × hp_I, fn_State_passNight_L41 o k FU 0 0 s1 = k a'.1 a'.2 ∧ NB σ H lw r c ρ1 (hC H) a' (zF (tkb H) (hC H) 0 (ρ1, 0)) := by
  have hn := ok.2.2.2.1
  obtain ⟨n1, n2, n3, n4, n5, n6, n7, n8, n9, n10, n11⟩ := so_ne so
  refine zL_R0 (L := fun fu (a : Int32 × hp_I) i => fn_State_passNight_L41 o k fu a.1 i a.2) (k := fun a => k a.1 a.2) (N := hC H) (tkb H) (NB σ H lw r c ρ1) (by omega) (fun fu a b h => ?_) (fun fu i a b hi h => ?_) (0, s1) (ρ1, 0) ⟨h0, rfl, rfl, fun q hq => absurd hq (Nat.not_lt_zero _)⟩
  · rw [fn_State_passNight_L41]
    simp only [so.1, hx_C h.1.1, Int32.lt_irrefl, if_false]
  · obtain ⟨x1, s⟩ := a
    obtain ⟨ρ, tb⟩ := b
    obtain ⟨⟨hx, lx, rx, ro, fr⟩, e1, e2, e3⟩ := h
    dsimp only at hx lx rx ro fr e1 e2 e3
    subst e1
    have htk : (if ρ 1 = 0 then some (-1 : Int32) else Option.bind (fn_State_seenBy o (Int32.ofNat i) s) fun z25 => Option.bind (fn_State_greatestOf o z25 s) fun z26 => some z26) = some (oI (tk H ρ i)) := by
      by_cases hz : ρ 1 = 0
      · rw [if_pos hz, tk_0 H ρ i hz]; rfl
      · rw [if_neg hz, xs_seenBy so hx rx ok ro i hi, e_bd, xs_greatest so hx rx ok, e_bd]; rfl
    have hwr : ∀ v : Int32, px_ast s c (Int32.ofNat i) v = some (hp_s s c i v) := fun v => zi_ast (by rw [so.2.2.2.2.2.1]; omega) (by omega)
    have rxc : ∀ v, RX (hp_s s c i v) r H ρ := fun v => rx.fr (hp_s_n n11)
    have hlt : ∀ t, tk H ρ i = some t → t < 100000 := fun t ht => by have := tk_lt ht; have := ok.2.2.1; omega
    -- the step, whatever was taken
    have key : ∃ a' : Int32 × hp_I, (px_jn (fun (t14 : Int32) =>
        px_let t14 fun v3_15 =>
        Option.bind (px_ast s c (Int32.ofNat i) v3_15) fun s16 =>
        px_jn (fun (a1_17 : Int32) (s18 : hp_I) =>
          px_let (Int32.ofNat i + 1) fun v2_19 =>
          fn_State_passNight_L41 o k fu a1_17 v2_19 s18
        ) fun j20 =>
          if v3_15 = (-1 : Int32) then (
            j20 x1 s16
          ) else (
            Option.bind (fn_State_moveToMat o v3_15 (Int32.ofNat i) s16) fun s22 =>
            px_let (x1 ||| ((1 : Int32) <<< (Int32.ofNat i &&& 31))) fun v1_23 =>
            j20 v1_23 s22
          )) fun j24 => j24 (oI (tk H ρ i))) = fn_State_passNight_L41 o k fu a'.1 (Int32.ofNat (i + 1)) a'.2 ∧ NB σ H lw r c ρ1 (i + 1) a' (tkb H i (ρ, x1)) := by
      simp only [e_jn, e_let, hwr, e_bd, zi_succ, oI_m _ hlt]
      have hprev : ∀ q, q < i → (hp_s s c i (oI (tk H ρ i))) c q = oI (tk H (zF (tstep H) q 0 ρ1) q) := fun q hq => by
        rw [hp_s_i, upd_n (by omega)]; exact e3 q hq
      have hzs : zF (tstep H) (i + 1) 0 ρ1 = tstep H i ρ := by rw [zF_snoc, Nat.zero_add, ← e2]
      cases ht : tk H ρ i with
      | none =>
        simp only [if_true]
        refine ⟨(x1, hp_s s c i (oI none)), rfl, ?_, ?_, ?_, fun q hq => ?_⟩
        · have e4 : (tkb H i (ρ, x1)).1 = ρ := by show tstep H i ρ = ρ; unfold tstep; rw [ht]
          rw [e4]
          exact NI.step so ⟨hx, lx, rx, ro, fr⟩ (Fc.put (by simp)) (rxc _) ro
        · show x1 = (match tk H ρ i with | none => x1 | some _ => x1 ||| bitI i); rw [ht]
        · exact hzs.symm
        · by_cases e : q = i
          · subst e; rw [← e2, ht]; show hp_s s c q _ c q = _ ; rw [hp_s_i, upd_i]
          · rw [ht] at hprev; exact hprev q (by omega)
      | some t =>
        simp only [reduceCtorEq, if_false]
        obtain ⟨s2, g1, g2, g3⟩ := xs_moveToMat so (rxc (oI (some t))) ok t i (tk_lt ht) hi
        rw [show oI (some t) = Int32.ofNat t from rfl] at g1
        simp only [show oI (some t) = Int32.ofNat t from rfl, g1, e_bd]
        refine ⟨(x1 ||| bitI i, s2), rfl, ?_, ?_, ?_, fun q hq => ?_⟩
        · have e4 : (tkb H i (ρ, x1)).1 = tmat ρ t i := by show tstep H i ρ = _; unfold tstep; rw [ht]
          rw [e4]
          exact NI.step so ⟨hx, lx, rx, ro, fr⟩ ((Fc.put (by simp)).trans (g3.mono (by intro j hj; simp only [List.mem_cons, List.not_mem_nil, or_false] at hj ⊢; exact Or.inl hj))) g2 (rok_mat ok ro (tk_lt ht) hi)
        · show x1 ||| bitI i = (match tk H ρ i with | none => x1 | some _ => x1 ||| bitI i); rw [ht]
        · exact hzs.symm
        · have e5 : s2 c = (hp_s s c i (oI (some t))) c := g3 c (by simp only [List.mem_singleton]; exact fun e => n11 e.symm)
          show s2 c q = _
          rw [e5]
          by_cases e : q = i
          · subst e; rw [← e2, ht]; show hp_s s c q _ c q = _ ; rw [hp_s_i, upd_i]
          · rw [ht] at hprev; exact hprev q (by omega)
    rw [fn_State_passNight_L41]
    simp only [so.1, hx_C hx, zi_lt (show i < 2147483648 by omega) (show hC H < 2147483648 by omega), hi, if_true, xs_living so rx, e_bd, so.2.2.2.1]
    obtain ⟨a', k1, k2⟩ := key
    refine ⟨a', ?_, k2⟩
    rw [← k1]
    simp only [e_jn]
    by_cases hz : ρ 1 = 0
    · rw [if_pos hz] at htk ⊢
      rw [Option.some.inj htk]
    · rw [if_neg hz] at htk ⊢
      rw [xs_seenBy so hx rx ok ro i hi, e_bd, xs_greatest so hx rx ok, e_bd] at htk ⊢
      rw [Option.some.inj htk]
theorem tkb_fst (H : ab_H) : ∀ (n i : Nat) (a : (Nat → Int32) × Int32), (zF (tkb H) n i a).1 = zF (tstep H) n i a.1 := by
  intro n
  induction n with
  | zero => intro i a; rfl
  | succ n ih => intro i a; exact ih (i + 1) (tkb H i a)
/-- a night of the class's State -/
theorem xs_passNight (so : SO o r c) (hx : HX σ H) (lx : LX σ lw) (rx : RX σ r H ρ) (ok : HOK H) (lo : LOK lw) (ro : ROK H ρ) : ∃ σ', fn_State_passNight o σ = some (sp_took H lw ρ, σ') ∧ RX σ' r H (sp_night H lw ρ) ∧ Fc [r, c, 24, 25] σ σ' ∧ ∀ q, q < hC H → σ' c q = oI (tk H (zF (tstep H) q 0 (sp_grown H lw ρ)) q) := by
  obtain ⟨n1, n2, n3, n4, n5, n6, n7, n8, n9, n10, n11⟩ := so_ne so
  unfold fn_State_passNight
  simp only [e_let, so.2.2.1]
  obtain ⟨s1, g1, g2⟩ := xs_passA so ok lo (fun s_10 => fn_State_passNight_L41 o (fun y_27 s_28 => Option.bind (px_ald s_28 r 0) fun z29 => Option.bind (px_ast s_28 r 0 (z29 + 1)) fun s30 => some (y_27, s30)) FU 0 0 s_10) ⟨hx, lx, rx, ro, Fc.refl⟩
  rw [g1]
  obtain ⟨⟨y, s2⟩, g3, g4, g5, g6, g7⟩ := xs_passB so ok (fun y_27 s_28 => Option.bind (px_ald s_28 r 0) fun z29 => Option.bind (px_ast s_28 r 0 (z29 + 1)) fun s30 => some (y_27, s30)) g2
  rw [g3]
  dsimp only at g4 g5 g6 g7
  have rx2 := g4.2.2.1
  rw [rx_0 rx2, e_bd, show px_ast s2 r 0 _ = _ from rx_w0 (k := 0) so (by decide), e_bd]
  refine ⟨_, by rw [g5]; rfl, ?_, g4.2.2.2.2.trans (Fc.put (by simp)), fun q hq => ?_⟩
  · have := rx2.put (k := 0) (v := (zF (tkb H) (hC H) 0 (sp_grown H lw ρ, 0)).1 0 + 1)
    rw [tkb_fst] at this
    rw [tkb_fst]
    exact this
  · rw [hp_s_n (fun e => n11 e.symm)]
    exact g7 q hq
end N3

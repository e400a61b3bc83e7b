/-! FITS: who took anything -/
theorem grown_n {H : ab_H} {lw : ab_L} {ρ : ab_R} {k : Nat} (hk : k < 13 ∨ 13 + hS H ≤ k) : sp_grown H lw ρ k = ρ k :=
  zF_inv (gstep H lw) (fun a => a k = ρ k) (hS H) (fun i a hi h => by
    unfold gstep
    split
    · rw [upd_n (by omega)]; exact h
    · exact h) (hS H) 0 ρ (by omega) rfl
theorem took_diff {H : ab_H} {lw : ab_L} {ρ : ab_R} (ok : HOK H) {c : Nat} (hc : c < hC H) : sp_night H lw ρ (42 + c) - ρ (42 + c) = bI (hasB (sp_took H lw ρ) c) := by
  have h8 := ok.2.2.1
  have h5 := ok.2.2.2.1
  have key : ∀ n i a, i + n = hC H → (∀ c, c < 5 → a.1 (42 + c) = ρ (42 + c) + bI (hasB a.2 c) ∧ (i ≤ c → hasB a.2 c = false)) → ∀ c, c < 5 → (zF (tkb H) n i a).1 (42 + c) = ρ (42 + c) + bI (hasB (zF (tkb H) n i a).2 c) := by
    intro n
    induction n with
    | zero => intro i a _ h c hc; exact (h c hc).1
    | succ n ih =>
      intro i a hi h
      show ∀ c, c < 5 → (zF (tkb H) n (i + 1) (tkb H i a)).1 (42 + c) = ρ (42 + c) + bI (hasB (zF (tkb H) n (i + 1) (tkb H i a)).2 c)
      refine ih (i + 1) _ (by omega) fun c hc => ?_
      unfold tkb tstep
      cases ht : tk H a.1 i with
      | none => exact ⟨(h c hc).1, fun hh => (h c hc).2 (by omega)⟩
      | some t =>
        have htl := tk_lt ht
        dsimp only
        rw [hasB_or (by omega), hasB_bit (by omega) (by omega)]
        by_cases e : c = i
        · have h2 := (h c hc).2 (by omega)
          have h1 := (h c hc).1
          rw [h2] at h1
          refine ⟨?_, fun hh => by omega⟩
          rw [e, show tmat a.1 t i (42 + i) = a.1 (42 + i) + 1 from by unfold tmat; rw [upd_i], decide_eq_true rfl, Bool.or_true, ← e, h1]
          show ρ (42 + c) + 0 + 1 = ρ (42 + c) + 1
          rw [Int32.add_zero]
        · refine ⟨?_, fun hh => ?_⟩
          · rw [show tmat a.1 t i (42 + c) = a.1 (42 + c) from by unfold tmat; rw [upd_n (by omega), upd_n (by omega), upd_n (by omega), upd_n (by omega), upd_n (by omega)], decide_eq_false (by omega), Bool.or_false]
            exact (h c hc).1
          · rw [(h c hc).2 (by omega), decide_eq_false (by omega)]; rfl
  have h := key (hC H) 0 (sp_grown H lw ρ, 0) (by omega) (fun c hc => ⟨by
    dsimp only
    rw [grown_n (Or.inr (by omega)), hasB_zero (by omega)]
    show ρ (42 + c) = ρ (42 + c) + 0
    rw [Int32.add_zero], fun _ => hasB_zero (by omega)⟩) c (by omega)
  unfold sp_night sp_took sp_taken
  rw [upd_n (by omega), ← tkb_fst H (hC H) 0 (sp_grown H lw ρ, 0), h, Int32.add_comm, Int32.add_sub_cancel]
theorem tk_bits {H : ab_H} {bk : ab_B} (ok : HOK H) (bo : BOK H bk) {k : Nat} (hk : k < 32) : (hasB (bk_tk bk) k = true) ↔ ∃ q ∈ bk, q.1 = k ∧ q.2 = 1 := by
  have h5 := ok.2.2.2.1
  have hb := bo.1
  clear bo
  induction bk with
  | nil => rw [show bk_tk [] = 0 from rfl, hasB_zero hk]; simp
  | cons q t ih =>
    have hq := hb q List.mem_cons_self
    rw [show bk_tk (q :: t) = bk_tk t ||| (q.2 <<< (Int32.ofNat q.1 &&& 31)) from rfl, hasB_or hk, Bool.or_eq_true]
    have ih2 := ih (fun x hx => hb x (List.mem_cons_of_mem _ hx))
    have e : (hasB (q.2 <<< (Int32.ofNat q.1 &&& 31)) k = true) ↔ (q.1 = k ∧ q.2 = 1) := by
      rcases hq.2 with h | h
      · rw [h]
        have h0 : ∀ c, c < 5 → (0 : Int32) <<< (Int32.ofNat c &&& 31) = 0 := by decide
        rw [h0 q.1 (by omega), hasB_zero hk]
        constructor
        · intro hh; cases hh
        · intro hh; exact absurd hh.2 (by decide)
      · rw [h]
        show hasB (bitI q.1) k = true ↔ _
        rw [hasB_bit (by omega) hk, decide_eq_true_eq]
        exact ⟨fun hh => ⟨hh, rfl⟩, fun hh => hh.1⟩
    refine (or_congr ih2 e).trans ?_
    constructor
    · rintro (⟨x, hx, hh⟩ | hh)
      · exact ⟨x, List.mem_cons_of_mem _ hx, hh⟩
      · exact ⟨q, List.mem_cons_self, hh⟩
    · rintro ⟨x, hx, hh⟩
      rcases List.mem_cons.mp hx with rfl | hx
      · exact Or.inr hh
      · exact Or.inl ⟨x, hx, hh⟩
theorem nodup_fst {bk : ab_B} (hn : (bk.map Prod.fst).Nodup) {p q : Nat × Int32} (hp : p ∈ bk) (hq : q ∈ bk) (h : p.1 = q.1) : p = q := by
  induction bk with
  | nil => cases hp
  | cons x t ih =>
    have hn2 : x.1 ∉ t.map Prod.fst ∧ (t.map Prod.fst).Nodup := by simpa only [List.map_cons, List.nodup_cons] using hn
    rcases List.mem_cons.mp hp with e1 | hp2
    · rcases List.mem_cons.mp hq with e2 | hq2
      · rw [e1, e2]
      · exact absurd (List.mem_map.mpr ⟨q, hq2, by rw [← h, e1]⟩) hn2.1
    · rcases List.mem_cons.mp hq with e2 | hq2
      · exact absurd (List.mem_map.mpr ⟨p, hp2, by rw [h, e2]⟩) hn2.1
      · exact ih hn2.2 hp2 hq2
def agr (bk : ab_B) (b : Int32) : Bool := decide (b &&& bk_in bk = bk_tk bk)
theorem agr_iff {H : ab_H} {bk : ab_B} (ok : HOK H) (bo : BOK H bk) (b : Int32) : (agr bk b = true) ↔ ∀ q ∈ bk, bI (hasB b q.1) = q.2 := by
  have h5 := ok.2.2.2.1
  unfold agr
  rw [decide_eq_true_eq]
  constructor
  · intro h q hq
    have hc := bo.1 q hq
    have h1 : hasB (b &&& bk_in bk) q.1 = hasB (bk_tk bk) q.1 := by rw [h]
    rw [hasB_and (by omega), bk_has bk q.1 (by omega) (fun x hx => by have := (bo.1 x hx).1; omega), decide_eq_true (List.mem_map.mpr ⟨q, hq, rfl⟩), Bool.and_true] at h1
    rcases hc.2 with h2 | h2
    · have h3 : hasB (bk_tk bk) q.1 = false := by
        cases hh : hasB (bk_tk bk) q.1 with
        | false => rfl
        | true =>
          obtain ⟨x, hx, hx1, hx2⟩ := (tk_bits ok bo (by omega)).mp hh
          rw [nodup_fst bo.2 hx hq hx1, h2] at hx2
          exact absurd hx2 (by decide)
      rw [h1, h3, h2]; rfl
    · rw [h1, (tk_bits ok bo (by omega)).mpr ⟨q, hq, rfl, h2⟩, h2]; rfl
  · intro h
    apply hasB_ext
    intro k hk
    rw [hasB_and hk, bk_has bk k hk (fun x hx => by have := (bo.1 x hx).1; omega)]
    by_cases hm : k ∈ bk.map Prod.fst
    · obtain ⟨q, hq, rfl⟩ := List.mem_map.mp hm
      rw [decide_eq_true hm, Bool.and_true, Bool.eq_iff_iff, tk_bits ok bo hk]
      have h1 := h q hq
      constructor
      · intro h2
        rw [h2] at h1
        exact ⟨q, hq, rfl, h1.symm⟩
      · rintro ⟨x, hx, hx1, hx2⟩
        rw [nodup_fst bo.2 hx hq hx1] at hx2
        rw [hx2] at h1
        cases hh : hasB b q.1 with
        | true => rfl
        | false => rw [hh] at h1; exact absurd h1 (by decide)
    · rw [decide_eq_false hm, Bool.and_false]
      cases hh : hasB (bk_tk bk) k with
      | false => rfl
      | true =>
        obtain ⟨x, hx, hx1, -⟩ := (tk_bits ok bo hk).mp hh
        exact absurd (List.mem_map.mpr ⟨x, hx, hx1⟩) hm
theorem rok_put {H : ab_H} {ρ : ab_R} {t r : Nat} (ok : HOK H) (ro : ROK H ρ) (ht : t < hS H) (hr : r < hR H) : ROK H (upd ρ (5 + t) (Int32.ofNat r)) := by
  have h8 := ok.2.2.1
  obtain ⟨r1, r2, r3, r4, r5⟩ := ro
  refine ⟨fun s hs => ⟨?_, ?_⟩, fun c hc => ?_, ?_, ?_, ?_⟩
  · by_cases e : s = t
    · rw [e, upd_i]; exact ⟨r, hr, rfl⟩
    · rw [upd_n (by omega)]; exact (r1 s hs).1
  · rw [upd_n (by omega)]; exact (r1 s hs).2
  · rw [upd_n (by omega)]; exact r2 c hc
  · rw [upd_n (by omega)]; exact r3
  · rw [upd_n (by omega)]; exact r4
  · rw [upd_n (by omega), upd_n (by omega)]; exact r5
/-- the folds of fits and look -/
abbrev gw_T : Type := Int32 × Int32 × (Nat → Int32)
def gw_k (A : ab_A) (t r : Nat) : Int32 := sp_took (aH A) (aL A) (upd (aR A) (5 + t) (Int32.ofNat r))
def gw_r (A : ab_A) (t r : Nat) (g : gw_T) : gw_T := if agr (aB A) (gw_k A t r) = true then (g.1 + 1, if g.1 = 0 then 10 * Int32.ofNat t + Int32.ofNat r else g.2.1, fun c => g.2.2 c + bI (hasB (gw_k A t r) c)) else g
def gw_s (A : ab_A) (t : Nat) (g : gw_T) : gw_T := if hasB (aR A 1) t = true then zF (gw_r A t) (hR (aH A)) 0 g else g
def sp_gw (A : ab_A) : gw_T := zF (gw_s A) (hS (aH A)) 0 (0, -1, fun _ => 0)
theorem gf_0 : sh_rf 49 0 = 3 := by decide +kernel
theorem gf_1 : sh_rf 49 1 = 50 := by decide +kernel
theorem gn_50 : sh_ln 50 = 5 := by decide +kernel
def GX (A : ab_A) (σ s : hp_I) (g : gw_T) : Prop := (s 49 2 = g.1 ∧ s 49 3 = g.2.1 ∧ ∀ c, c < hC (aH A) → s 50 c = g.2.2 c) ∧ Fc SXQ σ s
section GW
variable {σ s : hp_I} {A : ab_A} {g : gw_T}
theorem xs_pair (ok : AOK A) (cx : CX σ A) (h : GX A σ s g) (p b : Int32) : ∃ s', fn_Guess_countPair 49 p b s = some s' ∧ GX A σ s' (g.1 + 1, if g.1 = 0 then p else g.2.1, fun c => g.2.2 c + bI (hasB b c)) := by
  unfold fn_Guess_countPair
  have h5 := ok.1.2.2.2.1
  have key : ∀ s1, s1 49 2 = g.1 → s1 49 3 = (if g.1 = 0 then p else g.2.1) → (∀ c, c < hC (aH A) → s1 50 c = g.2.2 c) → Fc SXQ σ s1 → ∃ s', fn_Guess_countPair_L24 49 b (fun s => some s) FU 0 (hp_s s1 49 2 (s1 49 2 + 1)) = some s' ∧ GX A σ s' (g.1 + 1, if g.1 = 0 then p else g.2.1, fun c => g.2.2 c + bI (hasB b c)) := by
    intro s1 h1 h2 h3 h4
    refine Exists.elim (zL_R0 (L := fun fu s i => fn_Guess_countPair_L24 49 b (fun s => some s) fu i s) (k := fun s => some s) (N := hC (aH A)) (fun _ (u : Unit) => u) (fun i s _ => (s 49 2 = g.1 + 1 ∧ s 49 3 = (if g.1 = 0 then p else g.2.1) ∧ ∀ c, c < hC (aH A) → s 50 c = if c < i then g.2.2 c + bI (hasB b c) else g.2.2 c) ∧ Fc SXQ σ s) (by omega) (fun fu s u h => ?_) (fun fu i s u hi h => ?_) (hp_s s1 49 2 (s1 49 2 + 1)) () ⟨⟨?_, ?_, fun c hc => ?_⟩, h4.trans (Fc.put (by decide))⟩) (fun s' hs => ⟨s', hs.1, ⟨hs.2.1.1, hs.2.1.2.1, fun c hc => ?_⟩, hs.2.2⟩)
    · try dsimp only
      have c1 : CX s A := cx.x h.2
      rw [fn_Guess_countPair_L24, gf_0, hx_C c1.1, if_neg Int32.lt_irrefl]
    · try dsimp only
      have c1 : CX s A := cx.x h.2
      refine ⟨hp_s s 50 i (s 50 i + bI (hasB b i)), ?_, ⟨?_, ?_, fun c hc => ?_⟩, h.2.trans (Fc.put (by decide))⟩
      · rw [fn_Guess_countPair_L24, gf_0, hx_C c1.1, if_pos (zl_lt hi (by omega)), gf_1, zi_ald (by rw [gn_50]; omega) (by omega), e_bd, v_bit, zi_ast (by rw [gn_50]; omega) (by omega), e_bd, e_let, zi_succ]
      · rw [hp_s_n (by decide)]; exact h.1.1
      · rw [hp_s_n (by decide)]; exact h.1.2.1
      · rw [hp_s_i]
        by_cases e : c = i
        · rw [e, upd_i, if_pos (by omega), h.1.2.2 i hi, if_neg (by omega)]
        · rw [upd_n e, h.1.2.2 c hc]
          by_cases e2 : c < i
          · rw [if_pos e2, if_pos (by omega)]
          · rw [if_neg e2, if_neg (by omega)]
    · rw [hp_s_i, upd_i, h1]
    · rw [hp_s_i, upd_n (by decide)]; exact h2
    · rw [hp_s_n (by decide), if_neg (Nat.not_lt_zero _)]; exact h3 c hc
    · rw [hs.2.1.2.2 c hc, if_pos hc]
  simp only [e_jn, e_let]
  by_cases h0 : g.1 = 0
  · rw [if_pos (show s 49 2 = 0 from h.1.1.trans h0)]
    exact key (hp_s s 49 3 p) (by rw [hp_s_i, upd_n (by decide)]; exact h.1.1) (by rw [hp_s_i, upd_i, if_pos h0]) (fun c hc => by rw [hp_s_n (by decide)]; exact h.1.2.2 c hc) (h.2.trans (Fc.put (by decide)))
  · rw [if_neg (show ¬ s 49 2 = 0 from fun e => h0 (h.1.1.symm.trans e))]
    exact key s h.1.1 (by rw [if_neg h0]; exact h.1.2.1) h.1.2.2 h.2
theorem xs_agree (ok : AOK A) (cx : CX s A) (b : Int32) : fn_Book_agreesWith 26 b s = some (bI (agr (aB A) b)) := by
  unfold fn_Book_agreesWith agr
  rw [e_jn, cx.2.2.2.1.1, cx.2.2.2.1.2]
  simp only [e_z0, e_z1]
  by_cases h : b &&& bk_in (aB A) = bk_tk (aB A)
  · rw [if_pos h, decide_eq_true h]; rfl
  · rw [if_neg h, decide_eq_false h]; rfl
theorem xs_weigh1 (ok : AOK A) (cx : CX σ A) {t : Nat} (ht : t < hS (aH A)) (h : GX A σ s g) (K : hp_I → Option hp_I) : ∃ s', fn_Guess_weigh_L60 49 32 35 26 (Int32.ofNat t) K FU 0 s = K s' ∧ GX A σ s' (zF (gw_r A t) (hR (aH A)) 0 g) := by
  have h8 := ok.1.2.2.1
  have hR8 := ok.1.1
  refine zL_R0 (L := fun fu s i => fn_Guess_weigh_L60 49 32 35 26 (Int32.ofNat t) K fu i s) (k := K) (N := hR (aH A)) (gw_r A t) (fun i s g => GX A σ s g) (by omega) (fun fu s u h => ?_) (fun fu i s g hi h => ?_) s g h
  · try dsimp only
    have c1 : CX s A := cx.x h.2
    rw [fn_Guess_weigh_L60, gf_0, hx_R c1.1, if_neg Int32.lt_irrefl]
  · try dsimp only
    have c1 : CX s A := cx.x h.2
    obtain ⟨s1, g1, g2⟩ := xs_copy ok c1
    have e2 : fn_State_putInto 35 (Int32.ofNat t) (Int32.ofNat i) s1 = some (hp_s s1 36 (5 + t) (Int32.ofNat i)) := by
      unfold fn_State_putInto
      rw [so_35.2.2.1, show px_ast s1 36 (5 + Int32.ofNat t) (Int32.ofNat i) = _ from rx_w (k := 5) so_35 (by omega), e_bd]
    have t2 : TX A s (hp_s s1 36 (5 + t) (Int32.ofNat i)) (upd (aR A) (5 + t) (Int32.ofNat i)) := g2.row g2.2.1.put (Fc.put (by simp)) (rok_put ok.1 ok.2.1 ht hi)
    obtain ⟨s3, g3, g4, -, g5⟩ := tx_night ok c1 t2
    have c3 := g4.cx c1
    have f13 : Fc [36, 37, 24, 25] s s3 := by
      intro j hj
      rw [g5 j hj, hp_s_n (by intro e; rw [e] at hj; exact hj (by decide))]
      have hg : fn_State_copyFrom 35 32 s = some s1 := g1
      unfold fn_State_copyFrom at hg
      have hcp := zi_cpy (σ := s) (a := 33) (b := 36) (p := 0) (q := 0) (n := 47) (by rw [so_32.2.2.2.2.1]; decide) (by rw [so_35.2.2.2.2.1]; decide) (by decide) (by decide) (by decide)
      rw [so_32.2.2.1, so_35.2.2.1, show px_cpy s 33 0 36 0 47 = _ from hcp, e_bd] at hg
      cases hg
      exact hp_f_n (by intro e; rw [e] at hj; exact hj (by decide))
    have h3 : GX A σ s3 g := ⟨⟨by rw [f13 49 (by decide)]; exact h.1.1, by rw [f13 49 (by decide)]; exact h.1.2.1, fun c hc => by rw [f13 50 (by decide)]; exact h.1.2.2 c hc⟩, h.2.trans (fc_x f13 (by decide))⟩
    obtain ⟨s4, g6, g7⟩ := xs_pair ok cx h3 (10 * Int32.ofNat t + Int32.ofNat i) (gw_k A t i)
    rw [fn_Guess_weigh_L60, gf_0, hx_R c1.1, if_pos (zl_lt hi (by omega)), g1, e_bd, e2, e_bd, g3, e_b2, e_let, xs_agree ok c3, e_bd, e_jn, bI_if]
    simp only [e_let, zi_succ]
    rw [show sp_took (aH A) (aL A) (upd (aR A) (5 + t) (Int32.ofNat i)) = gw_k A t i from rfl, g6, e_bd]
    unfold gw_r
    by_cases ha : agr (aB A) (gw_k A t i) = true
    · rw [if_pos ha, if_pos ha]
      exact ⟨s4, rfl, g7⟩
    · rw [if_neg ha, if_neg ha]
      exact ⟨s3, rfl, h3⟩
theorem xs_weigh (ok : AOK A) (cx : CX σ A) : ∃ s', fn_Guess_weigh 49 32 35 26 σ = some s' ∧ GX A σ s' (sp_gw A) := by
  have h8 := ok.1.2.2.1
  have h5 := ok.1.2.2.2.1
  unfold fn_Guess_weigh
  simp only [e_let]
  refine Exists.elim (zL_R0 (L := fun fu s i => fn_Guess_weigh_L13 49 32 35 26 (fun s_6 => fn_Guess_weigh_L36 49 32 35 26 (fun s_27 => some s_27) FU 0 s_6) fu i s) (k := fun s_6 => fn_Guess_weigh_L36 49 32 35 26 (fun s_27 => some s_27) FU 0 s_6) (N := 5) (fun _ (u : Unit) => u) (fun i s _ => (s 49 2 = 0 ∧ s 49 3 = -1 ∧ ∀ c, c < i → s 50 c = 0) ∧ Fc SXQ σ s) (by decide) (fun fu s u h => ?_) (fun fu i s u hi h => ?_) (hp_s (hp_s σ 49 2 0) 49 3 (-1)) () ⟨⟨?_, ?_, fun c hc => absurd hc (Nat.not_lt_zero _)⟩, (Fc.put (by decide)).trans (Fc.put (by decide))⟩) (fun s1 hs => ?_)
  · try dsimp only
    rw [fn_Guess_weigh_L13, if_neg (by decide)]
  · try dsimp only
    refine ⟨hp_s s 50 i 0, ?_, ⟨?_, ?_, fun c hc => ?_⟩, h.2.trans (Fc.put (by decide))⟩
    · rw [fn_Guess_weigh_L13, if_pos (show Int32.ofNat i < 5 from zl_lt (b := 5) hi (by decide)), gf_1, zi_ast (by rw [gn_50]; omega) (by omega), e_bd, e_let, zi_succ]
    · rw [hp_s_n (by decide)]; exact h.1.1
    · rw [hp_s_n (by decide)]; exact h.1.2.1
    · rw [hp_s_i]
      by_cases e : c = i
      · rw [e, upd_i]
      · rw [upd_n e]; exact h.1.2.2 c (by omega)
  · rw [hp_s_i, upd_n (by decide), hp_s_i, upd_i]
  · rw [hp_s_i, upd_i]
  · obtain ⟨k1, ⟨k2, k3, k4⟩, k5⟩ := hs
    have h1 : GX A σ s1 (0, -1, fun _ => 0) := ⟨⟨k2, k3, fun c hc => k4 c (by omega)⟩, k5⟩
    refine Exists.elim (zL_R0 (L := fun fu s i => fn_Guess_weigh_L36 49 32 35 26 (fun s => some s) fu i s) (k := fun s => some s) (N := hS (aH A)) (gw_s A) (fun i s g => GX A σ s g) (by omega) (fun fu s u h => ?_) (fun fu i s g hi h => ?_) s1 (0, -1, fun _ => 0) h1) (fun s2 hs2 => ⟨s2, k1.trans hs2.1, hs2.2⟩)
    · try dsimp only
      have c1 : CX s A := cx.x h.2
      rw [fn_Guess_weigh_L36, gf_0, hx_S c1.1, if_neg Int32.lt_irrefl]
    · try dsimp only
      have c1 : CX s A := cx.x h.2
      rw [fn_Guess_weigh_L36, gf_0, hx_S c1.1, if_pos (zl_lt hi (by omega)), xs_lives so_32 c1.2.1, e_bd, e_jn, bI_if]
      simp only [e_let, zi_succ]
      obtain ⟨s3, g1, g2⟩ := xs_weigh1 ok cx hi h (fun s_26 => fn_Guess_weigh_L36 49 32 35 26 (fun s => some s) fu (Int32.ofNat (i + 1)) s_26)
      unfold gw_s
      by_cases hb : hasB (aR A 1) i = true
      · rw [if_pos hb, if_pos hb]
        exact ⟨s3, g1, g2⟩
      · rw [if_neg hb, if_neg hb]
        exact ⟨s, rfl, h⟩
theorem xq_fits (ok : AOK A) (cx : CX σ A) (w : Int32) : XQ σ (fn_X_fits 0 w σ) (qb_i (inB w 0 1) 0) (if w = 0 then (sp_gw A).1 else (sp_gw A).2.1) := by
  unfold fn_X_fits
  refine xg_in fun _ => ?_
  obtain ⟨s', g1, g2⟩ := xs_weigh ok cx
  refine xq_f ?_ g2.2
  rw [xf_11, xf_6, xf_7, xf_4, g1, e_bd, e_jn, g2.1.1, g2.1.2.1]
  exact ite_g (rX s') (fun _ => rfl) (fun _ => rfl)
end GW

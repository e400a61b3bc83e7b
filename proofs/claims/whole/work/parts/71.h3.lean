/-! HUNT: the class's table and choice -/
section HY
variable {σ s : hp_I} {A : ab_A}
theorem tbl_put {c a : Nat} {v : Int32} (ok : AOK A) (hc : c < hC (aH A)) (ha : a < 2 ^ hS (aH A)) (h : TBl A (c + 1) s) : TBl A (c + 1) (hp_s s 46 (c * 256 + a) v) := by
  intro c' h1 h2 a' ha' hb
  have hp8 := pow8 ok.1.2.2.1
  have : (c + 1) * 256 ≤ c' * 256 := Nat.mul_le_mul_right _ h1
  rw [hp_s_i, upd_n (by omega)]
  exact h c' h1 h2 a' ha' hb
theorem HI.put {i k : Nat} {v : Int32} (h : HI A σ s) (hi : i ∈ SXQ) (h47 : i ≠ 47) : HI A σ (hp_s s i k v) := ⟨h.1.trans (Fc.put hi), fun c hc t ht => by rw [hp_s_n (by omega)]; exact h.2 c hc t ht⟩
theorem xs_row (ok : AOK A) (cx : CX σ A) {c : Nat} (hc : c < hC (aH A)) (h : HI A σ s) (htb : TBl A (c + 1) s) (K : hp_I → Option hp_I) : ∃ s', fn_Chase_solve_L55 45 (Int32.ofNat c) K FU 0 s = K s' ∧ HI A σ s' ∧ TBl A c s' := by
  have h8 := ok.1.2.2.1
  have h5 := ok.1.2.2.2.1
  have hp8 := pow8 h8
  refine Exists.elim (zL_R0 (L := fun fu s i => fn_Chase_solve_L55 45 (Int32.ofNat c) K fu i s) (k := K) (N := 2 ^ hS (aH A)) (fun _ (u : Unit) => u) (fun i s _ => HI A σ s ∧ TBl A (c + 1) s ∧ ∀ a, a < i → bc (Int32.ofNat a) ≤ Int32.ofNat c → s 46 (c * 256 + a) = Int32.ofNat (hVl (hPt A) (hS (aH A)) (hC (aH A) - c) c (Int32.ofNat a))) (by omega) (fun fu s u h => ?_) (fun fu i s u hi h => ?_) s () ⟨h, htb, fun a ha => absurd ha (Nat.not_lt_zero _)⟩) (fun s' hs => ⟨s', hs.1, hs.2.1, fun c' h1 h2 a ha hb => ?_⟩)
  · try dsimp only
    have c1 : CX s A := cx.x h.1.1
    rw [fn_Chase_solve_L55, cf_0, hx_S c1.1, bitI_pow _ h8, if_neg Int32.lt_irrefl]
  · try dsimp only
    obtain ⟨h1, h2, h3⟩ := h
    have c1 : CX s A := cx.x h1.1
    rw [fn_Chase_solve_L55, cf_0, hx_S c1.1, bitI_pow _ h8, if_pos (zl_lt hi (by omega)), xs_bc ⟨i, by omega, rfl⟩, e_bd, e_jn]
    simp only [e_let, zi_succ]
    by_cases hb : bc (Int32.ofNat i) ≤ Int32.ofNat c
    · rw [if_pos hb, xs_bestFor ok cx h1 hc hi hb h2, e_bd, cf_1, show Int32.ofNat c * 256 + Int32.ofNat i = Int32.ofNat (c * 256 + i) from by rw [show Int32.ofNat c * 256 = Int32.ofNat (c * 256) from zi_mul c 256, zi_add], zi_ast (by rw [cn_46]; omega) (by omega), e_bd]
      refine ⟨_, rfl, h1.put (by decide) (by decide), tbl_put ok hc hi h2, fun a ha hb2 => ?_⟩
      rw [hp_s_i]
      by_cases e : a = i
      · rw [e, upd_i]
      · rw [upd_n (by omega)]; exact h3 a (by omega) hb2
    · rw [if_neg hb]
      refine ⟨s, rfl, h1, h2, fun a ha hb2 => ?_⟩
      by_cases e : a = i
      · rw [e] at hb2; exact absurd hb2 hb
      · exact h3 a (by omega) hb2
  · by_cases e : c' = c
    · rw [e] at hb ⊢; exact hs.2.2.2 a ha hb
    · exact hs.2.2.1 c' (by omega) h2 a ha hb
theorem xs_table (ok : AOK A) (cx : CX σ A) (K : hp_I → Option hp_I) : ∀ (n fu : Nat) (s : hp_I), n ≤ hC (aH A) → n < fu → HI A σ s → TBl A n s → ∃ s', fn_Chase_solve_L49 45 K fu (Int32.ofNat n - 1) s = K s' ∧ HI A σ s' ∧ TBl A 0 s' := by
  have h5 := ok.1.2.2.2.1
  intro n
  induction n with
  | zero =>
    intro fu s hn hf h htb
    obtain ⟨fu, rfl⟩ : ∃ f, fu = f + 1 := ⟨fu - 1, by omega⟩
    exact ⟨s, by rw [fn_Chase_solve_L49, if_neg (by decide)], h, htb⟩
  | succ n ih =>
    intro fu s hn hf h htb
    obtain ⟨fu, rfl⟩ : ∃ f, fu = f + 1 := ⟨fu - 1, by omega⟩
    obtain ⟨s1, g1, g2, g3⟩ := xs_row ok cx (c := n) (by omega) h htb (fun s_15 => fn_Chase_solve_L49 45 K fu (Int32.ofNat n + (-1)) s_15)
    obtain ⟨s2, k1, k2, k3⟩ := ih fu s1 (by omega) (by omega) g2 g3
    refine ⟨s2, ?_, k2, k3⟩
    rw [zi_sub1 (by omega), Nat.add_sub_cancel, fn_Chase_solve_L49, if_pos (zi_pos (by omega)), e_let]
    simp only [e_let]
    refine g1.trans ?_
    rw [← k1, Int32.sub_eq_add_neg]
theorem xs_first (ok : AOK A) (cx : CX σ A) (h : HI A σ s) (htb : TBl A 0 s) {c a n : Nat} (hc : c < hC (aH A)) (hn : hC (aH A) - c = n + 1) (ha : a < 2 ^ hS (aH A)) (hb : bc (Int32.ofNat a) ≤ Int32.ofNat c) : fn_Chase_firstBest 45 (Int32.ofNat c) (Int32.ofNat a) s = some (match hfb (hPt A) (hS (aH A)) n c (Int32.ofNat a) (hS (aH A)) 0 with
    | none => -1
    | some q => Int32.ofNat q.1) := by
  have h8 := ok.1.2.2.1
  have h5 := ok.1.2.2.2.1
  have hp8 := pow8 h8
  have c1 : CX s A := cx.x h.1
  have hn2 : hC (aH A) - (c + 1) = n := by omega
  unfold fn_Chase_firstBest
  rw [e_let]
  have key : ∀ m i fu, i + m = hS (aH A) → m < fu → fn_Chase_firstBest_L2 45 (Int32.ofNat c) (Int32.ofNat a) s (some (-1)) fu (Int32.ofNat i) = some (match hfb (hPt A) (hS (aH A)) n c (Int32.ofNat a) m i with
      | none => -1
      | some q => Int32.ofNat q.1) := by
    intro m
    induction m with
    | zero =>
      intro i fu hi hf
      obtain ⟨fu, rfl⟩ : ∃ f, fu = f + 1 := ⟨fu - 1, by omega⟩
      rw [fn_Chase_firstBest_L2, cf_0, hx_S c1.1, show i = hS (aH A) by omega, if_neg Int32.lt_irrefl]
      rfl
    | succ m ih =>
      intro i fu hi hf
      obtain ⟨fu, rfl⟩ : ∃ f, fu = f + 1 := ⟨fu - 1, by omega⟩
      have hiS : i < hS (aH A) := by omega
      rw [fn_Chase_firstBest_L2, cf_0, hx_S c1.1, if_pos (zl_lt hiS (by omega)), xs_free ok h hc hiS, e_bd, e_jn, e_let, zi_succ, ih (i + 1) fu (by omega) (by omega), bI_if]
      rw [show hfb (hPt A) (hS (aH A)) n c (Int32.ofNat a) (m + 1) i = (match hfr (hPt A) c i (Int32.ofNat a) with
        | none => hfb (hPt A) (hS (aH A)) n c (Int32.ofNat a) m (i + 1)
        | some d => if 100 - d + hVl (hPt A) (hS (aH A)) n (c + 1) (Int32.ofNat a ||| bitI i) = hVl (hPt A) (hS (aH A)) (n + 1) c (Int32.ofNat a) then some (i, d) else hfb (hPt A) (hS (aH A)) n c (Int32.ofNat a) m (i + 1)) from rfl]
      cases hf2 : hfr (hPt A) c i (Int32.ofNat a) with
      | none => rfl
      | some d =>
        have hw := xs_worth ok h hc hiS ha hb (fun c' h1 h2 => htb c' (by omega) h2) hf2
        have hv := htb c (by omega) (by omega) a ha hb
        have hle := (hR_max (S := hS (aH A)) (hP_le A) n c (Int32.ofNat a)).2 i d hiS hf2
        have hbd := (hV_key (S := hS (aH A)) (hP_le A) (n + 1) c (Int32.ofNat a)).2
        rw [hn2] at hw
        rw [hn] at hv
        rw [if_pos (show (some d).isSome = true from rfl), hw, e_bd, cf_1, show Int32.ofNat c * 256 + Int32.ofNat a = Int32.ofNat (c * 256 + a) from by rw [show Int32.ofNat c * 256 = Int32.ofNat (c * 256) from zi_mul c 256, zi_add], zi_ald (by rw [cn_46]; omega) (by omega), e_bd, hv]
        dsimp only
        by_cases he : 100 - d + hVl (hPt A) (hS (aH A)) n (c + 1) (Int32.ofNat a ||| bitI i) = hVl (hPt A) (hS (aH A)) (n + 1) c (Int32.ofNat a)
        · rw [if_pos (by rw [he]), if_pos he]
        · rw [if_neg (zl_ne he (by omega) (by omega)), if_neg he]
  exact key (hS (aH A)) 0 FU (by omega) (FU_gt (by omega))
theorem hfb_in {P : Nat → Nat → Option Nat} {S n c : Nat} {u : Int32} : ∀ m i q, i + m = S → hfb P S n c u m i = some q → q.1 < S ∧ hfr P c q.1 u = some q.2 := by
  intro m
  induction m with
  | zero => intro i q _ h; cases h
  | succ m ih =>
    intro i q hi h
    unfold hfb at h
    cases hf : hfr P c i u with
    | none => rw [hf] at h; exact ih (i + 1) q (by omega) h
    | some d =>
      rw [hf] at h
      dsimp only at h
      split at h
      · cases h; exact ⟨by show i < S; omega, hf⟩
      · exact ih (i + 1) q (by omega) h
def hun (A : ab_A) : ht := hR' (hPt A) (hS (aH A)) (hC (aH A)) 0 0
theorem xs_choose (ok : AOK A) (cx : CX σ A) (h : HI A σ s) (htb : TBl A 0 s) : ∃ s', fn_Chase_choose 45 s = some s' ∧ Fc SXQ σ s' ∧ s' 45 4 = Int32.ofNat (hun A).1 ∧ s' 45 5 = Int32.ofNat (hun A).2.1 ∧ ∀ k, k < hC (aH A) → s' 48 k = (hun A).2.2 k := by
  have h8 := ok.1.2.2.1
  have h5 := ok.1.2.2.2.1
  have hp8 := pow8 h8
  unfold fn_Chase_choose
  simp only [e_let]
  have key : ∀ n c fu a g w s, c + n = hC (aH A) → n < fu → a < 2 ^ hS (aH A) → bc (Int32.ofNat a) ≤ Int32.ofNat c → HI A σ s → TBl A 0 s → s 45 4 = Int32.ofNat g → s 45 5 = Int32.ofNat w → ∃ s', fn_Chase_choose_L14 45 (fun s => some s) fu (Int32.ofNat a) (Int32.ofNat c) s = some s' ∧ Fc SXQ σ s' ∧ s' 45 4 = Int32.ofNat (g + (hR' (hPt A) (hS (aH A)) n c (Int32.ofNat a)).1) ∧ s' 45 5 = Int32.ofNat (w + (hR' (hPt A) (hS (aH A)) n c (Int32.ofNat a)).2.1) ∧ (∀ k, c ≤ k → k < hC (aH A) → s' 48 k = (hR' (hPt A) (hS (aH A)) n c (Int32.ofNat a)).2.2 k) ∧ ∀ k, k < c → s' 48 k = s 48 k := by
    intro n
    induction n with
    | zero =>
      intro c fu a g w s hc hf ha hb h htb e4 e5
      obtain ⟨fu, rfl⟩ : ∃ f, fu = f + 1 := ⟨fu - 1, by omega⟩
      have c1 : CX s A := cx.x h.1
      refine ⟨s, ?_, h.1, ?_, ?_, fun k h1 h2 => by omega, fun k _ => rfl⟩
      · rw [fn_Chase_choose_L14, cf_0, hx_C c1.1, show c = hC (aH A) by omega, if_neg Int32.lt_irrefl]
      · rw [e4]; rfl
      · rw [e5]; rfl
    | succ n ih =>
      intro c fu a g w s hc hf ha hb h htb e4 e5
      obtain ⟨fu, rfl⟩ : ∃ f, fu = f + 1 := ⟨fu - 1, by omega⟩
      have c1 : CX s A := cx.x h.1
      have hcC : c < hC (aH A) := by omega
      have hfst := xs_first ok cx h htb hcC (n := n) (by omega) ha hb
      have hRe := hfb_ok (S := hS (aH A)) (hP_le A) n c (Int32.ofNat a)
      rw [fn_Chase_choose_L14, cf_0, hx_C c1.1, if_pos (zl_lt hcC (by omega)), hfst, e_bd, e_let, cf_3, zi_ast (by rw [cn_48]; omega) (by omega), e_bd, e_jn]
      cases hq : hfb (hPt A) (hS (aH A)) n c (Int32.ofNat a) (hS (aH A)) 0 with
      | none =>
        rw [hq] at hRe
        dsimp only at hRe ⊢
        rw [if_pos rfl, e_let, zi_succ]
        obtain ⟨s', k1, k2, k3, k4, k5, k6⟩ := ih (c + 1) fu a g w (hp_s s 48 c (-1)) (by omega) (by omega) ha (bc_s ⟨a, by omega, rfl⟩ hb (by omega)) (h.put (by decide) (by decide)) (fun c' h1 h2 a' ha' hb' => by rw [hp_s_n (by decide)]; exact htb c' h1 h2 a' ha' hb') (by rw [hp_s_n (by decide)]; exact e4) (by rw [hp_s_n (by decide)]; exact e5)
        refine ⟨s', k1, k2, ?_, ?_, fun k h1 h2 => ?_, fun k hk => ?_⟩
        · rw [k3, hRe]; rfl
        · rw [k4, hRe]; rfl
        · rw [hRe]
          show s' 48 k = if k = c then -1 else (hR' (hPt A) (hS (aH A)) n (c + 1) (Int32.ofNat a)).2.2 k
          by_cases e : k = c
          · rw [if_pos e, e, k6 c (by omega), hp_s_i, upd_i]
          · rw [if_neg e]; exact k5 k (by omega) h2
        · rw [k6 k (by omega), hp_s_i, upd_n (by omega)]
      | some q =>
        obtain ⟨t, d⟩ := q
        rw [hq] at hRe
        dsimp only at hRe ⊢
        obtain ⟨ht, hf2⟩ := hfb_in (hS (aH A)) 0 (t, d) (by omega) hq
        dsimp only at ht hf2
        have hfr2 := hf2
        unfold hfr at hfr2
        split at hfr2
        · cases hfr2
        rename_i hbt
        have hbt2 : hasB (Int32.ofNat a) t = false := by simpa using hbt
        obtain ⟨a2, ha2, e2⟩ : zB (Int32.ofNat a ||| bitI t) (2 ^ hS (aH A)) := zB_or (by omega) ⟨a, ha, rfl⟩ (zB_bit ht h8)
        have hbc : bc (Int32.ofNat a2) ≤ Int32.ofNat (c + 1) := by
          rw [← e2]
          exact bc_o ⟨a, by omega, rfl⟩ hb (by omega) (by omega) hbt2
        rw [if_neg (show ¬ Int32.ofNat t = -1 from fun e => by
          have h3 := oI_m (some t) (fun t' h' => by cases h'; omega)
          have e3 : oI (some t) = -1 := e
          rw [h3] at e3
          cases e3)]
        simp only [e_let]
        rw [show (Int32.ofNat a ||| ((1 : Int32) <<< (Int32.ofNat t &&& 31))) = Int32.ofNat a2 from e2, cf_2, show Int32.ofNat c * 8 + Int32.ofNat t = Int32.ofNat (c * 8 + t) from by rw [show Int32.ofNat c * 8 = Int32.ofNat (c * 8) from zi_mul c 8, zi_add], zi_ald (by rw [cn_47]; omega) (by omega), e_bd, zi_succ]
        have hI1 : HI A σ (hp_s (hp_s (hp_s s 48 c (Int32.ofNat t)) 45 4 (hp_s s 48 c (Int32.ofNat t) 45 4 + 1)) 45 5 (hp_s (hp_s s 48 c (Int32.ofNat t)) 45 4 (hp_s s 48 c (Int32.ofNat t) 45 4 + 1) 45 5 + hp_s (hp_s s 48 c (Int32.ofNat t)) 45 4 (hp_s s 48 c (Int32.ofNat t) 45 4 + 1) 47 (c * 8 + t))) := ((h.put (by decide) (by decide)).put (by decide) (by decide)).put (by decide) (by decide)
        have p4 : hp_s (hp_s (hp_s s 48 c (Int32.ofNat t)) 45 4 (hp_s s 48 c (Int32.ofNat t) 45 4 + 1)) 45 5 (hp_s (hp_s s 48 c (Int32.ofNat t)) 45 4 (hp_s s 48 c (Int32.ofNat t) 45 4 + 1) 45 5 + hp_s (hp_s s 48 c (Int32.ofNat t)) 45 4 (hp_s s 48 c (Int32.ofNat t) 45 4 + 1) 47 (c * 8 + t)) 45 4 = Int32.ofNat (g + 1) := by rw [hp_s_i, upd_n (by decide), hp_s_i, upd_i, hp_s_n (show 45 ≠ 48 by decide), e4, zi_succ]
        have p5 : hp_s (hp_s (hp_s s 48 c (Int32.ofNat t)) 45 4 (hp_s s 48 c (Int32.ofNat t) 45 4 + 1)) 45 5 (hp_s (hp_s s 48 c (Int32.ofNat t)) 45 4 (hp_s s 48 c (Int32.ofNat t) 45 4 + 1) 45 5 + hp_s (hp_s s 48 c (Int32.ofNat t)) 45 4 (hp_s s 48 c (Int32.ofNat t) 45 4 + 1) 47 (c * 8 + t)) 45 5 = Int32.ofNat (w + d) := by
          rw [hp_s_i, upd_i, hp_s_i, upd_n (by decide), hp_s_n (show 45 ≠ 48 by decide), hp_s_n (show 47 ≠ 45 by decide), hp_s_n (show 47 ≠ 48 by decide), e5, h.2 c hcC t ht]
          unfold hpv
          rw [hfr2]
          exact zi_add w d
        have p48 : ∀ k, hp_s (hp_s (hp_s s 48 c (Int32.ofNat t)) 45 4 (hp_s s 48 c (Int32.ofNat t) 45 4 + 1)) 45 5 (hp_s (hp_s s 48 c (Int32.ofNat t)) 45 4 (hp_s s 48 c (Int32.ofNat t) 45 4 + 1) 45 5 + hp_s (hp_s s 48 c (Int32.ofNat t)) 45 4 (hp_s s 48 c (Int32.ofNat t) 45 4 + 1) 47 (c * 8 + t)) 48 k = upd (s 48) c (Int32.ofNat t) k := fun k => by rw [hp_s_n (show 48 ≠ 45 by decide), hp_s_n (show 48 ≠ 45 by decide), hp_s_i]
        have p46 : ∀ k, hp_s (hp_s (hp_s s 48 c (Int32.ofNat t)) 45 4 (hp_s s 48 c (Int32.ofNat t) 45 4 + 1)) 45 5 (hp_s (hp_s s 48 c (Int32.ofNat t)) 45 4 (hp_s s 48 c (Int32.ofNat t) 45 4 + 1) 45 5 + hp_s (hp_s s 48 c (Int32.ofNat t)) 45 4 (hp_s s 48 c (Int32.ofNat t) 45 4 + 1) 47 (c * 8 + t)) 46 k = s 46 k := fun k => by rw [hp_s_n (show 46 ≠ 45 by decide), hp_s_n (show 46 ≠ 45 by decide), hp_s_n (show 46 ≠ 48 by decide)]
        generalize hp_s (hp_s (hp_s s 48 c (Int32.ofNat t)) 45 4 (hp_s s 48 c (Int32.ofNat t) 45 4 + 1)) 45 5 (hp_s (hp_s s 48 c (Int32.ofNat t)) 45 4 (hp_s s 48 c (Int32.ofNat t) 45 4 + 1) 45 5 + hp_s (hp_s s 48 c (Int32.ofNat t)) 45 4 (hp_s s 48 c (Int32.ofNat t) 45 4 + 1) 47 (c * 8 + t)) = s9 at hI1 p4 p5 p48 p46 ⊢
        obtain ⟨s', k1, k2, k3, k4, k5, k6⟩ := ih (c + 1) fu a2 (g + 1) (w + d) s9 (by omega) (by omega) ha2 hbc hI1 (fun c' h1 h2 a' ha' hb' => by rw [p46]; exact htb c' h1 h2 a' ha' hb') p4 p5
        rw [e2] at hRe
        refine ⟨s', k1, k2, ?_, ?_, fun k h1 h2 => ?_, fun k hk => ?_⟩
        · rw [k3, hRe]
          show _ = Int32.ofNat (g + ((hR' (hPt A) (hS (aH A)) n (c + 1) (Int32.ofNat a2)).1 + 1))
          congr 1
          omega
        · rw [k4, hRe]
          show _ = Int32.ofNat (w + ((hR' (hPt A) (hS (aH A)) n (c + 1) (Int32.ofNat a2)).2.1 + d))
          congr 1
          omega
        · rw [hRe]
          show s' 48 k = if k = c then Int32.ofNat t else (hR' (hPt A) (hS (aH A)) n (c + 1) (Int32.ofNat a2)).2.2 k
          by_cases e : k = c
          · rw [if_pos e, e, k6 c (by omega), p48, upd_i]
          · rw [if_neg e]; exact k5 k (by omega) h2
        · rw [k6 k (by omega), p48, upd_n (by omega)]
  obtain ⟨s', k1, k2, k3, k4, k5, -⟩ := key (hC (aH A)) 0 FU 0 0 0 (hp_s (hp_s s 45 4 0) 45 5 0) (by omega) (FU_gt (by omega)) (Nat.pow_pos (by decide)) (by decide) ((h.put (by decide) (by decide)).put (by decide) (by decide)) (fun c' h1 h2 a' ha' hb' => by rw [hp_s_n (by decide), hp_s_n (by decide)]; exact htb c' h1 h2 a' ha' hb') (by rw [hp_s_i, upd_n (by decide), hp_s_i, upd_i]; rfl) (by rw [hp_s_i, upd_i]; rfl)
  rw [Nat.zero_add] at k3 k4
  exact ⟨s', k1, k2, k3, k4, fun k hk => k5 k (by omega) hk⟩
theorem xs_solve (ok : AOK A) (cx : CX σ A) : ∃ s', fn_Chase_solve 45 32 σ = some s' ∧ Fc SXQ σ s' ∧ s' 45 4 = Int32.ofNat (hun A).1 ∧ s' 45 5 = Int32.ofNat (hun A).2.1 ∧ ∀ k, k < hC (aH A) → s' 48 k = (hun A).2.2 k := by
  have h8 := ok.1.2.2.1
  have h5 := ok.1.2.2.2.1
  have hp8 := pow8 h8
  unfold fn_Chase_solve
  obtain ⟨s1, g1, g2, g3⟩ := xs_paths ok cx
  rw [g1, e_bd, e_let]
  refine Exists.elim (zL_R0 (L := fun fu s i => fn_Chase_solve_L7 45 (fun s_6 => px_let ((s_6 (sh_rf 45 0) 3) - (1 : Int32)) fun v2_7 => fn_Chase_solve_L49 45 (fun s_17 => Option.bind (fn_Chase_choose 45 s_17) fun s19 => some s19) FU v2_7 s_6) fu i s) (k := fun s_6 => px_let ((s_6 (sh_rf 45 0) 3) - (1 : Int32)) fun v2_7 => fn_Chase_solve_L49 45 (fun s_17 => Option.bind (fn_Chase_choose 45 s_17) fun s19 => some s19) FU v2_7 s_6) (N := 256) (fun _ (u : Unit) => u) (fun i s _ => HI A σ s ∧ ∀ a, a < i → s 46 (hC (aH A) * 256 + a) = 0) (by decide) (fun fu s u h => ?_) (fun fu i s u hi h => ?_) s1 () ⟨⟨fc_x g2 (by decide), g3⟩, fun a ha => absurd ha (Nat.not_lt_zero _)⟩) (fun s2 hs => ?_)
  · try dsimp only
    rw [fn_Chase_solve_L7, if_neg (by decide)]
  · try dsimp only
    have c1 : CX s A := cx.x h.1.1
    refine ⟨hp_s s 46 (hC (aH A) * 256 + i) 0, ?_, h.1.put (by decide) (by decide), fun a ha => ?_⟩
    · rw [fn_Chase_solve_L7, if_pos (show Int32.ofNat i < 256 from zl_lt (b := 256) hi (by decide)), cf_1, cf_0, hx_C c1.1, show Int32.ofNat (hC (aH A)) * 256 + Int32.ofNat i = Int32.ofNat (hC (aH A) * 256 + i) from by rw [show Int32.ofNat (hC (aH A)) * 256 = Int32.ofNat (hC (aH A) * 256) from zi_mul (hC (aH A)) 256, zi_add], zi_ast (by rw [cn_46]; omega) (by omega), e_bd, e_let, zi_succ]
    · rw [hp_s_i]
      by_cases e : a = i
      · rw [e, upd_i]
      · rw [upd_n (by omega)]; exact h.2 a (by omega)
  · obtain ⟨k1, k2, k3⟩ := hs
    have c2 : CX s2 A := cx.x k2.1
    have htb : TBl A (hC (aH A)) s2 := by
      intro c' h1 h2 a ha hb
      have e : c' = hC (aH A) := by omega
      rw [e, k3 a (by omega), Nat.sub_self]
      rfl
    obtain ⟨s3, m1, m2, m3⟩ := xs_table ok cx (fun s_17 => Option.bind (fn_Chase_choose 45 s_17) fun s19 => some s19) (hC (aH A)) FU s2 (Nat.le_refl _) (FU_gt (by omega)) k2 htb
    obtain ⟨s4, n1, n2⟩ := xs_choose ok cx m2 m3
    refine ⟨s4, ?_, n2⟩
    refine k1.trans ?_
    rw [e_let, cf_0, hx_C c2.1]
    refine m1.trans ?_
    rw [n1, e_bd]
theorem xq_hunt (ok : AOK A) (cx : CX σ A) (w : Int32) : XQ σ (fn_X_hunt 0 w σ) (qb_i (inB w 0 1) 0) (if w = 0 then Int32.ofNat (hun A).1 else Int32.ofNat (hun A).2.1) := by
  unfold fn_X_hunt
  refine xg_in fun _ => ?_
  obtain ⟨s', g1, g2, g3, g4, -⟩ := xs_solve ok cx
  refine xq_f ?_ g2
  rw [xf_10, xf_6, g1, e_bd, e_jn, g3, g4]
  exact ite_g (rX s') (fun _ => rfl) (fun _ => rfl)
theorem xq_prey (ok : AOK A) (cx : CX σ A) (p : Int32) : XQ σ (fn_X_prey 0 p σ) (qb_o (oneB p (hC (aH A))) 0) ((hun A).2.2 p.toNatClampNeg) := by
  unfold fn_X_prey
  refine xg_one (by rw [xf_1]; exact hx_C cx.1) fun h1 => ?_
  have h5 := ok.1.2.2.2.1
  obtain ⟨k, hk, rfl⟩ := oneB_z (by omega) h1
  obtain ⟨s', g1, g2, -, -, g5⟩ := xs_solve ok cx
  refine xq_f ?_ g2
  rw [xf_10, xf_6, g1, e_bd, cf_3, zi_ald (by rw [cn_48]; omega) (by omega), e_bd, g5 k hk, zi_nat (by omega)]
end HY

/-! FEED -/
def FD (c a : Nat) (σ : hp_I) (n : Nat) (f : Nat → Int32) (m : Nat) (s : hp_I) : Prop := s a 1 = Int32.ofNat (n + m) ∧ (∀ j, j ≠ 1 → s a j = σ a j) ∧ (∀ i, i ≠ a → i ≠ c → s i = σ i) ∧ (∀ k, k < n → s c k = σ c k) ∧ ∀ j, j < m → s c (n + j) = f j
theorem FD.next {c a n m : Nat} {σ s : hp_I} {f : Nat → Int32} (hca : c ≠ a) (h : FD c a σ n f m s) : FD c a σ n f (m + 1) (hp_s (hp_s s c (n + m) (f m)) a 1 (Int32.ofNat (n + (m + 1)))) := by
  obtain ⟨h1, h2, h3, h4, h5⟩ := h
  refine ⟨by rw [hp_s_i, upd_i], fun j hj => ?_, fun i a1 a2 => ?_, fun k hk => ?_, fun j hj => ?_⟩
  · rw [hp_s_i, upd_n hj, hp_s_n (by omega)]; exact h2 j hj
  · rw [hp_s_n a1, hp_s_n a2]; exact h3 i a1 a2
  · rw [hp_s_n hca, hp_s_i, upd_n (by omega)]; exact h4 k hk
  · rw [hp_s_n hca, hp_s_i]
    by_cases e : j = m
    · rw [e, upd_i]
    · rw [upd_n (by omega)]; exact h5 j (by omega)
theorem tf_0 : sh_rf 1 0 = 2 := by decide +kernel
theorem tn_2 : sh_ln 2 = 600 := by decide +kernel
theorem tn_53 : sh_ln 53 = 600 := by decide +kernel
section FED
variable {σ s : hp_I} {n m : Nat} {f : Nat → Int32} {v : Int32}
theorem put_1 {K : hp_I → Option hp_I} {fu t : Nat} (h : FD 2 1 σ n f m s) (ht : t < 4) (hf : f m = (v >>> (Int32.ofNat (24 - 8 * t) &&& 31)) &&& 255) (hn : n + m < 600) : fn_Tape_put_L3 1 v K (fu + 1) (Int32.ofNat (24 - 8 * t)) s = fn_Tape_put_L3 1 v K fu (Int32.ofNat (24 - 8 * t) + (-8)) (hp_s (hp_s s 2 (n + m) (f m)) 1 1 (Int32.ofNat (n + (m + 1)))) := by
  rw [fn_Tape_put_L3, if_pos (zi_pos (by omega)), h.1, if_pos (show Int32.ofNat (n + m) < 600 from zl_lt (b := 600) hn (by decide)), tf_0, zi_ast (by rw [tn_2]; omega) (by omega), e_bd, e_let, e_let, hp_s_n (show 1 ≠ 2 by decide), h.1, zi_succ, ← hf]
  rfl
theorem xs_put (h : FD 2 1 σ n f m s) (hf : ∀ t, t < 4 → f (m + t) = (v >>> (Int32.ofNat (24 - 8 * t) &&& 31)) &&& 255) (hn : n + m + 4 ≤ 600) : ∃ s', fn_Tape_put 1 v s = some s' ∧ FD 2 1 σ n f (m + 4) s' := by
  unfold fn_Tape_put
  rw [e_let]
  generalize hF : FU = F
  have hF2 : F = 100000 := hF.symm
  obtain ⟨F, rfl⟩ : ∃ g, F = g + 5 := ⟨F - 5, by omega⟩
  have h1 := h.next (by decide)
  have h2 := h1.next (by decide)
  have h3 := h2.next (by decide)
  have h4 := h3.next (by decide)
  refine ⟨_, ?_, h4⟩
  have a1 := put_1 (K := fun s => some s) (fu := F + 4) (t := 0) (v := v) h (by decide) (hf 0 (by decide)) (by omega)
  have a2 := put_1 (K := fun s => some s) (fu := F + 3) (t := 1) (v := v) h1 (by decide) (hf 1 (by decide)) (by omega)
  have a3 := put_1 (K := fun s => some s) (fu := F + 2) (t := 2) (v := v) h2 (by decide) (hf 2 (by decide)) (by omega)
  have a4 := put_1 (K := fun s => some s) (fu := F + 1) (t := 3) (v := v) h3 (by decide) (hf 3 (by decide)) (by omega)
  refine a1.trans ?_
  rw [show Int32.ofNat (24 - 8 * 0) + (-8) = Int32.ofNat (24 - 8 * 1) from by decide]
  refine a2.trans ?_
  rw [show Int32.ofNat (24 - 8 * 1) + (-8) = Int32.ofNat (24 - 8 * 2) from by decide]
  refine a3.trans ?_
  rw [show Int32.ofNat (24 - 8 * 2) + (-8) = Int32.ofNat (24 - 8 * 3) from by decide]
  refine a4.trans ?_
  rw [fn_Tape_put_L3, if_neg (by decide)]
def fd_v (a b c d e : Int32) (i : Nat) : Int32 := if i < 4 then a else if i < 8 then b else if i < 12 then c else if i < 16 then d else e
def fd_b (a b c d e : Int32) (i : Nat) : Int32 := (fd_v a b c d e i >>> (Int32.ofNat (24 - 8 * (i % 4)) &&& 31)) &&& 255
theorem fd_lt (a b c d e : Int32) (i : Nat) : zB (fd_b a b c d e i) 256 := by
  unfold fd_b
  rw [Int32.and_comm]
  exact zB_and (by decide) ⟨255, by decide, rfl⟩
theorem xs_feed (a b c d e : Int32) (h0 : σ 1 1 = Int32.ofNat n) (hn : n + 20 ≤ 600) : ∃ s, fn_X_feed 0 a b c d e σ = some (Int32.ofNat (n + 20), s) ∧ FD 2 1 σ n (fd_b a b c d e) 20 s := by
  unfold fn_X_feed fn_Tape_hasRoomForFive fn_Tape_bytesOnIt
  have f0 : FD 2 1 σ n (fd_b a b c d e) 0 σ := ⟨h0, fun _ _ => rfl, fun _ _ _ => rfl, fun _ _ => rfl, fun j hj => absurd hj (Nat.not_lt_zero _)⟩
  obtain ⟨s1, g1, f1⟩ := xs_put (v := a) f0 (fun t ht => by
    unfold fd_b fd_v
    rw [if_pos (by omega), show (0 + t) % 4 = t by omega]) (by omega)
  obtain ⟨s2, g2, f2⟩ := xs_put (v := b) f1 (fun t ht => by
    unfold fd_b fd_v
    rw [if_neg (by omega), if_pos (by omega), show (0 + 4 + t) % 4 = t by omega]) (by omega)
  obtain ⟨s3, g3, f3⟩ := xs_put (v := c) f2 (fun t ht => by
    unfold fd_b fd_v
    rw [if_neg (by omega), if_neg (by omega), if_pos (by omega), show (0 + 4 + 4 + t) % 4 = t by omega]) (by omega)
  obtain ⟨s4, g4, f4⟩ := xs_put (v := d) f3 (fun t ht => by
    unfold fd_b fd_v
    rw [if_neg (by omega), if_neg (by omega), if_neg (by omega), if_pos (by omega), show (0 + 4 + 4 + 4 + t) % 4 = t by omega]) (by omega)
  obtain ⟨s5, g5, f5⟩ := xs_put (v := e) f4 (fun t ht => by
    unfold fd_b fd_v
    rw [if_neg (by omega), if_neg (by omega), if_neg (by omega), if_neg (by omega), show (0 + 4 + 4 + 4 + 4 + t) % 4 = t by omega]) (by omega)
  refine ⟨s5, ?_, f5⟩
  rw [xf_0, e_jn, h0, if_pos (show Int32.ofNat n + 20 ≤ 600 from by rw [show Int32.ofNat n + 20 = Int32.ofNat (n + 20) from zi_add n 20]; exact zl_le (b := 600) hn (by decide))]
  simp only [e_z1, e_bd]
  rw [if_neg (show ¬ (1 : Int32) = 0 from by decide), g1, e_bd, g2, e_bd, g3, e_bd, g4, e_bd, g5, e_bd, f5.1]
theorem ms_feed (a b c d e : Int32) (h0 : σ 52 1 = Int32.ofNat n) (hn : n + 20 ≤ 600) : ∃ s, fn_M_feed 52 a b c d e σ = some (Int32.ofNat (n + 20), s) ∧ FD 53 52 (hp_s σ 52 0 0) n (fd_b a b c d e) 20 s := by
  unfold fn_M_feed
  have h1 : hp_s σ 52 0 0 52 1 = Int32.ofNat n := by rw [hp_s_i, upd_n (by decide)]; exact h0
  rw [e_let, h1, if_neg (show ¬ (600 : Int32) < Int32.ofNat n + 20 from by rw [show Int32.ofNat n + 20 = Int32.ofNat (n + 20) from zi_add n 20]; exact zl_nlt (a := 600) hn (by decide)), e_let]
  have f0 : FD 53 52 (hp_s σ 52 0 0) n (fd_b a b c d e) 0 (hp_s σ 52 0 0) := ⟨h1, fun _ _ => rfl, fun _ _ _ => rfl, fun _ _ => rfl, fun j hj => absurd hj (Nat.not_lt_zero _)⟩
  generalize hp_s σ 52 0 0 = s0 at f0 ⊢
  refine Exists.elim (zL_R0 (L := fun fu s i => fn_M_feed_L23 52 a b c d e (fun s_10 => some (s_10 52 1, s_10)) fu i s) (k := fun s_10 => some (s_10 52 1, s_10)) (N := 20) (fun _ (u : Unit) => u) (fun i s _ => FD 53 52 s0 n (fd_b a b c d e) i s) (by decide) (fun fu s u h => ?_) (fun fu i s u hi h => ?_) s0 () f0) (fun s hs => ⟨s, by rw [hs.1, hs.2.1], hs.2⟩)
  · try dsimp only
    rw [fn_M_feed_L23, if_neg (by decide)]
  · try dsimp only
    refine ⟨_, ?_, h.next (by decide)⟩
    have hsh : (24 : Int32) - 8 * Int32.ofNat (i % 4) = Int32.ofNat (24 - 8 * (i % 4)) := by
      rw [show (8 : Int32) * Int32.ofNat (i % 4) = Int32.ofNat (8 * (i % 4)) from zi_mul 8 (i % 4)]
      exact zi_sub (a := 24) (by omega)
    rw [fn_M_feed_L23, if_pos (show Int32.ofNat i < 20 from zl_lt (b := 20) hi (by decide)), e_jn]
    simp only [e_let, show px_rem (Int32.ofNat i) 4 = some (Int32.ofNat (i % 4)) from zi_rem (b := 4) (by omega) (by decide) (by decide), e_bd, hsh, sm_9, h.1, zi_ast (show n + i < sh_ln 53 by rw [tn_53]; omega) (show n + i < 2147483648 by omega), hp_s_n (show 52 ≠ 53 by decide), zi_succ]
    unfold fd_b fd_v
    by_cases c1 : i < 4
    · simp only [if_pos c1, if_pos (show Int32.ofNat i < 4 from zl_lt (b := 4) c1 (by decide))]; rfl
    · rw [if_neg (show ¬ Int32.ofNat i < 4 from zl_nlt (b := 4) (by omega) (by omega))]
      by_cases c2 : i < 8
      · simp only [if_neg c1, if_pos c2, if_pos (show Int32.ofNat i < 8 from zl_lt (b := 8) c2 (by decide))]; rfl
      · rw [if_neg (show ¬ Int32.ofNat i < 8 from zl_nlt (b := 8) (by omega) (by omega))]
        by_cases c3 : i < 12
        · simp only [if_neg c1, if_neg c2, if_pos c3, if_pos (show Int32.ofNat i < 12 from zl_lt (b := 12) c3 (by decide))]; rfl
        · rw [if_neg (show ¬ Int32.ofNat i < 12 from zl_nlt (b := 12) (by omega) (by omega))]
          by_cases c4 : i < 16
          · simp only [if_neg c1, if_neg c2, if_neg c3, if_pos c4, if_pos (show Int32.ofNat i < 16 from zl_lt (b := 16) c4 (by decide))]; rfl
          · simp only [if_neg c1, if_neg c2, if_neg c3, if_neg c4, if_neg (show ¬ Int32.ofNat i < 16 from zl_nlt (b := 16) (by omega) (by omega))]; rfl
end FED
theorem lk_0 {L : Nat} {xs y : Nat → Int32} {i : Int32} {s0 : hp_I} {u0 : hp_L} {j : hp_I → hp_L → Option Int32} (hy : SL L xs i y) (r : REL s0) : ∃ s3 u3, lc_0 L xs j i s0 u0 = j s3 u3 ∧ REL s3 := by
  obtain ⟨A, ok, cx, cm, tp, ct⟩ := r
  unfold lc_0
  simp only [e_bd, sl_1 hy, sl_2 hy, sl_3 hy, sl_4 hy, sl_5 hy]
  obtain ⟨⟨n, hn, t1, t2, t3⟩, t4⟩ := tp
  by_cases hl : n + 20 ≤ 600
  · obtain ⟨s1, a1, a2, a3, a4, a5, a6⟩ := xs_feed (y 1) (y 2) (y 3) (y 4) (y 5) t1 hl
    have hi : ∀ i, 52 ≤ i → s1 i = s0 i := fun i hi => a4 i (by omega) (by omega)
    have cm1 : CM s1 A := cm.hi ok hi
    obtain ⟨s2, b1, b2, b3, b4, b5, b6⟩ := ms_feed (σ := s1) (y 1) (y 2) (y 3) (y 4) (y 5) (by rw [hi 52 (by decide)]; exact t2) hl
    have e52 : ∀ j, j ≠ 1 → j ≠ 0 → s2 52 j = s0 52 j := fun j h1 h2 => by rw [b3 j h1, hp_s_i, upd_n h2, hi 52 (by decide)]
    have ei : ∀ i, i ≠ 52 → i ≠ 53 → s2 i = s1 i := fun i h1 h2 => by rw [b4 i h1 h2, hp_s_n h1]
    have cx1 : CX s1 A := cx.fr (fun i hi => a4 i (by intro e; rw [e] at hi; exact absurd hi (by decide)) (by intro e; rw [e] at hi; exact absurd hi (by decide)))
    have cm2 : CM s2 A := cm1.fr ok (fun i hi => ei i (by unfold KM at hi; omega) (by unfold KM at hi; omega)) (fun k hk => by rw [e52 k (by intro e; rw [e] at hk; exact absurd hk (by decide)) (by intro e; rw [e] at hk; exact absurd hk (by decide)), hi 52 (by decide)])
    rw [a1, e_b2, b1, e_b2, if_pos rfl]
    refine ⟨_, _, rfl, rel_mk ok cx1 cm2 (fun i hi => ei i (by omega) (by omega)) ⟨⟨n + 20, hl, ?_, b2, fun k hk => ?_⟩, ?_, t4.2.fr (by rw [ei 42 (by decide) (by decide), a4 42 (by decide) (by decide)]) (by rw [ei 43 (by decide) (by decide), a4 43 (by decide) (by decide)])⟩ ?_⟩
    · rw [ei 1 (by decide) (by decide)]; exact a2
    · rw [ei 2 (by decide) (by decide)]
      by_cases hk2 : k < n
      · rw [b5 k hk2, hp_s_n (by decide), a5 k hk2, hi 53 (by decide)]
        exact t3 k hk2
      · obtain ⟨q, rfl⟩ : ∃ q, k = n + q := ⟨k - n, by omega⟩
        rw [b6 q (by omega), a6 q (by omega)]
        exact ⟨rfl, fd_lt _ _ _ _ _ _⟩
    · rw [e52 3 (by decide) (by decide), ei 1 (by decide) (by decide), a3 5 (by decide)]; exact t4.1
    · unfold CT
      rw [e52 32 (by decide) (by decide), ei 0 (by decide) (by decide), ei 54 (by decide) (by decide), a4 0 (by decide) (by decide), hi 54 (by decide)]
      exact ct
  · have e1 : fn_X_feed 0 (y 1) (y 2) (y 3) (y 4) (y 5) s0 = some (-1, s0) := by
      unfold fn_X_feed fn_Tape_hasRoomForFive
      rw [xf_0, e_jn, t1, if_neg (show ¬ Int32.ofNat n + 20 ≤ 600 from by rw [show Int32.ofNat n + 20 = Int32.ofNat (n + 20) from zi_add n 20]; exact zl_nle (b := 600) (by omega) (by omega))]
      simp only [e_z0, e_bd]
      rw [if_pos trivial]
    have e2 : fn_M_feed 52 (y 1) (y 2) (y 3) (y 4) (y 5) s0 = some (-1, hp_s s0 52 0 0) := by
      unfold fn_M_feed
      rw [e_let, show hp_s s0 52 0 0 52 1 = Int32.ofNat n from by rw [hp_s_i, upd_n (by decide)]; exact t2, if_pos (show (600 : Int32) < Int32.ofNat n + 20 from by rw [show Int32.ofNat n + 20 = Int32.ofNat (n + 20) from zi_add n 20]; exact zl_lt (a := 600) (by omega) (by omega))]
    rw [e1, e_b2, e2, e_b2, if_pos rfl]
    refine ⟨_, _, rfl, rel_q ok cx cm ⟨⟨n, hn, t1, t2, t3⟩, t4⟩ fm_0 ?_⟩
    unfold CT
    rw [hp_s_i, upd_n (by decide), hp_s_n (show 54 ≠ 52 by decide), hp_s_n (show 0 ≠ 52 by decide)]
    exact ct

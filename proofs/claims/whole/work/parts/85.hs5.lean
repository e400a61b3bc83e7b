/-! HOUSE: what begins anew, the model -/
theorem mn_572 : sh_ln 572 = 47 := by decide +kernel
section BG
variable {s t : hp_I} {H : ab_H}
theorem w572 (f : hp_I) (k q : Nat) (v : Int32) (h : k + q < 47) : px_ast f 572 (Int32.ofNat k + Int32.ofNat q) v = some (hp_s f 572 (k + q) v) := by rw [zi_add]; exact zi_ast (by rw [mn_572]; exact h) (by omega)
theorem bg_t (K : hp_I → Option hp_I) : ∃ s', fn_M_tellsNothing_L2 52 K FU 0 s = K s' ∧ (∀ k, k < 4 → s' 55 k = 0) ∧ ∀ i, i ≠ 55 → s' i = s i := by
  obtain ⟨s', k1, k2⟩ := zL_R0 (L := fun fu x i => fn_M_tellsNothing_L2 52 K fu i x) (k := K) (N := 4) (fun _ (u : Unit) => u) (fun m x _ => (∀ k, k < m → x 55 k = 0) ∧ ∀ i, i ≠ 55 → x i = s i) (by decide) (fun fu x u h => by
      try dsimp only
      rw [fn_M_tellsNothing_L2, if_neg (show ¬ Int32.ofNat 4 < 4 from by decide)]) (fun fu m x u hm h => by
      try dsimp only
      refine ⟨hp_s x 55 m 0, ?_, fun k hk => ?_, fun i hi => by rw [hp_s_n hi]; exact h.2 i hi⟩
      · rw [fn_M_tellsNothing_L2, if_pos (show Int32.ofNat m < 4 from zl_lt (b := 4) hm (by decide)), sm_11, wr_55 hm, e_bd, e_let, zi_succ]
      · by_cases e : k = m
        · rw [e, hs_at]
        · rw [hs_ne (by omega)]; exact h.1 k (by omega)) s () ⟨fun k hk => absurd hk (Nat.not_lt_zero _), fun _ _ => rfl⟩
  exact ⟨s', k1, k2.1, k2.2⟩
theorem bg_a (K : hp_I → Option hp_I) : ∃ s', fn_M_beginsAnew_L2 52 K FU 0 s = K s' ∧ (∀ k, k < 4 → s' 56 k = s 55 k) ∧ ∀ i, i ≠ 56 → s' i = s i := by
  obtain ⟨s', k1, k2⟩ := zL_R0 (L := fun fu x i => fn_M_beginsAnew_L2 52 K fu i x) (k := K) (N := 4) (fun _ (u : Unit) => u) (fun m x _ => (∀ k, k < m → x 56 k = s 55 k) ∧ ∀ i, i ≠ 56 → x i = s i) (by decide) (fun fu x u h => by
      try dsimp only
      rw [fn_M_beginsAnew_L2, if_neg (show ¬ Int32.ofNat 4 < 4 from by decide)]) (fun fu m x u hm h => by
      try dsimp only
      refine ⟨hp_s x 56 m (s 55 m), ?_, fun k hk => ?_, fun i hi => by rw [hp_s_n hi]; exact h.2 i hi⟩
      · rw [fn_M_beginsAnew_L2, if_pos (show Int32.ofNat m < 4 from zl_lt (b := 4) hm (by decide)), sm_11, sm_12, rd_55 hm, e_bd, h.2 55 (by decide), zi_ast (show m < sh_ln 56 by rw [sn_56]; exact hm) (by omega), e_bd, e_let, zi_succ]
      · by_cases e : k = m
        · rw [e, hs_at]
        · rw [hs_ne (by omega)]; exact h.1 k (by omega)) s () ⟨fun k hk => absurd hk (Nat.not_lt_zero _), fun _ _ => rfl⟩
  exact ⟨s', k1, k2.1, k2.2⟩
theorem bg_c (K : hp_I → Option hp_I) : ∃ s', fn_M_beginsAnew_L40 52 K FU 0 s = K s' ∧ (∀ k, k < 47 → s' 572 k = 0) ∧ ∀ i, i ≠ 572 → s' i = s i := by
  obtain ⟨s', k1, k2⟩ := zL_R0 (L := fun fu x i => fn_M_beginsAnew_L40 52 K fu i x) (k := K) (N := 47) (fun _ (u : Unit) => u) (fun m x _ => (∀ k, k < m → x 572 k = 0) ∧ ∀ i, i ≠ 572 → x i = s i) (by decide) (fun fu x u h => by
      try dsimp only
      rw [fn_M_beginsAnew_L40, if_neg (show ¬ Int32.ofNat 47 < 47 from by decide)]) (fun fu m x u hm h => by
      try dsimp only
      refine ⟨hp_s x 572 m 0, ?_, fun k hk => ?_, fun i hi => by rw [hp_s_n hi]; exact h.2 i hi⟩
      · rw [fn_M_beginsAnew_L40, if_pos (show Int32.ofNat m < 47 from zl_lt (b := 47) hm (by decide)), sm_25, zi_ast (show m < sh_ln 572 by rw [mn_572]; exact hm) (by omega), e_bd, e_let, zi_succ]
      · by_cases e : k = m
        · rw [e, hs_at]
        · rw [hs_ne (by omega)]; exact h.1 k (by omega)) s () ⟨fun k hk => absurd hk (Nat.not_lt_zero _), fun _ _ => rfl⟩
  exact ⟨s', k1, k2.1, k2.2⟩
theorem rd_107 {x : hp_I} {a j : Nat} (ha : a < 48) (hj : j < 3) : px_ald x (107 + a) (Int32.ofNat j) = some (x (107 + a) j) := zi_ald (by rw [sn_107 a ha]; exact hj) (by omega)
theorem bg_d (ok : HOK H) (hm : HM s H) (K : hp_I → Option hp_I) : ∃ s', fn_M_beginsAnew_L61 52 K FU 0 s = K s' ∧ (∀ q, q < 8 → s' 572 (0 + q) = (if q < hS H then hV H 3 q else 0) ∧ s' 572 (8 + q) = (if q < hS H then hV H 4 q else 0) ∧ s' 572 (16 + q) = -1 ∧ s' 572 (24 + q) = -1) ∧ (∀ k, 32 ≤ k → s' 572 k = s 572 k) ∧ ∀ i, i ≠ 572 → s' i = s i := by
  obtain ⟨o1, o2, o3, o4, -⟩ := ok
  have e2 : ∀ x : hp_I, (∀ i, i ≠ 572 → x i = s i) → px_ald x 56 (2 : Int32) = some (Int32.ofNat (hS H)) := fun x hx => by
    rw [show px_ald x 56 (2 : Int32) = some (x 56 2) from zi_ald (a := 2) (by rw [sn_56]; decide) (by decide), hx 56 (by decide)]
    exact congrArg some hm.1.2.2.1
  obtain ⟨s', k1, k2⟩ := zL_R0 (L := fun fu x i => fn_M_beginsAnew_L61 52 K fu i x) (k := K) (N := 8) (fun _ (u : Unit) => u) (fun m x _ => (∀ i, i ≠ 572 → x i = s i) ∧ (∀ k, 32 ≤ k → x 572 k = s 572 k) ∧ ∀ q, q < m → x 572 (0 + q) = (if q < hS H then hV H 3 q else 0) ∧ x 572 (8 + q) = (if q < hS H then hV H 4 q else 0) ∧ x 572 (16 + q) = -1 ∧ x 572 (24 + q) = -1) (by decide) (fun fu x u h => by
      try dsimp only
      rw [fn_M_beginsAnew_L61, if_neg (show ¬ Int32.ofNat 8 < 8 from by decide)]) (fun fu m x u hm8 h => by
      try dsimp only
      have f1 : ∀ v : Int32, ∀ i, i ≠ 572 → hp_s x 572 (0 + m) v i = s i := fun v i hi => by rw [hp_s_n hi]; exact h.1 i hi
      refine ⟨hp_s (hp_s (hp_s (hp_s x 572 (0 + m) (if m < hS H then hV H 3 m else 0)) 572 (8 + m) (if m < hS H then hV H 4 m else 0)) 572 (16 + m) (-1)) 572 (24 + m) (-1), ?_, fun i hi => ?_, fun k hk => ?_, fun q hq => ?_⟩
      · rw [fn_M_beginsAnew_L61, if_pos (show Int32.ofNat m < 8 from zl_lt (b := 8) hm8 (by decide)), sm_12, sm_14, sm_25, e2 x h.1, e_bd, e_jn]
        have tail : ∀ (v : Int32) (w : Int32), w = (if m < hS H then hV H 4 m else 0) → (Option.bind (px_ast x 572 ((0 : Int32) + Int32.ofNat m) v) fun s15 => Option.bind (px_ald s15 56 (2 : Int32)) fun z16 => px_jn (fun (t17 : Int32) => Option.bind (px_ast s15 572 ((8 : Int32) + Int32.ofNat m) t17) fun s18 => Option.bind (px_ast s18 572 ((16 : Int32) + Int32.ofNat m) (-1 : Int32)) fun s19 => Option.bind (px_ast s19 572 ((24 : Int32) + Int32.ofNat m) (-1 : Int32)) fun s20 => px_let (Int32.ofNat m + 1) fun v1_21 => fn_M_beginsAnew_L61 52 K fu v1_21 s20) fun j22 => if Int32.ofNat m < z16 then (Option.bind (fn_M_placeOf (2 : Int32) (Int32.ofNat m)) fun z23 => Option.bind (px_rld 106 z23) fun z24 => Option.bind (px_ald s15 z24 (1 : Int32)) fun z25 => j22 z25) else j22 (0 : Int32)) = fn_M_beginsAnew_L61 52 K fu (Int32.ofNat (m + 1)) (hp_s (hp_s (hp_s (hp_s x 572 (0 + m) v) 572 (8 + m) w) 572 (16 + m) (-1)) 572 (24 + m) (-1)) := by
          intro v w hw
          rw [show px_ast x 572 ((0 : Int32) + Int32.ofNat m) v = _ from w572 x 0 m v (by omega), e_bd, e2 _ (f1 v), e_bd, e_jn]
          have fin : ∀ w : Int32, (Option.bind (px_ast (hp_s x 572 (0 + m) v) 572 ((8 : Int32) + Int32.ofNat m) w) fun s18 => Option.bind (px_ast s18 572 ((16 : Int32) + Int32.ofNat m) (-1 : Int32)) fun s19 => Option.bind (px_ast s19 572 ((24 : Int32) + Int32.ofNat m) (-1 : Int32)) fun s20 => px_let (Int32.ofNat m + 1) fun v1_21 => fn_M_beginsAnew_L61 52 K fu v1_21 s20) = fn_M_beginsAnew_L61 52 K fu (Int32.ofNat (m + 1)) (hp_s (hp_s (hp_s (hp_s x 572 (0 + m) v) 572 (8 + m) w) 572 (16 + m) (-1)) 572 (24 + m) (-1)) := by
            intro w
            rw [show px_ast (hp_s x 572 (0 + m) v) 572 ((8 : Int32) + Int32.ofNat m) w = _ from w572 _ 8 m w (by omega), e_bd, show ∀ f : hp_I, px_ast f 572 ((16 : Int32) + Int32.ofNat m) (-1) = _ from fun f => w572 f 16 m (-1) (by omega), e_bd, show ∀ f : hp_I, px_ast f 572 ((24 : Int32) + Int32.ofNat m) (-1) = _ from fun f => w572 f 24 m (-1) (by omega), e_bd, e_let, zi_succ]
          by_cases c : m < hS H
          · rw [if_pos (zl_lt c (by omega)), show fn_M_placeOf (2 : Int32) (Int32.ofNat m) = some (Int32.ofNat (24 + m)) from by unfold fn_M_placeOf; rw [show (12 : Int32) * 2 = Int32.ofNat 24 from by decide, zi_add], e_bd, zi_rld (show 24 + m < sh_ln 106 by rw [sn_106]; omega) (by omega), e_bd, sm_106, show px_ald (hp_s x 572 (0 + m) v) (107 + (24 + m)) (1 : Int32) = some _ from rd_107 (j := 1) (by omega) (by decide), e_bd, f1 v _ (by omega), (hm.2.2.2.1 m c).2.1]
            rw [if_pos c] at hw
            rw [← hw]
            exact fin w
          · rw [if_neg (zl_nlt (by omega) (by omega))]
            rw [if_neg c] at hw
            rw [← hw]
            exact fin w
        by_cases c : m < hS H
        · rw [if_pos (zl_lt c (by omega)), show fn_M_placeOf (2 : Int32) (Int32.ofNat m) = some (Int32.ofNat (24 + m)) from by unfold fn_M_placeOf; rw [show (12 : Int32) * 2 = Int32.ofNat 24 from by decide, zi_add], e_bd, zi_rld (show 24 + m < sh_ln 106 by rw [sn_106]; omega) (by omega), e_bd, sm_106, show px_ald x (107 + (24 + m)) (0 : Int32) = some _ from rd_107 (j := 0) (by omega) (by decide), e_bd, h.1 _ (by omega), (hm.2.2.2.1 m c).1]
          have tl := tail (hV H 3 m) _ rfl
          rw [show fn_M_placeOf (2 : Int32) (Int32.ofNat m) = some (Int32.ofNat (24 + m)) from by unfold fn_M_placeOf; rw [show (12 : Int32) * 2 = Int32.ofNat 24 from by decide, zi_add]] at tl
          refine Eq.trans tl ?_
          rw [if_pos c, if_pos c]
        · rw [if_neg (zl_nlt (by omega) (by omega))]
          refine (tail 0 _ rfl).trans ?_
          rw [if_neg c, if_neg c]
      · rw [hp_s_n hi, hp_s_n hi, hp_s_n hi, hp_s_n hi]; exact h.1 i hi
      · rw [hs_ne (by omega), hs_ne (by omega), hs_ne (by omega), hs_ne (by omega)]; exact h.2.1 k hk
      · by_cases e : q = m
        · subst e
          refine ⟨?_, ?_, ?_, ?_⟩
          · rw [hs_ne (by omega), hs_ne (by omega), hs_ne (by omega), hs_at]
          · rw [hs_ne (by omega), hs_ne (by omega), hs_at]
          · rw [hs_ne (by omega), hs_at]
          · rw [hs_at]
        · have hq2 : q < m := by omega
          obtain ⟨z1, z2, z3, z4⟩ := h.2.2 q hq2
          refine ⟨?_, ?_, ?_, ?_⟩
          · rw [hs_ne (by omega), hs_ne (by omega), hs_ne (by omega), hs_ne (by omega)]; exact z1
          · rw [hs_ne (by omega), hs_ne (by omega), hs_ne (by omega), hs_ne (by omega)]; exact z2
          · rw [hs_ne (by omega), hs_ne (by omega), hs_ne (by omega), hs_ne (by omega)]; exact z3
          · rw [hs_ne (by omega), hs_ne (by omega), hs_ne (by omega), hs_ne (by omega)]; exact z4) s () ⟨fun _ _ => rfl, fun _ _ => rfl, fun q hq => absurd hq (Nat.not_lt_zero _)⟩
  exact ⟨s', k1, fun q hq => k2.2.2 q hq, k2.2.1, k2.1⟩
theorem bg_e (ok : HOK H) (hm : HM s H) (K : hp_I → Option hp_I) : ∃ s', fn_M_beginsAnew_L164 52 K FU 0 s = K s' ∧ (∀ q, q < hC H → s' 572 (32 + q) = hV H 6 q) ∧ (∀ k, ¬ (32 ≤ k ∧ k < 37) → s' 572 k = s 572 k) ∧ ∀ i, i ≠ 572 → s' i = s i := by
  obtain ⟨o1, o2, o3, o4, -⟩ := ok
  have e3 : ∀ x : hp_I, (∀ i, i ≠ 572 → x i = s i) → px_ald x 56 (3 : Int32) = some (Int32.ofNat (hC H)) := fun x hx => by
    rw [show px_ald x 56 (3 : Int32) = some (x 56 3) from zi_ald (a := 3) (by rw [sn_56]; decide) (by decide), hx 56 (by decide)]
    exact congrArg some hm.1.2.2.2
  obtain ⟨s', k1, k2⟩ := zL_R0 (L := fun fu x i => fn_M_beginsAnew_L164 52 K fu i x) (k := K) (N := hC H) (fun _ (u : Unit) => u) (fun m x _ => (∀ i, i ≠ 572 → x i = s i) ∧ (∀ k, ¬ (32 ≤ k ∧ k < 37) → x 572 k = s 572 k) ∧ ∀ q, q < m → x 572 (32 + q) = hV H 6 q) (by omega) (fun fu x u h => by
      try dsimp only
      rw [fn_M_beginsAnew_L164, sm_12, e3 x h.1, e_bd, if_neg (zl_nlt (Nat.le_refl _) (by omega))]) (fun fu m x u hm5 h => by
      try dsimp only
      refine ⟨hp_s x 572 (32 + m) (hV H 6 m), ?_, fun i hi => ?_, fun k hk => ?_, fun q hq => ?_⟩
      · rw [fn_M_beginsAnew_L164, sm_12, sm_14, sm_25, e3 x h.1, e_bd, if_pos (zl_lt hm5 (by omega)), show fn_M_placeOf (3 : Int32) (Int32.ofNat m) = some (Int32.ofNat (36 + m)) from by unfold fn_M_placeOf; rw [show (12 : Int32) * 3 = Int32.ofNat 36 from by decide, zi_add], e_bd, zi_rld (show 36 + m < sh_ln 106 by rw [sn_106]; omega) (by omega), e_bd, sm_106, show px_ald x (107 + (36 + m)) (0 : Int32) = some _ from rd_107 (j := 0) (by omega) (by decide), e_bd, h.1 _ (by omega), (hm.2.2.2.2 m hm5).1, show px_ast x 572 ((32 : Int32) + Int32.ofNat m) (hV H 6 m) = _ from w572 x 32 m _ (by omega), e_bd, e_let, zi_succ]
      · rw [hp_s_n hi]; exact h.1 i hi
      · rw [hs_ne (by omega)]; exact h.2.1 k hk
      · by_cases e : q = m
        · subst e; rw [hs_at]
        · rw [hs_ne (by omega)]; exact h.2.2 q (by omega)) s () ⟨fun _ _ => rfl, fun _ _ => rfl, fun q hq => absurd hq (Nat.not_lt_zero _)⟩
  exact ⟨s', k1, k2.2.2, k2.2.1, k2.1⟩
def bgK4 (s_38 : hp_I) : Option hp_I :=
  Option.bind (px_ald s_38 (sh_rf 52 12) (2 : Int32)) fun z39 =>
  Option.bind (px_ast s_38 (sh_rf 52 25) (42 : Int32) (((1 : Int32) <<< (z39 &&& 31)) - (1 : Int32))) fun s40 =>
  px_let (hp_s s40 52 15 (0 : Int32)) fun s41 =>
  px_let (hp_s s41 52 30 (0 : Int32)) fun s42 =>
  px_let (hp_s s42 52 31 (0 : Int32)) fun s43 =>
  px_let (hp_s s43 52 32 (0 : Int32)) fun s44 =>
  px_let (hp_s s44 52 33 (0 : Int32)) fun s45 =>
  some s45
def bgK3 (s_30 : hp_I) : Option hp_I := px_let (0 : Int32) fun v1_31 => fn_M_beginsAnew_L164 52 bgK4 FU v1_31 s_30
def bgK2 (s_11 : hp_I) : Option hp_I := px_let (0 : Int32) fun v1_12 => fn_M_beginsAnew_L61 52 bgK3 FU v1_12 s_11
def bgK1 (s_5 : hp_I) : Option hp_I :=
  Option.bind (fn_M_lays (sh_rf 52 13) (sh_rf 52 14) (48 : Int32) s_5) fun s7 =>
  px_let (0 : Int32) fun v1_8 => fn_M_beginsAnew_L40 52 bgK2 FU v1_8 s7
theorem ms_anew (ok : HOK H) (dm : DM t H) : ∃ t', fn_M_beginsAnew 52 t = some t' ∧ HM t' H ∧ RM t' 572 H (rho0 H) ∧ (t' 52 15 = 0 ∧ t' 52 30 = 0 ∧ t' 52 31 = 0 ∧ t' 52 32 = 0 ∧ t' 52 33 = 0) ∧ (∀ j, j < 15 → t' 52 j = t 52 j) ∧ ∀ i, i ≠ 52 → i ≠ 56 → ¬ (107 ≤ i ∧ i < 155) → i ≠ 572 → t' i = t i := by
  have hok := ok
  obtain ⟨o1, o2, o3, o4, -⟩ := ok
  obtain ⟨s1, a1, a2, a3⟩ := bg_a (s := t) bgK1
  obtain ⟨s2, b1, b2, b3⟩ := ms_layr (a := 57) (b := 106) (N := 48) (w := 3) (A := 58) (B := 107) (t := s1) (by decide) (by decide) (by rw [hn_57]; decide) (by rw [sn_106]; decide) hf_57 sm_106 (fun i hi => hn_58 i hi) (fun i hi => sn_107 i hi) (fun i j hi hj => by omega)
  have hm2 : HM s2 H := by
    obtain ⟨⟨dR, dW, dS, dC⟩, d1, d2, d3, d4⟩ := dm
    refine ⟨⟨?_, ?_, ?_, ?_⟩, fun r hr => ?_, fun w hw => ?_, fun s hs => ?_, fun c hc => ?_⟩
    · rw [b3 56 (by omega), a2 0 (by decide)]; exact dR
    · rw [b3 56 (by omega), a2 1 (by decide)]; exact dW
    · rw [b3 56 (by omega), a2 2 (by decide)]; exact dS
    · rw [b3 56 (by omega), a2 3 (by decide)]; exact dC
    · rw [b2 r 0 (by omega) (by decide), a3 _ (by omega)]
      have := d1 r hr
      rw [Nat.zero_add] at this
      exact this
    · rw [b2 _ 0 (by omega) (by decide), b2 _ 1 (by omega) (by decide), a3 _ (by omega)]; exact d2 w hw
    · rw [b2 _ 0 (by omega) (by decide), b2 _ 1 (by omega) (by decide), b2 _ 2 (by omega) (by decide), a3 _ (by omega)]; exact d3 s hs
    · rw [b2 _ 0 (by omega) (by decide), b2 _ 1 (by omega) (by decide), a3 _ (by omega)]; exact d4 c hc
  obtain ⟨s3, c1, c2, c3⟩ := bg_c (s := s2) bgK2
  have hm3 : HM s3 H := hm2.fr hok (c3 56 (by decide)) (fun a ha => c3 _ (by omega))
  obtain ⟨s4, e1, e2, e3, e4⟩ := bg_d hok hm3 bgK3
  have hm4 : HM s4 H := hm3.fr hok (e4 56 (by decide)) (fun a ha => e4 _ (by omega))
  obtain ⟨s5, g1, g2, g3, g4⟩ := bg_e hok hm4 bgK4
  have hm5 : HM s5 H := hm4.fr hok (g4 56 (by decide)) (fun a ha => g4 _ (by omega))
  generalize hv : ((1 : Int32) <<< (Int32.ofNat (hS H) &&& 31)) - 1 = v
  have fi : ∀ i, i ≠ 52 → hp_s (hp_s (hp_s (hp_s (hp_s (hp_s s5 572 42 v) 52 15 0) 52 30 0) 52 31 0) 52 32 0) 52 33 0 i = hp_s s5 572 42 v i := fun i hi => by rw [hp_s_n hi, hp_s_n hi, hp_s_n hi, hp_s_n hi, hp_s_n hi]
  refine ⟨hp_s (hp_s (hp_s (hp_s (hp_s (hp_s s5 572 42 v) 52 15 0) 52 30 0) 52 31 0) 52 32 0) 52 33 0, ?_, ?_, ⟨mn_572, fun k hk => ?_⟩, ⟨?_, ?_, ?_, ?_, ?_⟩, fun j hj => ?_, fun i h1 h2 h3 h4 => ?_⟩
  · unfold fn_M_beginsAnew
    rw [e_let]
    refine Eq.trans (show _ = fn_M_beginsAnew_L2 52 bgK1 FU 0 t from rfl) ?_
    rw [a1]
    unfold bgK1
    rw [sm_13, sm_14, show fn_M_lays 57 106 (48 : Int32) s1 = _ from b1, e_bd, e_let, c1]
    unfold bgK2
    rw [e_let, e1]
    unfold bgK3
    rw [e_let, g1]
    unfold bgK4
    rw [sm_12, sm_25, show px_ald s5 56 (2 : Int32) = some (s5 56 2) from zi_ald (a := 2) (by rw [sn_56]; decide) (by decide), hm5.1.2.2.1, e_bd, hv, show px_ast s5 572 (42 : Int32) v = some (hp_s s5 572 42 v) from zi_ast (a := 42) (by rw [mn_572]; decide) (by decide), e_bd]
    simp only [e_let]
  · exact hm5.fr hok (by rw [fi 56 (by decide), hp_s_n (by decide)]) (fun a ha => by rw [fi _ (by omega), hp_s_n (by omega)])
  · rw [fi 572 (by decide)]
    have lowk : ∀ k, (42 < k ∧ k < 47) → hp_s s5 572 42 v 572 k = 0 := fun k h => by rw [hs_ne (by omega), g3 k (by omega), e3 k (by omega), c2 k (by omega)]
    unfold rho0
    rcases hk with hk | hk | hk | hk | hk | hk | hk
    · have : k = 0 ∨ k = 1 ∨ k = 2 ∨ k = 3 ∨ k = 4 := by omega
      rcases this with rfl | rfl | rfl | rfl | rfl
      · exact lowk 46 ⟨by decide, by decide⟩
      · rw [if_pos rfl, hv]
        exact hs_at
      · exact lowk 43 ⟨by decide, by decide⟩
      · exact lowk 44 ⟨by decide, by decide⟩
      · exact lowk 45 ⟨by decide, by decide⟩
    · obtain ⟨q, rfl⟩ : ∃ q, k = 5 + q := ⟨k - 5, by omega⟩
      rw [mp_hi (by omega), if_neg (by omega), if_neg (by omega), if_pos (by omega), show 5 + q - 5 = 0 + q by omega, hs_ne (by omega), g3 _ (by omega), (e2 q (by omega)).1, if_pos (by omega), Nat.zero_add]
    · obtain ⟨q, rfl⟩ : ∃ q, k = 13 + q := ⟨k - 13, by omega⟩
      rw [mp_hi (by omega), if_neg (by omega), if_neg (by omega), if_neg (by omega), if_pos (by omega), show 13 + q - 5 = 8 + q by omega, hs_ne (by omega), g3 _ (by omega), (e2 q (by omega)).2.1, if_pos (by omega), Nat.add_sub_cancel_left]
    · obtain ⟨q, rfl⟩ : ∃ q, k = 21 + q := ⟨k - 21, by omega⟩
      rw [mp_hi (by omega), if_neg (by omega), if_neg (by omega), if_neg (by omega), if_neg (by omega), if_pos (by omega), show 21 + q - 5 = 16 + q by omega, hs_ne (by omega), g3 _ (by omega), (e2 q (by omega)).2.2.1]
    · obtain ⟨q, rfl⟩ : ∃ q, k = 29 + q := ⟨k - 29, by omega⟩
      rw [mp_hi (by omega), if_neg (by omega), if_neg (by omega), if_neg (by omega), if_neg (by omega), if_pos (by omega), show 29 + q - 5 = 24 + q by omega, hs_ne (by omega), g3 _ (by omega), (e2 q (by omega)).2.2.2]
    · obtain ⟨q, rfl⟩ : ∃ q, k = 37 + q := ⟨k - 37, by omega⟩
      rw [mp_hi (by omega), if_neg (by omega), if_neg (by omega), if_neg (by omega), if_neg (by omega), if_neg (by omega), if_pos (by omega), show 37 + q - 5 = 32 + q by omega, hs_ne (by omega), g2 q (by omega), Nat.add_sub_cancel_left]
    · obtain ⟨q, rfl⟩ : ∃ q, k = 42 + q := ⟨k - 42, by omega⟩
      rw [mp_hi (by omega), if_neg (by omega), if_neg (by omega), if_neg (by omega), if_neg (by omega), if_neg (by omega), if_neg (by omega), show 42 + q - 5 = 37 + q by omega, hs_ne (by omega), g3 _ (by omega), e3 _ (by omega), c2 _ (by omega)]
  · rw [hs_ne (by omega), hs_ne (by omega), hs_ne (by omega), hs_ne (by omega), hs_at]
  · rw [hs_ne (by omega), hs_ne (by omega), hs_ne (by omega), hs_at]
  · rw [hs_ne (by omega), hs_ne (by omega), hs_at]
  · rw [hs_ne (by omega), hs_at]
  · rw [hs_at]
  · rw [hs_ne (by omega), hs_ne (by omega), hs_ne (by omega), hs_ne (by omega), hs_ne (by omega), hs_ne (by omega), g4 52 (by decide), e4 52 (by decide), c3 52 (by decide), b3 52 (by omega), a3 52 (by decide)]
  · rw [fi i h1, hp_s_n h4, g4 i h4, e4 i h4, c3 i h4, b3 i (by omega), a3 i h2]
end BG

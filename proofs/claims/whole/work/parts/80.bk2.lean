/-! rows laid over rows: the model -/
theorem ms_layr {a b N w A B : Nat} {t : hp_I} (hN : N < 100000) (hw : w < 100000) (ha : N ≤ sh_ln a) (hb : N ≤ sh_ln b) (fa : ∀ i, sh_rf a i = A + i) (fb : ∀ i, sh_rf b i = B + i) (la : ∀ i, i < N → sh_ln (A + i) = w) (lb : ∀ i, i < N → sh_ln (B + i) = w) (hd : ∀ i j, i < N → j < N → A + i ≠ B + j) : ∃ s, fn_M_lays a b (Int32.ofNat N) t = some s ∧ (∀ i j, i < N → j < w → s (B + i) j = t (A + i) j) ∧ (∀ i, ¬ (B ≤ i ∧ i < B + N) → s i = t i) := by
  unfold fn_M_lays
  rw [e_let]
  have row : ∀ {K : hp_I → Option hp_I} {s : hp_I} {i : Nat}, i < N → ∃ s', fn_M_lays_L10 a b (Int32.ofNat N) (Int32.ofNat i) K FU 0 s = K s' ∧ (∀ j, j < w → s' (B + i) j = s (A + i) j) ∧ ∀ c, c ≠ B + i → s' c = s c := by
    intro K s i hi
    obtain ⟨s', k1, k2⟩ := zL_R0 (L := fun fu x j => fn_M_lays_L10 a b (Int32.ofNat N) (Int32.ofNat i) K fu j x) (k := K) (N := w) (fun _ (u : Unit) => u) (fun m x _ => (∀ j, j < m → x (B + i) j = s (A + i) j) ∧ ∀ c, c ≠ B + i → x c = s c) hw (fun fu x u h => by
      try dsimp only
      rw [fn_M_lays_L10, zi_rld (by omega) (by omega), e_bd, fb, lb i hi, if_neg (zl_nlt (Nat.le_refl _) (by omega))]) (fun fu m x u hm h => by
      try dsimp only
      refine ⟨hp_s x (B + i) m (s (A + i) m), ?_, fun j hj => ?_, fun c hc => ?_⟩
      · rw [fn_M_lays_L10, zi_rld (show i < sh_ln b by omega) (by omega), e_bd, fb, lb i hi, if_pos (zl_lt hm (by omega)), e_bd, zi_rld (show i < sh_ln a by omega) (by omega), e_bd, fa, zi_ald (by rw [la i hi]; exact hm) (by omega), e_bd, zi_ast (by rw [lb i hi]; exact hm) (by omega), e_bd, e_let, zi_succ, h.2 (A + i) (hd i i hi hi)]
      · rw [hp_s_i]
        by_cases e : j = m
        · rw [e, upd_i]
        · rw [upd_n e]; exact h.1 j (by omega)
      · rw [hp_s_n hc]; exact h.2 c hc) s () ⟨fun j hj => absurd hj (Nat.not_lt_zero _), fun _ _ => rfl⟩
    exact ⟨s', k1, k2.1, k2.2⟩
  obtain ⟨s', k1, k2⟩ := zL_R0 (L := fun fu x i => fn_M_lays_L2 a b (Int32.ofNat N) (fun s_11 => some s_11) fu i x) (k := fun s_11 => some s_11) (N := N) (fun _ (u : Unit) => u) (fun m x _ => (∀ i j, i < m → j < w → x (B + i) j = t (A + i) j) ∧ ∀ c, ¬ (B ≤ c ∧ c < B + m) → x c = t c) hN (fun fu x u h => by
      try dsimp only
      rw [fn_M_lays_L2, if_neg (zl_nlt (Nat.le_refl _) (by omega))]) (fun fu m x u hm h => by
      try dsimp only
      rw [fn_M_lays_L2, if_pos (zl_lt hm (by omega)), e_let]
      obtain ⟨x', r1, r2, r3⟩ := row (K := fun s_9 => px_let (Int32.ofNat m + 1) fun v3_10 => fn_M_lays_L2 a b (Int32.ofNat N) (fun s_11 => some s_11) fu v3_10 s_9) (s := x) hm
      refine ⟨x', ?_, fun i j hi hj => ?_, fun c hc => ?_⟩
      · rw [r1, e_let, zi_succ]
      · by_cases e : i = m
        · rw [e, r2 j hj]
          by_cases hA : B ≤ A + m ∧ A + m < B + m
          · exact (hd m (A + m - B) hm (by omega) (by omega)).elim
          · rw [h.2 _ hA]
        · rw [r3 _ (by omega)]; exact h.1 i j (by omega) hj
      · rw [r3 c (by omega)]; exact h.2 c (by omega)) t () ⟨fun i j hi => absurd hi (Nat.not_lt_zero _), fun _ _ => rfl⟩
  exact ⟨s', k1, k2.1, k2.2⟩
theorem cx_book {σ σ' : hp_I} {A : ab_A} {bk : ab_B} (h : CX σ A) (e : ∀ i, i ∈ KXL → i ≠ 26 → σ' i = σ i) (hb : BX σ' bk) : CX σ' (aH A, aR A, aL A, bk, aW A, aI A) := by
  obtain ⟨h1, h2, h3, h4, h5, h6⟩ := h
  refine ⟨h1.fr (fun i a b => e i (by unfold KXL; simp only [List.mem_cons, List.not_mem_nil, or_false]; omega) (by omega)), h2.fr (e 33 (by decide) (by decide)), h3.fr (e 21 (by decide) (by decide)) (e 22 (by decide) (by decide)), hb, ?_, ?_⟩
  · show PX σ' (aH A) (aW A)
    unfold PX; rw [e 38 (by decide) (by decide), e 39 (by decide) (by decide)]; exact h5
  · show IX σ' (aH A) (aI A)
    unfold IX; rw [e 38 (by decide) (by decide), e 40 (by decide) (by decide), e 41 (by decide) (by decide)]; exact h6
theorem cm_book {σ σ' : hp_I} {A : ab_A} {bk : ab_B} (ok : AOK A) (h : CM σ A) (e : ∀ i, KM i → ¬ (478 ≤ i ∧ i < 483) → σ' i = σ i) (e52 : ∀ k, k ∈ [15, 31, 33] → σ' 52 k = σ 52 k) (hb : BM σ' bk) : CM σ' (aH A, aR A, aL A, bk, aW A, aI A) := by
  obtain ⟨h1, h2, h3, h4, h5, h6⟩ := h
  obtain ⟨o1, o2, o3, o4, o5, o6, o7⟩ := ok
  refine ⟨h1.fr o1 (e 56 (Or.inl rfl) (by omega)) (fun a ha => e _ (by unfold KM; omega) (by omega)), h2.fr (e 572 (by unfold KM; omega) (by omega)), h3.fr o3.1 (e52 15 (by decide)) (fun a ha => e _ (by unfold KM; omega) (by omega)), hb, ?_, ?_⟩
  · refine ⟨(e52 31 (by decide)).trans h5.1, fun j hj k hk => ?_⟩
    have h16 : (aW A).length ≤ 16 := o5.1
    have hj2 : j < (aW A).length := hj
    rw [e (576 + j) (by unfold KM; omega) (by omega)]
    exact h5.2 j hj k hk
  · refine ⟨(e52 33 (by decide)).trans h6.1, fun i hi => ?_⟩
    have h3' : (aI A).length ≤ 3 := o6
    have hi2 : i < (aI A).length := hi
    rw [e (593 + i) (by unfold KM; omega) (by omega)]
    exact h6.2 i hi
/-- behind a text: the tape is empty -/
theorem tp_end {s : hp_I} (h1 : s 1 1 = 0) (h2 : s 52 1 = 0) (h3 : s 52 3 = s 1 5) (h4 : SLI s) : TP s := ⟨⟨0, by decide, h1, h2, fun k hk => absurd hk (Nat.not_lt_zero _)⟩, h3, h4⟩
/-- a text that is refused -/
theorem text_no {σ : hp_I} {A : ab_A} {e : Option (px_X (Int32 × hp_I))} {m : hp_I → Option (Int32 × hp_I)} {τ : hp_L} {j : hp_I → hp_L → Option Int32} (ok : AOK A) (cx : CX σ A) (cm : CM σ A) (tp : TP σ) (ct : CT σ) (he : e = some (.inl (1, hp_s σ 0 15 (σ 0 15 + 1)))) (hm : ∀ s, s 52 1 = σ 52 1 → m s = some (0, mbad (hp_s s 52 0 0) 1 1)) : ∃ s3 u3, (px_b3 (px_c1 e (fun s => some ((1 : Int32), s, τ)) (fun a => Option.bind (px_lst τ 601 (0 : Int32) a.1.toInt64) fun u2 => some ((0 : Int32), a.2, u2))) fun k s1 u => px_b2 (m s1) fun b s => ltail k b s u j) = j s3 u3 ∧ REL s3 := by
  have h1 : XQ σ e 2 0 := xq_2 he
  obtain ⟨s3, g1, g2⟩ := ask_end (u := τ) (k := 1) (j := j) (s1 := hp_s σ 0 15 (σ 0 15 + 1)) (v := 0) (t2 := 1) (q := 2) (m := fun s => if s 52 1 = σ 52 1 then m s else some (0, mbad (hp_s s 52 0 0) 1 1)) ok cx cm tp ct (fun s _ _ => by
    by_cases c : s 52 1 = σ 52 1
    · try dsimp only
      rw [if_pos c]; exact mq_2 (hm s c)
    · try dsimp only
      rw [if_neg c]; exact mq_2 rfl) (Or.inr (Or.inr ⟨rfl, rfl, rfl, by decide⟩))
  refine ⟨s3, τ, ?_, g2⟩
  rw [he, ← g1, e_c1l, e_b3]
  try dsimp only
  rw [if_pos (show hp_s σ 0 15 (σ 0 15 + 1) 52 1 = σ 52 1 from by rw [hp_s_n (show 52 ≠ 0 by decide)])]
/-- class and model, run over states alike: the model behind the class -/
theorem ask_two {e : Option (px_X (Int32 × hp_I))} {m : hp_I → Option (Int32 × hp_I)} {s0 : hp_I} {τ : hp_L} {j : hp_I → hp_L → Option Int32} (hj : ∀ σ : hp_I, (∀ i, 52 ≤ i → σ i = s0 i) → ∃ a sc s3, e = some (.inr (a, sc)) ∧ (∀ i, 52 ≤ i → sc i = s0 i) ∧ m σ = some (a, s3) ∧ s3 52 0 = 0 ∧ (σ = sc → REL s3)) : ∃ s3 u3, (px_b3 (px_c1 e (fun s => some ((1 : Int32), s, τ)) (fun a => Option.bind (px_lst τ 601 (0 : Int32) a.1.toInt64) fun u2 => some ((0 : Int32), a.2, u2))) fun k s1 u => px_b2 (m s1) fun b s => ltail k b s u j) = j s3 u3 ∧ REL s3 := by
  obtain ⟨a, sc, -, h1, h2, -⟩ := hj s0 (fun _ _ => rfl)
  obtain ⟨a2, sc2, s3, g1, -, g3, g4, g5⟩ := hj sc h2
  rw [h1] at g1
  have e1 : (a, sc) = (a2, sc2) := Sum.inr.inj (Option.some.inj g1)
  have e2 : a = a2 := congrArg Prod.fst e1
  have e3 : sc = sc2 := congrArg Prod.snd e1
  subst e2
  exact ask_t (v := a) (s1 := sc) h1 g3 g4 (g5 e3)
theorem rel_fault {A : ab_A} {s0 sc s3 : hp_I} (ok : AOK A) (cx : CX sc A) (cm : CM s0 A) (ct : CT s0) (hc0 : sc 0 = s0 0) (lo : ∀ i, i < 52 → s3 i = sc i) (hm : ∀ i, KM i → s3 i = s0 i) (h52 : ∀ j, j ∈ [15, 30, 31, 32, 33] → s3 52 j = s0 52 j) (h54 : s3 54 = s0 54) (h11 : sc 1 1 = 0) (h21 : s3 52 1 = 0) (h3 : s3 52 3 = sc 1 5) (sl : SLI sc) : REL s3 := by
  refine ⟨A, ok, cx.lo lo, cm.fr ok hm (fun k hk => h52 k (by revert hk; simp only [List.mem_cons, List.not_mem_nil, or_false]; omega)), tp_end (by rw [lo 1 (by decide)]; exact h11) h21 (by rw [lo 1 (by decide)]; exact h3) (sl.fr (lo 42 (by decide)) (lo 43 (by decide))), ?_⟩
  unfold CT
  rw [h52 32 (by decide), lo 0 (by decide), hc0, h54]
  exact ct
def bkK (y_25 : Int32) (y_26 : Int32) (s_27 : hp_I) : Option hp_I :=
  Option.bind (fn_Tape_failed 1 s_27) fun z28 =>
  px_jn (fun (s29 : hp_I) => some s29) fun j30 =>
    if z28 = 0 then (
      px_let (hp_s s_27 26 0 y_25) fun s31 =>
      px_let (hp_s s31 26 1 y_26) fun s32 =>
      j30 s32
    ) else (
      j30 s_27
    )
def bkM (y_39 : Int32) (s_40 : hp_I) : Option (Int32 × hp_I) :=
  if (s_40 52 5) = 0 then (
    px_let (hp_s s_40 52 3 (-1 : Int32)) fun s43 =>
    px_let (hp_s s43 52 30 y_39) fun s44 =>
    Option.bind (fn_M_lays (sh_rf 52 20) (sh_rf 52 19) y_39 s44) fun s46 =>
    some (y_39, s46)
  ) else (
    px_b2 (fn_M_ends 52 s_40) fun z41 s42 =>
    some (z41, s42)
  )
/-- behind a text: what a start of the model gives -/
theorem m_begin {X : tx} {s0 σ : hp_I} {m : Nat} (te : TE X) (hX2 : X.2 = m) (hby : ∀ i, i < m → s0 53 i = Int32.ofNat (X.1 i)) (hσ : ∀ i, 52 ≤ i → σ i = s0 i) : ∃ t, fn_M_starts 52 (Int32.ofNat m) (hp_s σ 52 0 0) = some t ∧ MT X t (sk X 0) 0 (-1) ∧ (∀ i, i ≠ 52 → t i = σ i) ∧ t 52 1 = 0 ∧ t 52 7 = 0 ∧ t 52 8 = 0 ∧ t 52 0 = 0 ∧ t 52 3 = s0 52 3 ∧ ∀ j, 8 < j → t 52 j = s0 52 j := by
  obtain ⟨t, a1, a2, a3, a4, a5, a6, a7⟩ := m_starts (X := X) (σ := hp_s σ 52 0 0) te (fun i hi => by rw [hp_s_n (by decide), hσ 53 (by decide)]; exact hby i (by omega))
  rw [hX2] at a1
  exact ⟨t, a1, a2, fun i hi => by rw [a3 i hi, hp_s_n hi], a4, a5, a6, by rw [a7 0 (Or.inl rfl), hp_s_i, upd_i], by rw [a7 3 (Or.inr (Or.inl rfl)), hp_s_i, upd_n (by decide), hσ 52 (by decide)], fun j hj => by rw [a7 j (Or.inr (Or.inr hj)), hp_s_i, upd_n (by omega), hσ 52 (by decide)]⟩
theorem lk_4 {L : Nat} {xs y : Nat → Int32} {i : Int32} {s0 : hp_I} {u0 : hp_L} {j : hp_I → hp_L → Option Int32} (hy : SL L xs i y) (r : REL s0) : ∃ s3 u3, lc_4 L xs j i s0 u0 = j s3 u3 ∧ REL s3 := by
  obtain ⟨A, ok, cx, cm, tp, ct⟩ := r
  unfold lc_4 fn_L_book
  simp only [e_let, e_bd, sl_1 hy]
  generalize y 1 = v
  obtain ⟨⟨n, hn, t1, t2, t3⟩, t4⟩ := tp
  have tp : TP s0 := ⟨⟨n, hn, t1, t2, t3⟩, t4⟩
  rcases x_open (v := v) (most := 60) hn t1 t3 (by decide) with ⟨c1, c2⟩ | ⟨c1, m, s1, hm60, hmn, rfl, te, hby, c2, x1, fx1, e11⟩
  · refine text_no (m := fn_M_book 52 v) ok cx cm tp ct ?_ (fun s hs => ?_)
    · unfold fn_X_book
      rw [show fn_X_openText 0 v (60 : Int32) s0 = _ from c2, e_bxl]
    · unfold fn_M_book
      rw [e_let, show hp_s s 52 0 0 52 1 = Int32.ofNat n from by rw [hp_s_i, upd_n (by decide), hs]; exact t2]
      refine (m_gate (most := 60) (by omega) (by decide)).trans ?_
      rw [c1, show fn_M_bad 52 (bI (!false)) (1 : Int32) (1 : Int32) (hp_s s 52 0 0) = _ from md_bad1 1 s0_0 (by decide), if_pos (show (!false) = true from rfl), e_b2, if_neg (show ¬ (1 : Int32) = 0 from by decide)]
  · generalize hX : txX s0 m = X at te hby x1
    have hX2 : X.2 = m := by rw [← hX]; rfl
    refine ask_two (s0 := s0) (m := fn_M_book 52 (Int32.ofNat m)) (fun σ hσ => ?_)
    obtain ⟨t, a1, a2, a3, a4, a5, a6, a7, a8, a9⟩ := m_begin te hX2 (fun i hi => (hby i hi).2) hσ
    have hC5 := ok.1.2.2.2.1
    have h56 : t 56 3 = Int32.ofNat (hC (aH A)) := by rw [a3 56 (by decide), hσ 56 (by decide)]; exact cm.1.1.2.2.2
    have hx3 : s1 3 3 = Int32.ofNat (hC (aH A)) := by rw [fx1 3 (by decide)]; exact hx_C cx.1
    obtain ⟨s', t', p', q', k', pl', bk', z1, z2, z3, z4, z5, z6⟩ := b_book te (by omega) ok.1 bkK bkM 601 s1 t (sk X 0) (sk X 0) 0 (-1) [] FU FU 0 (by omega) (by decide) (by decide) (Nat.zero_le _) ⟨x1, a2, fun _ => sk_sk te 0, fun _ => rfl⟩ (fun _ => rfl) ⟨⟨fun q hq => (by cases hq), List.nodup_nil⟩, fun i hi => absurd hi (Nat.not_lt_zero _)⟩ h56
    have ex : fn_Book_read 26 1 (Int32.ofNat (hC (aH A))) s1 = bkK (bk_in bk') (bk_tk bk') s' := by
      unfold fn_Book_read
      rw [e_let, e_let, e_let]
      exact z1
    have em : fn_M_book 52 (Int32.ofNat m) σ = bkM (Int32.ofNat bk'.length) t' := by
      unfold fn_M_book
      rw [e_let, show hp_s σ 52 0 0 52 1 = Int32.ofNat n from by rw [hp_s_i, upd_n (by decide), hσ 52 (by decide)]; exact t2]
      refine (m_gate (most := 60) (by omega) (by decide)).trans ?_
      rw [c1, show fn_M_bad 52 (bI (!true)) (1 : Int32) (1 : Int32) (hp_s σ 52 0 0) = _ from md_bad1 1 s0_0 (by decide), if_neg (show ¬ (!true) = true from by decide), e_b2, if_pos rfl, a1, e_bd, e_let, e_let]
      exact z2
    have kf : ∀ i, 52 ≤ i → s' i = s0 i := fun i hi => by rw [z4.1 i (by omega), fx1 i (by omega)]
    have kf3 : ∀ i, i ≠ 1 → s' i = s0 i := fun i hi => by rw [z4.1 i hi, fx1 i hi]
    have kf2 : ∀ i, i ∈ KXL → s' i = s0 i := fun i hi => by
      have hne : i ≠ 1 := by intro e; rw [e] at hi; exact absurd hi (by decide)
      rw [z4.1 i hne, fx1 i hne]
    have mi : ∀ i, i ≠ 52 → ¬ bkP i → t' i = σ i := fun i h1 h2 => by rw [z5.1 i h1 h2, a3 i h1]
    have mj : ∀ j, 8 < j → t' 52 j = s0 52 j := fun j hj => by rw [z5.2 j (by omega) (by omega) (by omega) (fun e => e), a9 j hj]
    have m0 : t' 52 0 = 0 := by rw [z5.2 0 (by decide) (by decide) (by decide) (fun e => e), a7]
    have m1 : t' 52 1 = 0 := by rw [z5.2 1 (by decide) (by decide) (by decide) (fun e => e), a4]
    have s11 : s' 1 1 = 0 := by rw [z4.2]; exact e11
    by_cases ck : k' = 0
    · have hl5 := z6.1.len ok.1
      have hcnt := bk_cnt bk' (fun q hq => by have := (z6.1.1 q hq).1; omega) z6.1.2
      obtain ⟨s3, l1, l2, l3⟩ := ms_layr (a := 483) (b := 477) (N := bk'.length) (w := 2) (A := 484) (B := 478) (t := hp_s (hp_s t' 52 3 (-1)) 52 30 (Int32.ofNat bk'.length)) (by omega) (by decide) (by rw [bn_483]; exact hl5) (by rw [bn_477]; exact hl5) bf_483 bf_477 (fun i hi => bn_484 i (by omega)) (fun i hi => bn_478 i (by omega)) (fun i j hi hj => by omega)
      refine ⟨Int32.ofNat bk'.length, hp_s (hp_s s' 26 0 (bk_in bk')) 26 1 (bk_tk bk'), s3, ?_, fun i hi => ?_, ?_, ?_, fun hs => ?_⟩
      · unfold fn_X_book
        rw [show fn_X_openText 0 (Int32.ofNat m) (60 : Int32) s0 = _ from c2, e_bxr, xf_4, xf_0, xf_1, hx3, ex]
        unfold bkK
        rw [c_failed z3.1, decide_eq_false (show ¬ k' ≠ 0 from fun e => e ck), e_bd, e_jn, if_pos (show bI false = 0 from rfl), e_let, e_let, e_bd, c_failed ((z3.1.put (by decide) (by decide)).put (by decide) (by decide)), decide_eq_false (show ¬ k' ≠ 0 from fun e => e ck), e_bd, e_jn, if_pos (show bI false = 0 from rfl)]
        unfold fn_Book_many
        rw [hp_s_i, upd_n (by decide), hp_s_i, upd_i, xs_bc hcnt.1, hcnt.2, e_bd, e_bd]
      · rw [hp_s_n (by omega), hp_s_n (by omega)]; exact kf i hi
      · rw [em]
        unfold bkM
        rw [z3.2.1.1.2.2.1, if_pos ((k_0 z3.2.1.2.2.1).mpr ck), e_let, e_let, sm_20, sm_19, l1, e_bd]
      · rw [l3 52 (by omega), hp_s_i, upd_n (by decide), hp_s_i, upd_n (by decide)]; exact m0
      · have lo : ∀ i, i < 52 → s3 i = σ i := fun i hi => by rw [l3 i (by omega), hp_s_n (by omega), hp_s_n (by omega)]; exact mi i (by omega) (by unfold bkP; omega)
        have j52 : ∀ j, 8 < j → j ≠ 30 → s3 52 j = s0 52 j := fun j h1 h2 => by rw [l3 52 (by omega), hp_s_i, upd_n h2, hp_s_i, upd_n (by omega)]; exact mj j h1
        have cx' : CX σ (aH A, aR A, aL A, bk', aW A, aI A) := by
          rw [hs]
          refine cx_book cx (fun i hi h26 => ?_) ⟨?_, ?_⟩
          · rw [hp_s_n h26, hp_s_n h26]; exact kf2 i hi
          · rw [hp_s_i, upd_n (by decide), hp_s_i, upd_i]
          · rw [hp_s_i, upd_i]
        have cm' : CM s3 (aH A, aR A, aL A, bk', aW A, aI A) := by
          refine cm_book ok cm (fun i hi h2 => ?_) (fun k hk => ?_) ⟨?_, fun k hk => ?_⟩
          · have : 52 < i := by unfold KM at hi; omega
            rw [l3 i (by omega), hp_s_n (by omega), hp_s_n (by omega), mi i (by omega) (by unfold KM at hi; unfold bkP; omega), hσ i (by omega)]
          · revert hk
            simp only [List.mem_cons, List.not_mem_nil, or_false]
            intro hk
            exact j52 k (by omega) (by omega)
          · rw [l3 52 (by omega), hp_s_i, upd_i]
          · rw [l2 k 0 hk (by decide), l2 k 1 hk (by decide), hp_s_n (by omega), hp_s_n (by omega)]
            exact z6.2 k hk
        refine rel_mk (s1 := σ) (A := (aH A, aR A, aL A, bk', aW A, aI A)) ⟨ok.1, ok.2.1, ok.2.2.1, z6.1, ok.2.2.2.2.1, ok.2.2.2.2.2⟩ cx' cm' lo (tp_end ?_ ?_ ?_ (t4.2.fr (by rw [lo 42 (by decide), hs, hp_s_n (by decide), hp_s_n (by decide)]; exact kf3 42 (by decide)) (by rw [lo 43 (by decide), hs, hp_s_n (by decide), hp_s_n (by decide)]; exact kf3 43 (by decide)))) ?_
        · rw [lo 1 (by decide), hs, hp_s_n (by decide), hp_s_n (by decide)]; exact s11
        · rw [l3 52 (by omega), hp_s_i, upd_n (by decide), hp_s_i, upd_n (by decide)]; exact m1
        · rw [l3 52 (by omega), hp_s_i, upd_n (by decide), hp_s_i, upd_i, lo 1 (by decide), hs, hp_s_n (by decide), hp_s_n (by decide), z3.1.1.2.2.2, z3.2.2.2 ck]
        · unfold CT
          rw [j52 32 (by decide) (by decide), lo 0 (by decide), l3 54 (by omega), hp_s_n (by decide), hp_s_n (by decide), mi 54 (by decide) (by unfold bkP; omega), hσ 54 (by decide), hs, hp_s_n (by decide), hp_s_n (by decide), z4.1 0 (by decide), fx1 0 (by decide)]
          exact ct
    · refine ⟨Int32.ofNat k' - 10, s', hp_s t' 52 3 pl', ?_, kf, ?_, ?_, fun hs => ?_⟩
      · unfold fn_X_book
        rw [show fn_X_openText 0 (Int32.ofNat m) (60 : Int32) s0 = _ from c2, e_bxr, xf_4, xf_0, xf_1, hx3, ex]
        unfold bkK
        rw [c_failed z3.1, decide_eq_true (show k' ≠ 0 from ck), e_bd, e_jn, if_neg (show ¬ bI true = 0 from by decide), e_bd, c_failed z3.1, decide_eq_true (show k' ≠ 0 from ck), e_bd, e_jn, if_neg (show ¬ bI true = 0 from by decide)]
        unfold fn_Tape_faultAnswer
        rw [z3.1.1.2.2.1, e_bd]
      · rw [em]
        unfold bkM fn_M_ends
        rw [z3.2.1.1.2.2.1, if_neg (fun e => ck ((k_0 z3.2.1.2.2.1).mp e)), z3.2.1.1.2.2.2, e_let, hp_s_i, upd_n (by decide), z3.2.1.1.2.2.1, e_b2]
      · rw [hp_s_i, upd_n (by decide)]; exact m0
      · refine rel_fault ok (cx.fr kf2) cm ct (by rw [z4.1 0 (by decide), fx1 0 (by decide)]) (fun i hi => ?_) (fun i hi => ?_) (fun j hj => ?_) ?_ s11 ?_ ?_ ?_
        · rw [hp_s_n (by omega), mi i (by omega) (by unfold bkP; omega), hs]
        · have : 52 < i := by unfold KM at hi; omega
          rw [hp_s_n (by omega), mi i (by omega) (by unfold KM at hi; unfold bkP; omega), hσ i (by omega)]
        · revert hj
          simp only [List.mem_cons, List.not_mem_nil, or_false]
          intro hj
          rw [hp_s_i, upd_n (by omega)]
          exact mj j (by omega)
        · rw [hp_s_n (by decide), mi 54 (by decide) (by unfold bkP; omega), hσ 54 (by decide)]
        · rw [hp_s_i, upd_n (by decide)]; exact m1
        · rw [hp_s_i, upd_i, z3.1.1.2.2.2]
        · exact t4.2.fr (kf3 42 (by decide)) (kf3 43 (by decide))

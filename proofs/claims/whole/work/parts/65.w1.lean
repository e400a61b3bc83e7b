/-! CALLS that change: undo, image, restore -/
theorem rel_mk {s1 s2 : hp_I} {A : ab_A} (ok : AOK A) (cx : CX s1 A) (cm : CM s2 A) (lo : ∀ i, i < 52 → s2 i = s1 i) (tp : TP s2) (ct : CT s2) : REL s2 := ⟨A, ok, cx.lo lo, cm, tp, ct⟩
theorem CX.up {σ σ' : hp_I} {A : ab_A} {ρ' : ab_R} {ws' : List ab_R} {im' : List (List ab_R × ab_R)} (h : CX σ A) (e : ∀ i, i ∈ [3, 4, 5, 6, 7, 8, 9, 10, 11, 21, 22, 26] → σ' i = σ i) (rx : RX σ' 33 (aH A) ρ') (px : PX σ' (aH A) ws') (ix : IX σ' (aH A) im') : CX σ' (aH A, ρ', aL A, aB A, ws', im') := by
  obtain ⟨h1, h2, h3, h4, h5, h6⟩ := h
  refine ⟨h1.fr (fun i a b => e i (by simp only [List.mem_cons, List.not_mem_nil, or_false]; omega)), rx, h3.fr (e 21 (by decide)) (e 22 (by decide)), ?_, px, ix⟩
  show BX σ' (aB A)
  unfold BX
  rw [e 26 (by decide)]
  exact h4
theorem CM.up {σ σ' : hp_I} {A : ab_A} {ρ' : ab_R} {ws' : List ab_R} {im' : List (List ab_R × ab_R)} (ok : AOK A) (h : CM σ A) (e : ∀ i, (i = 56 ∨ (107 ≤ i ∧ i < 155) ∨ (156 ≤ i ∧ i < 316) ∨ (478 ≤ i ∧ i < 483)) → σ' i = σ i) (e52 : ∀ k, k ∈ [15, 30] → σ' 52 k = σ 52 k) (rm : RM σ' 572 (aH A) ρ') (pm : PM σ' (aH A) ws') (im : IM σ' (aH A) im') : CM σ' (aH A, ρ', aL A, aB A, ws', im') := by
  obtain ⟨h1, h2, h3, h4, h5, h6⟩ := h
  obtain ⟨o1, o2, o3, o4, o5, o6, o7⟩ := ok
  refine ⟨h1.fr o1 (e 56 (Or.inl rfl)) (fun a ha => e _ (by omega)), rm, h3.fr o3.1 (e52 15 (by decide)) (fun a ha => e _ (by omega)), ?_, pm, im⟩
  have := o4.len o1
  refine ⟨(e52 30 (by decide)).trans h4.1, fun k hk => ?_⟩
  have hk2 : k < (aB A).length := hk
  show σ' (478 + k) 0 = _ ∧ σ' (478 + k) 1 = _
  rw [e (478 + k) (by omega)]
  exact h4.2 k hk2
theorem pn_39 : sh_ln 39 = 752 := by decide +kernel
theorem pn_40 : sh_ln 40 = 2397 := by decide +kernel
theorem pn_41 : sh_ln 41 = 3 := by decide +kernel
theorem pf_2 : sh_rf 38 2 = 39 := by decide +kernel
theorem pf_3 : sh_rf 38 3 = 40 := by decide +kernel
theorem pf_4 : sh_rf 38 4 = 41 := by decide +kernel
theorem wf_575 (a : Nat) : sh_rf 575 a = 576 + a := by unfold sh_rf; rw [if_pos (by decide +kernel)]
theorem wf_592 (a : Nat) : sh_rf 592 a = 593 + a := by unfold sh_rf; rw [if_pos (by decide +kernel)]
theorem wn_575 : sh_ln 575 = 16 := by decide +kernel
theorem wn_592 : sh_ln 592 = 3 := by decide +kernel
theorem wn_576 : ∀ a, a < 16 → sh_ln (576 + a) = 47 := by decide +kernel
theorem wn_593 : ∀ a, a < 3 → sh_ln (593 + a) = 800 := by decide +kernel
theorem cpy_at {f g : Nat → Int32} {p q n k : Nat} (h : q ≤ k ∧ k < q + n) : va_cpy f g p q n k = f (p + (k - q)) := by unfold va_cpy; rw [if_pos h]
theorem cpy_no {f g : Nat → Int32} {p q n k : Nat} (h : ¬ (q ≤ k ∧ k < q + n)) : va_cpy f g p q n k = g k := by unfold va_cpy; rw [if_neg h]
section W1
variable {σ : hp_I} {A : ab_A}
theorem xs_undo (ok : AOK A) (cx : CX σ A) {n : Nat} (hn : n < (aW A).length) (hl : (aW A).length = n + 1) : ∃ s, fn_X_undo 0 σ = some (Int32.ofNat n, s) ∧ CX s (aH A, (aW A)[n], aL A, aB A, (aW A).take n, aI A) ∧ (∀ i, i ∉ [0, 33, 38] → s i = σ i) ∧ s 0 13 = 0 ∧ s 0 14 = σ 0 14 ∧ s 0 15 = σ 0 15 := by
  have h16 := ok.2.2.2.2.1.1
  have px := cx.2.2.2.2.1
  have e0 : σ 38 0 = Int32.ofNat (n + 1) := by rw [px.1, hl]
  have hc := zi_cpy (σ := hp_s σ 38 0 (Int32.ofNat n)) (a := 39) (b := 33) (p := n * 47) (q := 0) (n := 47) (by rw [pn_39]; omega) (by rw [so_32.2.2.2.2.1]; decide) (by omega) (by decide) (by decide)
  have e1 : hp_s σ 38 0 (Int32.ofNat n) 38 0 = Int32.ofNat n := by rw [hp_s_i, upd_i]
  unfold fn_X_undo fn_Past_takeBackWork
  rw [xf_8, xf_6, e0, if_neg (show ¬ Int32.ofNat (n + 1) ≤ 0 from zl_nle (b := 0) (by omega) (by omega)), zi_sub1 (by omega), Nat.add_sub_cancel, e_let, e1, show Int32.ofNat n * 47 = Int32.ofNat (n * 47) from zi_mul n 47, pf_2, so_32.2.2.1, show px_cpy (hp_s σ 38 0 (Int32.ofNat n)) 39 (Int32.ofNat (n * 47)) 33 0 47 = _ from hc, e_bd, e_z1, e_b2, if_neg (show ¬ (1 : Int32) = 0 from by decide), e_let]
  generalize hf : va_cpy (hp_s σ 38 0 (Int32.ofNat n) 39) (hp_s σ 38 0 (Int32.ofNat n) 33) (n * 47) 0 47 = f
  have hff : ∀ k, k < 47 → f k = σ 39 (47 * n + k) := fun k hk => by
    rw [← hf, cpy_at ⟨by omega, by omega⟩, hp_s_n (by decide)]
    congr 1
    omega
  refine ⟨hp_s (hp_f (hp_s σ 38 0 (Int32.ofNat n)) 33 f) 0 13 0, ?_, cx.up (fun i hi => ?_) ?_ ?_ ?_, fun i hi => ?_, ?_, ?_, ?_⟩
  · rw [hp_s_n (by decide), hp_f_n (by decide), e1]
  · rw [hp_s_n (by intro e; rw [e] at hi; exact absurd hi (by decide)), hp_f_n (by intro e; rw [e] at hi; exact absurd hi (by decide)), hp_s_n (by intro e; rw [e] at hi; exact absurd hi (by decide))]
  · refine ⟨so_32.2.2.2.2.1, fun k hk => ?_⟩
    rw [hp_s_n (by decide), hp_f_i, hff k (vk_lt ok.1 hk)]
    exact px.2 n hn k hk
  · refine ⟨?_, fun j hj k hk => ?_⟩
    · rw [hp_s_n (by decide), hp_f_n (by decide), e1, List.length_take]
      congr 1
      omega
    · rw [List.length_take] at hj
      rw [hp_s_n (by decide), hp_f_n (by decide), hp_s_n (by decide), List.getElem_take]
      exact px.2 j (by omega) k hk
  · have ix := cx.2.2.2.2.2
    unfold IX at ix ⊢
    rw [hp_s_n (show 38 ≠ 0 by decide), hp_s_n (show 40 ≠ 0 by decide), hp_s_n (show 41 ≠ 0 by decide), hp_f_n (show 38 ≠ 33 by decide), hp_f_n (show 40 ≠ 33 by decide), hp_f_n (show 41 ≠ 33 by decide), hp_s_n (show 40 ≠ 38 by decide), hp_s_n (show 41 ≠ 38 by decide), hp_s_i, upd_n (by decide)]
    exact ix
  · rw [hp_s_n (by intro e; exact hi (by rw [e]; decide)), hp_f_n (by intro e; exact hi (by rw [e]; decide)), hp_s_n (by intro e; exact hi (by rw [e]; decide))]
  · rw [hp_s_i, upd_i]
  · rw [hp_s_i, upd_n (by decide), hp_f_n (by decide), hp_s_n (by decide)]
  · rw [hp_s_i, upd_n (by decide), hp_f_n (by decide), hp_s_n (by decide)]
theorem ms_undo (ok : AOK A) (cm : CM σ A) {n : Nat} (hn : n < (aW A).length) (hl : (aW A).length = n + 1) : ∃ s, fn_M_undo 52 σ = some (Int32.ofNat n, s) ∧ CM s (aH A, (aW A)[n], aL A, aB A, (aW A).take n, aI A) ∧ (∀ i, i ∉ [52, 572] → s i = σ i) ∧ s 52 32 = 0 ∧ s 52 1 = σ 52 1 ∧ s 52 3 = σ 52 3 := by
  have h16 := ok.2.2.2.2.1.1
  have pm := cm.2.2.2.2.1
  unfold fn_M_undo
  have e0 : hp_s σ 52 0 0 52 31 = Int32.ofNat (n + 1) := by rw [hp_s_i, upd_n (by decide), pm.1, hl]
  rw [e_let, e0, if_neg (show ¬ Int32.ofNat (n + 1) = 0 from zl_ne (b := 0) (by omega) (by omega) (by decide)), zi_sub1 (by omega), Nat.add_sub_cancel, e_let, show hp_s (hp_s σ 52 0 0) 52 31 (Int32.ofNat n) 52 31 = Int32.ofNat n from by rw [hp_s_i, upd_i], sm_28, zi_rld (by rw [wn_575]; omega) (by omega), e_bd, wf_575, sm_25]
  have e52 : ∀ k, k ≠ 0 → k ≠ 31 → hp_s (hp_s σ 52 0 0) 52 31 (Int32.ofNat n) 52 k = σ 52 k := fun k h1 h2 => by rw [hp_s_i, upd_n h2, hp_s_i, upd_n h1]
  have e31 : hp_s (hp_s σ 52 0 0) 52 31 (Int32.ofNat n) 52 31 = Int32.ofNat n := by rw [hp_s_i, upd_i]
  have eo : ∀ i, i ≠ 52 → hp_s (hp_s σ 52 0 0) 52 31 (Int32.ofNat n) i = σ i := fun i h => by rw [hp_s_n h, hp_s_n h]
  generalize hp_s (hp_s σ 52 0 0) 52 31 (Int32.ofNat n) = s2 at e52 e31 eo ⊢
  obtain ⟨s5, k1, k2, k3⟩ := ms_copies (σ := s2) (a := 576 + n) (b := 572) (by omega) (wn_576 n (by omega)) cm.2.1.1
  have f1 : ∀ i, i ≠ 52 → i ≠ 572 → hp_s s5 52 32 0 i = σ i := fun i h1 h2 => by rw [hp_s_n h1, k2 i (by simpa using h2), eo i h1]
  refine ⟨hp_s s5 52 32 0, ?_, cm.up ok (fun i hi => f1 i (by omega) (by omega)) (fun k hk => ?_) ?_ ?_ ?_, fun i hi => f1 i (by intro e; exact hi (by rw [e]; decide)) (by intro e; exact hi (by rw [e]; decide)), ?_, ?_, ?_⟩
  · rw [k1, e_bd, e_let, hp_s_i, upd_n (by decide), k2 52 (by decide), e31]
  · rw [hp_s_i, upd_n (by intro e; rw [e] at hk; exact absurd hk (by decide)), k2 52 (by decide), e52 k (by intro e; rw [e] at hk; exact absurd hk (by decide)) (by intro e; rw [e] at hk; exact absurd hk (by decide))]
  · refine ⟨cm.2.1.1, fun k hk => ?_⟩
    rw [hp_s_n (by decide), k3 _ (mp_lt (vk_lt ok.1 hk)), eo _ (by omega)]
    exact pm.2 n hn k hk
  · refine ⟨?_, fun j hj k hk => ?_⟩
    · rw [hp_s_i, upd_n (by decide), k2 52 (by decide), e31, List.length_take]
      congr 1
      omega
    · rw [List.length_take] at hj
      rw [f1 (576 + j) (by omega) (by omega), List.getElem_take]
      exact pm.2 j (by omega) k hk
  · have im := cm.2.2.2.2.2
    have h3 := ok.2.2.2.2.2.1
    refine ⟨?_, fun i hi => ?_⟩
    · rw [hp_s_i, upd_n (by decide), k2 52 (by decide), e52 33 (by decide) (by decide)]; exact im.1
    · rw [f1 (593 + i) (by omega) (by omega)]
      exact im.2 i hi
  · rw [hp_s_i, upd_i]
  · rw [hp_s_i, upd_n (by decide), k2 52 (by decide), e52 1 (by decide) (by decide)]
  · rw [hp_s_i, upd_n (by decide), k2 52 (by decide), e52 3 (by decide) (by decide)]
theorem tp_mk {s1 s2 : hp_I} (tp : TP s1) (h1 : s2 1 = s1 1) (h2 : s2 2 = s1 2) (h53 : s2 53 = s1 53) (e1 : s2 52 1 = s1 52 1) (e3 : s2 52 3 = s1 52 3) (h42 : s2 42 = s1 42) (h43 : s2 43 = s1 43) : TP s2 := by
  unfold TP
  rw [h1, h2, h53, e1, e3]
  exact ⟨tp.1, tp.2.1, tp.2.2.fr h42 h43⟩
theorem aok_undo (ok : AOK A) {n : Nat} (hn : n < (aW A).length) : AOK (aH A, (aW A)[n], aL A, aB A, (aW A).take n, aI A) := by
  obtain ⟨o1, o2, o3, o4, o5, o6⟩ := ok
  refine ⟨o1, o5.2 _ (List.getElem_mem hn), o3, o4, ⟨?_, fun w hw => o5.2 w (List.mem_of_mem_take hw)⟩, o6⟩
  show ((aW A).take n).length ≤ 16
  rw [List.length_take]
  have := o5.1
  omega
end W1
theorem lk_6 {L : Nat} {xs y : Nat → Int32} {i : Int32} {s0 : hp_I} {u0 : hp_L} {j : hp_I → hp_L → Option Int32} (hy : SL L xs i y) (r : REL s0) : ∃ s3 u3, lc_6 L xs j i s0 u0 = j s3 u3 ∧ REL s3 := by
  obtain ⟨A, ok, cx, cm, tp, ct⟩ := r
  unfold lc_6
  by_cases hl : (aW A).length = 0
  · have e1 : fn_X_undo 0 s0 = some (-1, s0) := by
      unfold fn_X_undo fn_Past_takeBackWork
      rw [xf_8, cx.2.2.2.2.1.1, hl, if_pos (by decide), e_z0, e_b2, if_pos rfl]
    have e2 : fn_M_undo 52 s0 = some (-1, hp_s s0 52 0 0) := by
      unfold fn_M_undo
      rw [e_let, show hp_s s0 52 0 0 52 31 = 0 from by rw [hp_s_i, upd_n (by decide), cm.2.2.2.2.1.1, hl]; rfl, if_pos rfl]
    rw [e1, e_b2, e2, e_b2, if_pos rfl]
    refine ⟨_, _, rfl, rel_q ok cx cm tp fm_0 ?_⟩
    unfold CT
    rw [hp_s_i, upd_n (by decide), hp_s_n (show 54 ≠ 52 by decide), hp_s_n (show 0 ≠ 52 by decide)]
    exact ct
  · obtain ⟨n, hn⟩ : ∃ n, (aW A).length = n + 1 := ⟨(aW A).length - 1, by omega⟩
    obtain ⟨s1, a1, a2, a3, a4, a5, a6⟩ := xs_undo ok cx (n := n) (by omega) hn
    have cm1 : CM s1 A := cm.hi ok (fun i hi => a3 i (by simp only [List.mem_cons, List.not_mem_nil, or_false]; omega))
    obtain ⟨s2, b1, b2, b3, b4, b5, b6⟩ := ms_undo ok cm1 (n := n) (by omega) hn
    rw [a1, e_b2, b1, e_b2, if_pos rfl]
    refine ⟨_, _, rfl, rel_mk (aok_undo ok (by omega)) a2 b2 (fun i hi => b3 i (by simp only [List.mem_cons, List.not_mem_nil, or_false]; omega)) ?_ ?_⟩
    · have t1 : TP s1 := tp_mk tp (a3 1 (by decide)) (a3 2 (by decide)) (a3 53 (by decide)) (congrFun (a3 52 (by decide)) 1) (congrFun (a3 52 (by decide)) 3) (a3 42 (by decide)) (a3 43 (by decide))
      exact tp_mk t1 (b3 1 (by decide)) (b3 2 (by decide)) (b3 53 (by decide)) b5 b6 (b3 42 (by decide)) (b3 43 (by decide))
    · unfold CT
      rw [b4, b3 0 (by decide), a4, b3 54 (by decide), a3 54 (by decide), a5, a6]
      exact ⟨rfl, ct.2⟩

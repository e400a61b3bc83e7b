/-! IMAGES: image, restore -/
section W3
variable {σ : hp_I} {A : ab_A}
theorem xs_image (ok : AOK A) (cx : CX σ A) (h3 : (aI A).length < 3) : ∃ s, fn_X_image 0 σ = some (Int32.ofNat ((aI A).length + 1), s) ∧ CX s (aH A, aR A, aL A, aB A, aW A, aI A ++ [(aW A, aR A)]) ∧ (∀ i, i ∉ [38, 40, 41] → s i = σ i) := by
  have h16 := ok.2.2.2.2.1.1
  have px := cx.2.2.2.2.1
  have ix := cx.2.2.2.2.2
  generalize hm : (aI A).length = m at h3
  generalize hn : (aW A).length = n at h16
  have e1 : σ 38 1 = Int32.ofNat m := by rw [ix.1, hm]
  have e0 : σ 38 0 = Int32.ofNat n := by rw [px.1, hn]
  have c1 := zi_cpy (σ := σ) (a := 39) (b := 40) (p := 0) (q := m * 799) (n := n * 47) (by rw [pn_39]; omega) (by rw [pn_40]; omega) (by omega) (by omega) (by omega)
  generalize hf1 : va_cpy (σ 39) (σ 40) 0 (m * 799) (n * 47) = f1 at c1
  have c2 := zi_cpy (σ := hp_f σ 40 f1) (a := 33) (b := 40) (p := 0) (q := m * 799 + 752) (n := 47) (by rw [so_32.2.2.2.2.1]; decide) (by rw [pn_40]; omega) (by omega) (by omega) (by omega)
  generalize hf2 : va_cpy (hp_f σ 40 f1 33) (hp_f σ 40 f1 40) 0 (m * 799 + 752) 47 = f2 at c2
  rw [hp_ff] at c2
  have ea : ∀ g : Nat → Int32, hp_f σ 40 g 38 1 = Int32.ofNat m := fun g => by rw [hp_f_n (by decide)]; exact e1
  have eb : ∀ g : Nat → Int32, hp_f σ 40 g 38 0 = Int32.ofNat n := fun g => by rw [hp_f_n (by decide)]; exact e0
  unfold fn_X_image fn_Past_keepImage
  rw [xf_8, xf_6, e1, if_neg (show ¬ (3 : Int32) ≤ Int32.ofNat m from zl_nle (a := 3) h3 (by decide)), show Int32.ofNat m * 799 = Int32.ofNat (m * 799) from zi_mul m 799, e0, show Int32.ofNat n * 47 = Int32.ofNat (n * 47) from zi_mul n 47, pf_2, pf_3, pf_4, show px_cpy σ 39 0 40 (Int32.ofNat (m * 799)) (Int32.ofNat (n * 47)) = _ from c1, e_bd, ea, show Int32.ofNat m * 799 = Int32.ofNat (m * 799) from zi_mul m 799, show Int32.ofNat (m * 799) + 752 = Int32.ofNat (m * 799 + 752) from zi_add (m * 799) 752, so_32.2.2.1, show px_cpy (hp_f σ 40 f1) 33 0 40 (Int32.ofNat (m * 799 + 752)) 47 = _ from c2, e_bd, ea, eb, zi_ast (by rw [pn_41]; omega) (by omega), e_bd, show hp_s (hp_f σ 40 f2) 41 m (Int32.ofNat n) 38 1 = Int32.ofNat m from by rw [hp_s_n (by decide)]; exact ea _, zi_succ, e_let, e_z1, e_b2, e_jn, if_neg (show ¬ (1 : Int32) = 0 from by decide)]
  have k40 : ∀ i q, i < m → q < 799 → f2 (799 * i + q) = σ 40 (799 * i + q) := fun i q hi hq => by
    have : 799 * i + q < m * 799 := by
      have : (i + 1) * 799 ≤ m * 799 := Nat.mul_le_mul_right _ hi
      omega
    rw [← hf2, cpy_no (by omega), hp_f_i, ← hf1, cpy_no (by omega)]
  have k40a : ∀ q, q < n * 47 → f2 (799 * m + q) = σ 39 q := fun q hq => by
    rw [← hf2, cpy_no (by omega), hp_f_i, ← hf1, cpy_at ⟨by omega, by omega⟩, show 0 + (799 * m + q - m * 799) = q by omega]
  have k40b : ∀ k, k < 47 → f2 (799 * m + 752 + k) = σ 33 k := fun k hk => by
    rw [← hf2, cpy_at ⟨by omega, by omega⟩, hp_f_n (by decide), show 0 + (799 * m + 752 + k - (m * 799 + 752)) = k by omega]
  refine ⟨hp_s (hp_s (hp_f σ 40 f2) 41 m (Int32.ofNat n)) 38 1 (Int32.ofNat (m + 1)), ?_, ?_, fun i hi => ?_⟩
  · rw [hp_s_i, upd_i]
  · refine cx.up (fun i hi => ?_) ?_ ?_ ?_
    · rw [hp_s_n (by intro e; rw [e] at hi; exact absurd hi (by decide)), hp_s_n (by intro e; rw [e] at hi; exact absurd hi (by decide)), hp_f_n (by intro e; rw [e] at hi; exact absurd hi (by decide))]
    · exact cx.2.1.fr (by rw [hp_s_n (by decide), hp_s_n (by decide), hp_f_n (by decide)])
    · unfold PX
      rw [hp_s_i, upd_n (by decide), hp_s_n (show 39 ≠ 38 by decide), hp_s_n (show 39 ≠ 41 by decide), hp_f_n (show 39 ≠ 40 by decide), hp_s_n (show 38 ≠ 41 by decide), hp_f_n (show 38 ≠ 40 by decide)]
      exact px
    · refine ⟨?_, fun i hi => ?_⟩
      · rw [hp_s_i, upd_i, List.length_append, hm]; rfl
      · rw [List.length_append, hm] at hi
        have hi2 : i < m + 1 := hi
        rw [hp_s_n (show 41 ≠ 38 by decide), hp_s_n (show 40 ≠ 38 by decide), hp_s_n (show 40 ≠ 41 by decide), hp_f_i, hp_s_i, hp_f_n (show 41 ≠ 40 by decide)]
        by_cases e : i < m
        · rw [List.getElem_append_left (by omega), upd_n (by omega)]
          obtain ⟨i1, i2, i3⟩ := ix.2 i (by omega)
          have hl := (ok.2.2.2.2.2.2 _ (List.getElem_mem (show i < (aI A).length by omega))).1
          refine ⟨i1, fun j hj k hk => ?_, fun k hk => ?_⟩
          · have := vk_lt ok.1 hk
            rw [show 799 * i + 47 * j + k = 799 * i + (47 * j + k) by omega, k40 i _ e (by omega), ← Nat.add_assoc]
            exact i2 j hj k hk
          · have := vk_lt ok.1 hk
            rw [show 799 * i + 752 + k = 799 * i + (752 + k) by omega, k40 i _ e (by omega), ← Nat.add_assoc]
            exact i3 k hk
        · have e2 : i = m := by omega
          subst e2
          rw [upd_i]
          have hx : ∀ h, (aI A ++ [(aW A, aR A)])[i]'h = (aW A, aR A) := fun h => by
            rw [List.getElem_append_right (by omega)]
            simp only [hm, Nat.sub_self, List.getElem_singleton]
          have key : ∀ q : List ab_R × ab_R, q = (aW A, aR A) → (Int32.ofNat n = Int32.ofNat q.1.length ∧ (∀ j (hj : j < q.1.length) k, vk (aH A) k → f2 (799 * i + 47 * j + k) = q.1[j] k) ∧ ∀ k, vk (aH A) k → f2 (799 * i + 752 + k) = q.2 k) := by
            intro q hq
            subst hq
            refine ⟨by rw [hn], fun j hj k hk => ?_, fun k hk => ?_⟩
            · have hk2 := vk_lt ok.1 hk
              have hj0 : j < (aW A).length := hj
              rw [hn] at hj0
              rw [Nat.add_assoc, k40a _ (by have : (j + 1) * 47 ≤ n * 47 := Nat.mul_le_mul_right _ hj0; omega)]
              exact px.2 j hj k hk
            · have hk2 := vk_lt ok.1 hk
              rw [k40b k hk2]
              exact cx.2.1.2 k hk
          exact key _ (hx _)
  · rw [hp_s_n (by intro e; exact hi (by rw [e]; decide)), hp_s_n (by intro e; exact hi (by rw [e]; decide)), hp_f_n (by intro e; exact hi (by rw [e]; decide))]
theorem ms_image (ok : AOK A) (cm : CM σ A) (h3 : (aI A).length < 3) : ∃ s, fn_M_image 52 σ = some (Int32.ofNat ((aI A).length + 1), s) ∧ CM s (aH A, aR A, aL A, aB A, aW A, aI A ++ [(aW A, aR A)]) ∧ (∀ i, i < 52 ∨ i = 53 ∨ i = 54 → s i = σ i) ∧ s 52 32 = σ 52 32 ∧ s 52 1 = σ 52 1 ∧ s 52 3 = σ 52 3 := by
  have h16 := ok.2.2.2.2.1.1
  have pm := cm.2.2.2.2.1
  have im := cm.2.2.2.2.2
  have hm0 : (aI A).length = (aI A).length := rfl
  generalize hm : (aI A).length = m at h3 hm0
  clear hm0
  unfold fn_M_image
  have e33 : hp_s σ 52 0 0 52 33 = Int32.ofNat m := by rw [hp_s_i, upd_n (by decide), im.1, hm]
  rw [e_let, e33, if_neg (show ¬ Int32.ofNat m = 3 from zl_ne (b := 3) (by omega) (by omega) (by decide)), sm_29, zi_rld (by rw [wn_592]; omega) (by omega), e_bd, wf_592]
  obtain ⟨s, k0, k1, k2, k3, k4, k5, k6, -⟩ := ms_putsAll (σ := hp_s σ 52 0 0) (b := 0) (T := 593 + m) (Or.inl rfl) (by omega) (wn_593 m h3) cm.2.1.1
  obtain ⟨k6a, k6b, k6c⟩ := k6 rfl
  have j52 : ∀ j, j ≠ 34 → j ≠ 31 → j ≠ 0 → s 52 j = σ 52 j := fun j a1 a2 a3 => by rw [k1 j a1 a2, hp_s_i, upd_n a3]
  have f1 : ∀ i, i ≠ 52 → i ≠ 593 + m → i ≠ 572 → (i < 576 ∨ 592 ≤ i) → s i = σ i := fun i a1 a2 a3 a4 => by rw [k2 i a1 a2 a3 a4, hp_s_n a1]
  rw [k0, e_bd, show s 52 33 = Int32.ofNat m from by rw [k1 33 (by decide) (by decide)]; exact e33, zi_succ, e_let, show hp_s s 52 33 (Int32.ofNat (m + 1)) 52 33 = Int32.ofNat (m + 1) from by rw [hp_s_i, upd_i]]
  refine ⟨hp_s s 52 33 (Int32.ofNat (m + 1)), rfl, cm.up ok (fun i hi => ?_) (fun k hk => ?_) ?_ ?_ ?_, fun i hi => ?_, ?_, ?_, ?_⟩
  · rw [hp_s_n (by omega)]; exact f1 i (by omega) (by omega) (by omega) (by omega)
  · rw [hp_s_i, upd_n (by intro e; rw [e] at hk; exact absurd hk (by decide))]
    exact j52 k (by intro e; rw [e] at hk; exact absurd hk (by decide)) (by intro e; rw [e] at hk; exact absurd hk (by decide)) (by intro e; rw [e] at hk; exact absurd hk (by decide))
  · refine ⟨cm.2.1.1, fun k hk => ?_⟩
    rw [hp_s_n (by decide), k6b, hp_s_n (by decide)]
    exact cm.2.1.2 k hk
  · refine ⟨?_, fun j hj k hk => ?_⟩
    · rw [hp_s_i, upd_n (by decide), k6a, hp_s_i, upd_n (by decide)]; exact pm.1
    · rw [hp_s_n (by omega), k6c j (by omega), hp_s_n (by omega)]
      exact pm.2 j hj k hk
  · refine ⟨?_, fun i hi => ?_⟩
    · rw [hp_s_i, upd_i, List.length_append, hm]; rfl
    · rw [List.length_append, hm] at hi
      have hi2 : i < m + 1 := hi
      rw [hp_s_n (by omega)]
      by_cases e : i < m
      · rw [List.getElem_append_left (by omega), f1 (593 + i) (by omega) (by omega) (by omega) (by omega)]
        exact im.2 i (by omega)
      · have e2 : i = m := by omega
        subst e2
        have hx : ∀ h, (aI A ++ [(aW A, aR A)])[i]'h = (aW A, aR A) := fun h => by
          rw [List.getElem_append_right (by omega)]
          simp only [hm, Nat.sub_self, List.getElem_singleton]
        have key : ∀ q : List ab_R × ab_R, q = (aW A, aR A) → (s (593 + i) 0 = Int32.ofNat q.1.length ∧ (∀ j (hj : j < q.1.length) k, vk (aH A) k → s (593 + i) (48 + 47 * j + mp k) = q.1[j] k) ∧ ∀ k, vk (aH A) k → s (593 + i) (1 + mp k) = q.2 k) := by
          intro q hq
          subst hq
          refine ⟨?_, fun j hj k hk => ?_, fun k hk => ?_⟩
          · rw [← k3, k6a, hp_s_i, upd_n (by decide)]; exact pm.1
          · have hj0 : j < (aW A).length := hj
            rw [← k5 j (by omega) _ (mp_lt (vk_lt ok.1 hk)), k6c j (by omega), hp_s_n (by omega)]
            exact pm.2 j hj k hk
          · rw [← k4 _ (mp_lt (vk_lt ok.1 hk)), k6b, hp_s_n (by decide)]
            exact cm.2.1.2 k hk
        exact key _ (hx _)
  · rw [hp_s_n (by omega)]; exact f1 i (by omega) (by omega) (by omega) (by omega)
  · rw [hp_s_i, upd_n (by decide)]; exact j52 32 (by decide) (by decide) (by decide)
  · rw [hp_s_i, upd_n (by decide)]; exact j52 1 (by decide) (by decide) (by decide)
  · rw [hp_s_i, upd_n (by decide)]; exact j52 3 (by decide) (by decide) (by decide)
theorem aok_image (ok : AOK A) (h3 : (aI A).length < 3) : AOK (aH A, aR A, aL A, aB A, aW A, aI A ++ [(aW A, aR A)]) := by
  obtain ⟨o1, o2, o3, o4, o5, o6, o7⟩ := ok
  refine ⟨o1, o2, o3, o4, o5, ?_, fun q hq => ?_⟩
  · show (aI A ++ [(aW A, aR A)]).length ≤ 3
    rw [List.length_append]
    show (aI A).length + 1 ≤ 3
    omega
  · rcases List.mem_append.mp hq with h | h
    · exact o7 q h
    · rw [List.mem_singleton.mp h]
      exact ⟨o5.1, o5.2, o2⟩
theorem xs_restore (ok : AOK A) (cx : CX σ A) {m : Nat} (hm : m < (aI A).length) (hl : (aI A).length = m + 1) : ∃ s, fn_X_restore 0 σ = some (Int32.ofNat m, s) ∧ CX s (aH A, (aI A)[m].2, aL A, aB A, (aI A)[m].1, (aI A).take m) ∧ (∀ i, i ∉ [0, 33, 38, 39] → s i = σ i) ∧ s 0 13 = 0 ∧ s 0 14 = σ 0 14 ∧ s 0 15 = σ 0 15 := by
  have h3 := ok.2.2.2.2.2.1
  have ix := cx.2.2.2.2.2
  obtain ⟨i1, i2, i3⟩ := ix.2 m hm
  have h16 := (ok.2.2.2.2.2.2 _ (List.getElem_mem hm)).1
  generalize hw : (aI A)[m].1 = ws at i1 i2 h16
  generalize hr : (aI A)[m].2 = rr at i3
  have e1 : σ 38 1 = Int32.ofNat (m + 1) := by rw [ix.1, hl]
  unfold fn_X_restore fn_Past_takeBackImage
  rw [xf_8, xf_6, e1, if_neg (show ¬ Int32.ofNat (m + 1) ≤ 0 from zl_nle (b := 0) (by omega) (by omega)), zi_sub1 (by omega), Nat.add_sub_cancel, e_let, show hp_s σ 38 1 (Int32.ofNat m) 38 1 = Int32.ofNat m from by rw [hp_s_i, upd_i], pf_4, zi_ald (by rw [pn_41]; omega) (by omega), e_bd, hp_s_n (show 41 ≠ 38 by decide), i1, e_let]
  have a1 : hp_s (hp_s σ 38 1 (Int32.ofNat m)) 38 0 (Int32.ofNat ws.length) 38 1 = Int32.ofNat m := by rw [hp_s_i, upd_n (by decide), hp_s_i, upd_i]
  have a0 : hp_s (hp_s σ 38 1 (Int32.ofNat m)) 38 0 (Int32.ofNat ws.length) 38 0 = Int32.ofNat ws.length := by rw [hp_s_i, upd_i]
  have ai : ∀ i, i ≠ 38 → hp_s (hp_s σ 38 1 (Int32.ofNat m)) 38 0 (Int32.ofNat ws.length) i = σ i := fun i h => by rw [hp_s_n h, hp_s_n h]
  generalize hp_s (hp_s σ 38 1 (Int32.ofNat m)) 38 0 (Int32.ofNat ws.length) = s3 at a1 a0 ai ⊢
  have c1 := zi_cpy (σ := s3) (a := 40) (b := 39) (p := m * 799) (q := 0) (n := ws.length * 47) (by rw [pn_40]; omega) (by rw [pn_39]; omega) (by omega) (by omega) (by omega)
  generalize hf1 : va_cpy (s3 40) (s3 39) (m * 799) 0 (ws.length * 47) = f1 at c1
  have c2 := zi_cpy (σ := hp_f s3 39 f1) (a := 40) (b := 33) (p := m * 799 + 752) (q := 0) (n := 47) (by rw [pn_40]; omega) (by rw [so_32.2.2.2.2.1]; decide) (by omega) (by omega) (by omega)
  generalize hf2 : va_cpy (hp_f s3 39 f1 40) (hp_f s3 39 f1 33) (m * 799 + 752) 0 47 = f2 at c2
  rw [a1, a0, show Int32.ofNat m * 799 = Int32.ofNat (m * 799) from zi_mul m 799, show Int32.ofNat ws.length * 47 = Int32.ofNat (ws.length * 47) from zi_mul ws.length 47, pf_2, pf_3, show px_cpy s3 40 (Int32.ofNat (m * 799)) 39 0 (Int32.ofNat (ws.length * 47)) = _ from c1, e_bd, show hp_f s3 39 f1 38 1 = Int32.ofNat m from by rw [hp_f_n (by decide)]; exact a1, show Int32.ofNat m * 799 = Int32.ofNat (m * 799) from zi_mul m 799, show Int32.ofNat (m * 799) + 752 = Int32.ofNat (m * 799 + 752) from zi_add (m * 799) 752, so_32.2.2.1, show px_cpy (hp_f s3 39 f1) 40 (Int32.ofNat (m * 799 + 752)) 33 0 47 = _ from c2, e_bd, e_z1, e_b2, if_neg (show ¬ (1 : Int32) = 0 from by decide), e_let]
  refine ⟨hp_s (hp_f (hp_f s3 39 f1) 33 f2) 0 13 0, ?_, cx.up (fun i hi => ?_) ?_ ?_ ?_, fun i hi => ?_, ?_, ?_, ?_⟩
  · rw [hp_s_n (by decide), hp_f_n (by decide), hp_f_n (by decide), a1]
  · rw [hp_s_n (by intro e; rw [e] at hi; exact absurd hi (by decide)), hp_f_n (by intro e; rw [e] at hi; exact absurd hi (by decide)), hp_f_n (by intro e; rw [e] at hi; exact absurd hi (by decide)), ai i (by intro e; rw [e] at hi; exact absurd hi (by decide))]
  · refine ⟨so_32.2.2.2.2.1, fun k hk => ?_⟩
    have := vk_lt ok.1 hk
    rw [hp_s_n (by decide), hp_f_i, ← hf2, cpy_at ⟨by omega, by omega⟩, hp_f_n (by decide), ai 40 (by decide), show m * 799 + 752 + (k - 0) = 799 * m + 752 + k by omega]
    exact i3 k hk
  · refine ⟨?_, fun j hj k hk => ?_⟩
    · rw [hp_s_n (by decide), hp_f_n (by decide), hp_f_n (by decide), a0]
    · have h47 := vk_lt ok.1 hk
      have hj2 : (j + 1) * 47 ≤ ws.length * 47 := Nat.mul_le_mul_right _ hj
      rw [hp_s_n (by decide), hp_f_n (by decide), hp_f_i, ← hf1, cpy_at ⟨by omega, by omega⟩, ai 40 (by decide), show m * 799 + (47 * j + k - 0) = 799 * m + 47 * j + k by omega]
      exact i2 j hj k hk
  · refine ⟨?_, fun i hi => ?_⟩
    · rw [hp_s_n (by decide), hp_f_n (by decide), hp_f_n (by decide), a1, List.length_take, show min m (aI A).length = m by omega]
    · rw [List.length_take] at hi
      rw [hp_s_n (show 41 ≠ 0 by decide), hp_f_n (show 41 ≠ 33 by decide), hp_f_n (show 41 ≠ 39 by decide), hp_s_n (show 40 ≠ 0 by decide), hp_f_n (show 40 ≠ 33 by decide), hp_f_n (show 40 ≠ 39 by decide), ai 40 (by decide), ai 41 (by decide), List.getElem_take]
      exact ix.2 i (by omega)
  · rw [hp_s_n (by intro e; exact hi (by rw [e]; decide)), hp_f_n (by intro e; exact hi (by rw [e]; decide)), hp_f_n (by intro e; exact hi (by rw [e]; decide)), ai i (by intro e; exact hi (by rw [e]; decide))]
  · rw [hp_s_i, upd_i]
  · rw [hp_s_i, upd_n (by decide), hp_f_n (by decide), hp_f_n (by decide), ai 0 (by decide)]
  · rw [hp_s_i, upd_n (by decide), hp_f_n (by decide), hp_f_n (by decide), ai 0 (by decide)]
theorem ms_restore (ok : AOK A) (cm : CM σ A) {m : Nat} (hm : m < (aI A).length) (hl : (aI A).length = m + 1) : ∃ s, fn_M_restore 52 σ = some (Int32.ofNat m, s) ∧ CM s (aH A, (aI A)[m].2, aL A, aB A, (aI A)[m].1, (aI A).take m) ∧ (∀ i, i < 52 ∨ i = 53 ∨ i = 54 → s i = σ i) ∧ s 52 32 = 0 ∧ s 52 1 = σ 52 1 ∧ s 52 3 = σ 52 3 := by
  have h3 := ok.2.2.2.2.2.1
  have im := cm.2.2.2.2.2
  obtain ⟨i1, i2, i3⟩ := im.2 m hm
  have h16 := (ok.2.2.2.2.2.2 _ (List.getElem_mem hm)).1
  generalize hw : (aI A)[m].1 = ws at i1 i2 h16
  generalize hr : (aI A)[m].2 = rr at i3
  unfold fn_M_restore
  have e33 : hp_s σ 52 0 0 52 33 = Int32.ofNat (m + 1) := by rw [hp_s_i, upd_n (by decide), im.1, hl]
  rw [e_let, e33, if_neg (show ¬ Int32.ofNat (m + 1) = 0 from zl_ne (b := 0) (by omega) (by omega) (by decide)), zi_sub1 (by omega), Nat.add_sub_cancel, e_let]
  have a33 : hp_s (hp_s σ 52 0 0) 52 33 (Int32.ofNat m) 52 33 = Int32.ofNat m := by rw [hp_s_i, upd_i]
  have aj : ∀ j, j ≠ 33 → j ≠ 0 → hp_s (hp_s σ 52 0 0) 52 33 (Int32.ofNat m) 52 j = σ 52 j := fun j h1 h2 => by rw [hp_s_i, upd_n h1, hp_s_i, upd_n h2]
  have ai : ∀ i, i ≠ 52 → hp_s (hp_s σ 52 0 0) 52 33 (Int32.ofNat m) i = σ i := fun i h => by rw [hp_s_n h, hp_s_n h]
  generalize hp_s (hp_s σ 52 0 0) 52 33 (Int32.ofNat m) = s2 at a33 aj ai ⊢
  rw [a33, sm_29, zi_rld (by rw [wn_592]; omega) (by omega), e_bd, wf_592]
  obtain ⟨s, k0, k1, k2, k3, k4, k5, -, k7⟩ := ms_putsAll (σ := s2) (b := 1) (T := 593 + m) (Or.inr rfl) (by omega) (wn_593 m (by omega)) cm.2.1.1
  have kT := k7 rfl
  have j52 : ∀ j, j ≠ 34 → j ≠ 31 → j ≠ 33 → j ≠ 0 → s 52 j = σ 52 j := fun j b1 b2 b3 b4 => by rw [k1 j b1 b2, aj j b3 b4]
  have f1 : ∀ i, i ≠ 52 → i ≠ 593 + m → i ≠ 572 → (i < 576 ∨ 592 ≤ i) → s i = σ i := fun i b1 b2 b3 b4 => by rw [k2 i b1 b2 b3 b4, ai i b1]
  have fT : ∀ q, s (593 + m) q = σ (593 + m) q := fun q => by rw [kT q, ai _ (by omega)]
  rw [k0, e_bd, e_let, show hp_s s 52 32 0 52 33 = Int32.ofNat m from by rw [hp_s_i, upd_n (by decide), k1 33 (by decide) (by decide)]; exact a33]
  refine ⟨hp_s s 52 32 0, rfl, cm.up ok (fun i hi => ?_) (fun k hk => ?_) ?_ ?_ ?_, fun i hi => ?_, ?_, ?_, ?_⟩
  · rw [hp_s_n (by omega)]; exact f1 i (by omega) (by omega) (by omega) (by omega)
  · rw [hp_s_i, upd_n (by intro e; rw [e] at hk; exact absurd hk (by decide))]
    exact j52 k (by intro e; rw [e] at hk; exact absurd hk (by decide)) (by intro e; rw [e] at hk; exact absurd hk (by decide)) (by intro e; rw [e] at hk; exact absurd hk (by decide)) (by intro e; rw [e] at hk; exact absurd hk (by decide))
  · refine ⟨cm.2.1.1, fun k hk => ?_⟩
    rw [hp_s_n (by decide), k4 _ (mp_lt (vk_lt ok.1 hk)), fT]
    exact i3 k hk
  · refine ⟨?_, fun j hj k hk => ?_⟩
    · rw [hp_s_i, upd_n (by decide), k3, fT]; exact i1
    · rw [hp_s_n (by omega), k5 j (by omega) _ (mp_lt (vk_lt ok.1 hk)), fT]
      exact i2 j hj k hk
  · refine ⟨?_, fun i hi => ?_⟩
    · rw [hp_s_i, upd_n (by decide), k1 33 (by decide) (by decide), a33, List.length_take, show min m (aI A).length = m by omega]
    · rw [List.length_take] at hi
      rw [hp_s_n (by omega), f1 (593 + i) (by omega) (by omega) (by omega) (by omega), List.getElem_take]
      exact im.2 i (by omega)
  · rw [hp_s_n (by omega)]; exact f1 i (by omega) (by omega) (by omega) (by omega)
  · rw [hp_s_i, upd_i]
  · rw [hp_s_i, upd_n (by decide)]; exact j52 1 (by decide) (by decide) (by decide) (by decide)
  · rw [hp_s_i, upd_n (by decide)]; exact j52 3 (by decide) (by decide) (by decide) (by decide)
theorem aok_restore (ok : AOK A) {m : Nat} (hm : m < (aI A).length) : AOK (aH A, (aI A)[m].2, aL A, aB A, (aI A)[m].1, (aI A).take m) := by
  obtain ⟨o1, o2, o3, o4, o5, o6, o7⟩ := ok
  have h := o7 _ (List.getElem_mem hm)
  refine ⟨o1, h.2.2, o3, o4, ⟨h.1, h.2.1⟩, ?_, fun q hq => o7 q (List.mem_of_mem_take hq)⟩
  show ((aI A).take m).length ≤ 3
  rw [List.length_take]
  omega
end W3
theorem lk_38 {L : Nat} {xs y : Nat → Int32} {i : Int32} {s0 : hp_I} {u0 : hp_L} {j : hp_I → hp_L → Option Int32} (hy : SL L xs i y) (r : REL s0) : ∃ s3 u3, lc_38 L xs j i s0 u0 = j s3 u3 ∧ REL s3 := by
  obtain ⟨A, ok, cx, cm, tp, ct⟩ := r
  unfold lc_38
  by_cases hl : (aI A).length < 3
  · obtain ⟨s1, a1, a2, a3⟩ := xs_image ok cx hl
    have cm1 : CM s1 A := cm.hi ok (fun i hi => a3 i (by simp only [List.mem_cons, List.not_mem_nil, or_false]; omega))
    obtain ⟨s2, b1, b2, b3, b4, b5, b6⟩ := ms_image ok cm1 hl
    rw [a1, e_b2, b1, e_b2, if_pos rfl]
    refine ⟨_, _, rfl, rel_mk (aok_image ok hl) a2 b2 (fun i hi => b3 i (Or.inl hi)) ?_ ?_⟩
    · have t1 : TP s1 := tp_mk tp (a3 1 (by decide)) (a3 2 (by decide)) (a3 53 (by decide)) (congrFun (a3 52 (by decide)) 1) (congrFun (a3 52 (by decide)) 3) (a3 42 (by decide)) (a3 43 (by decide))
      exact tp_mk t1 (b3 1 (by decide)) (b3 2 (by decide)) (b3 53 (by decide)) b5 b6 (b3 42 (by decide)) (b3 43 (by decide))
    · unfold CT
      rw [b4, b3 0 (by decide), b3 54 (by decide), a3 54 (by decide), a3 0 (by decide), a3 52 (by decide)]
      exact ct
  · have h3 := ok.2.2.2.2.2.1
    have hl3 : (aI A).length = 3 := by omega
    have e1 : fn_X_image 0 s0 = some (-1, s0) := by
      unfold fn_X_image fn_Past_keepImage
      rw [xf_8, cx.2.2.2.2.2.1, hl3, if_pos (by decide), e_z0, e_b2, e_jn, if_pos rfl]
    have e2 : fn_M_image 52 s0 = some (-1, hp_s s0 52 0 0) := by
      unfold fn_M_image
      rw [e_let, show hp_s s0 52 0 0 52 33 = 3 from by rw [hp_s_i, upd_n (by decide), cm.2.2.2.2.2.1, hl3]; rfl, if_pos rfl]
    rw [e1, e_b2, e2, e_b2, if_pos rfl]
    refine ⟨_, _, rfl, rel_q ok cx cm tp fm_0 ?_⟩
    unfold CT
    rw [hp_s_i, upd_n (by decide), hp_s_n (show 54 ≠ 52 by decide), hp_s_n (show 0 ≠ 52 by decide)]
    exact ct
theorem lk_39 {L : Nat} {xs y : Nat → Int32} {i : Int32} {s0 : hp_I} {u0 : hp_L} {j : hp_I → hp_L → Option Int32} (hy : SL L xs i y) (r : REL s0) : ∃ s3 u3, lc_39 L xs j i s0 u0 = j s3 u3 ∧ REL s3 := by
  obtain ⟨A, ok, cx, cm, tp, ct⟩ := r
  unfold lc_39
  by_cases hl : (aI A).length = 0
  · have e1 : fn_X_restore 0 s0 = some (-1, s0) := by
      unfold fn_X_restore fn_Past_takeBackImage
      rw [xf_8, cx.2.2.2.2.2.1, hl, if_pos (by decide), e_z0, e_b2, if_pos rfl]
    have e2 : fn_M_restore 52 s0 = some (-1, hp_s s0 52 0 0) := by
      unfold fn_M_restore
      rw [e_let, show hp_s s0 52 0 0 52 33 = 0 from by rw [hp_s_i, upd_n (by decide), cm.2.2.2.2.2.1, hl]; rfl, if_pos rfl]
    rw [e1, e_b2, e2, e_b2, if_pos rfl]
    refine ⟨_, _, rfl, rel_q ok cx cm tp fm_0 ?_⟩
    unfold CT
    rw [hp_s_i, upd_n (by decide), hp_s_n (show 54 ≠ 52 by decide), hp_s_n (show 0 ≠ 52 by decide)]
    exact ct
  · obtain ⟨m, hm⟩ : ∃ n, (aI A).length = n + 1 := ⟨(aI A).length - 1, by omega⟩
    obtain ⟨s1, a1, a2, a3, a4, a5, a6⟩ := xs_restore ok cx (m := m) (by omega) hm
    have cm1 : CM s1 A := cm.hi ok (fun i hi => a3 i (by simp only [List.mem_cons, List.not_mem_nil, or_false]; omega))
    obtain ⟨s2, b1, b2, b3, b4, b5, b6⟩ := ms_restore ok cm1 (m := m) (by omega) hm
    rw [a1, e_b2, b1, e_b2, if_pos rfl]
    refine ⟨_, _, rfl, rel_mk (aok_restore ok (by omega)) a2 b2 (fun i hi => b3 i (Or.inl hi)) ?_ ?_⟩
    · have t1 : TP s1 := tp_mk tp (a3 1 (by decide)) (a3 2 (by decide)) (a3 53 (by decide)) (congrFun (a3 52 (by decide)) 1) (congrFun (a3 52 (by decide)) 3) (a3 42 (by decide)) (a3 43 (by decide))
      exact tp_mk t1 (b3 1 (by decide)) (b3 2 (by decide)) (b3 53 (by decide)) b5 b6 (b3 42 (by decide)) (b3 43 (by decide))
    · unfold CT
      rw [b4, b3 0 (by decide), a4, b3 54 (by decide), a3 54 (by decide), a5, a6]
      exact ⟨rfl, ct.2⟩

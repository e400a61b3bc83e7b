/-! WORK: the whole text, and the call -/
section WK6
variable {X : tx} {s t : hp_I} {p q : Nat} {H : ab_H}
theorem k_xc {k : Nat} {pl : Int32} (te : TE X) (h : XT X s p k pl) (ho : ovB X p k = true) {K : hp_I → Option hp_I} {fu : Nat} {x : Int32} : fn_Steps_read_L7 27 1 3 K (fu + 1) x s = K s := by
  rw [fn_Steps_read_L7, c_over te h, e_bd, ho, if_neg (show ¬ bI true = 0 from by decide)]
  split <;> rfl
theorem k_xm {k : Nat} {pl : Int32} (te : TE X) (h : MT X t q k pl) (ho : k ≠ 0 ∨ X.2 ≤ q) {M : hp_I → Option (Int32 × hp_I)} {fv : Nat} : fn_M_work_L72 52 M (fv + 1) t = M t := by
  have h6 := te.1
  have hq := h.2.1
  rw [fn_M_work_L72, h.1.2.2.1, h.1.2.1, h.1.1]
  by_cases c : k = 0
  · rw [if_pos ((k_0 h.2.2.1).mpr c), if_neg (zl_nlt (by omega) (by omega))]
  · rw [if_neg (fun e => c ((k_0 h.2.2.1).mp e))]
theorem b_work (te : TE X) (hX : X.2 ≤ 150) (ok : HOK H) (K : hp_I → Option hp_I) (M : hp_I → Option (Int32 × hp_I)) : ∀ m s t p q k pl N fu fv i, X.2 - p < m → m ≤ fu → m ≤ fv → JT X s t p q k pl → (k = 0 → q = p) → CNX s H → CNM t H → (k = 0 → CTN s t N ∧ t 52 8 = Int32.ofNat 0 ∧ 6 * N ≤ p ∧ i ≤ p) → ∃ s' t' p' q' k' pl', fn_Steps_read_L7 27 1 3 K fu (Int32.ofNat i) s = K s' ∧ fn_M_work_L72 52 M fv t = M t' ∧ JT X s' t' p' q' k' pl' ∧ XG wkP s s' ∧ MG wmP wmJ t t' ∧ (k' = 0 → ∃ S' N', N ≤ N' ∧ CTN s' t' N' ∧ FB s t s' t' N ∧ SXR s' t' S' N N' ∧ SEG H S' (N' - N) N N' 0) := by
  have h6 := te.1
  have all := rd_all te hX ok 6 0 (by decide) 64 64 (by decide) (by decide)
  intro m
  induction m with
  | zero => intro s t p q k pl N fu fv i h; omega
  | succ m ih =>
    intro s t p q k pl N fu fv i hm hfu hfv h hq cx cm hd
    obtain ⟨fu, rfl⟩ : ∃ f, fu = f + 1 := ⟨fu - 1, by omega⟩
    obtain ⟨fv, rfl⟩ : ∃ f, fv = f + 1 := ⟨fv - 1, by omega⟩
    have hpX := h.le
    by_cases ho : ovB X p k = true
    · refine ⟨s, t, p, q, k, pl, k_xc te h.1 ho, k_xm te h.2.1 ?_, h, XG.refl, MG.refl, fun e => ⟨fun _ => (0, 0, 0, 0), N, Nat.le_refl _, (hd e).1, FB.mf XF.refl MF.refl, ⟨by have := (hd e).2.2.1; omega, fun i a b => absurd b (by omega)⟩, by rw [Nat.sub_self]; rfl⟩⟩
      rcases ov_t ho with e | e
      · exact Or.inl e
      · by_cases e2 : k = 0
        · right; rw [hq e2]; exact e
        · exact Or.inl e2
    · obtain ⟨k0, hp⟩ := ov_f ho
      have ov0 : ovB X p k = false := by simpa using ho
      subst k0
      obtain ⟨sd, h8, h6N, hip⟩ := hd rfl
      have hpl := h.2.2.2 rfl
      subst hpl
      have hfu1 : 1 ≤ fu := by omega
      have hfv1 : 1 ≤ fv := by omega
      obtain ⟨s1, t1, r1, r2, p1, q1, k1, pl1, j1, fx1, fm1, z1, hd1⟩ := all.1 s t p q N h cx cm sd h8 h6N
      obtain ⟨t2, q2, m2, j2, fm2, hq2⟩ := b_blanks te j1
      have cx1 : CNX s1 H := cx.fr (fx1.1 3 (by decide) (by unfold wkP; omega))
      have cm2 : CNM t2 H := cm.fr (by rw [fm2.1 56 (by decide), fm1.1 56 (by decide) (by unfold wmP; omega)])
      have ec : fn_Steps_read_L7 27 1 3 K (fu + 1) (Int32.ofNat i) s = fn_Steps_read_L7 27 1 3 K fu (Int32.ofNat (i + 1)) s1 := by
        rw [fn_Steps_read_L7, if_pos (show Int32.ofNat i < 150 from zl_lt (b := 150) (by omega) (by decide)), c_over te h.1, e_bd, ov0, if_pos (show bI false = 0 from rfl), show fn_Steps_readStep 27 1 3 (0 : Int32) s = some s1 from r1, e_bd, e_let, zi_succ]
      have em : fn_M_work_L72 52 M (fv + 1) t = fn_M_work_L72 52 M fv t2 := by
        rw [fn_M_work_L72, h.2.1.1.2.2.1, if_pos (show Int32.ofNat 0 = 0 from rfl), h.2.1.1.2.1, h.2.1.1.1, hq rfl, if_pos (zl_lt hp (by omega)), show fn_M_readsStep 52 t = some t1 from r2, e_bd, m2, e_bd]
      by_cases c1 : k1 = 0
      · obtain ⟨S1, N1, u1, u2, u3, u4, u4b, u5, u6⟩ := hd1 c1
        have hp1X := j1.le
        obtain ⟨s', t', p', q', k', pl', w1, w2, w3, w4, w5, w7⟩ := ih s1 t2 p1 q2 k1 pl1 N1 fu fv (i + 1) (by omega) (by omega) (by omega) j2 hq2 cx1 cm2 (fun _ => ⟨u3.fr XF.refl fm2, by rw [fm2.2 8 (by decide) (by decide) (by decide)]; exact u6, by omega, by omega⟩)
        refine ⟨s', t', p', q', k', pl', ec.trans w1, em.trans w2, w3, fx1.trans w4, (fm1.trans fm2.g).trans w5, fun e => ?_⟩
        obtain ⟨S', N', v1, v3, v4, v4b, v5⟩ := w7 e
        have fb12 : FB s1 t1 s' t' N1 := (FB.mf (N := N1) XF.refl fm2).trans v4 (Nat.le_refl _)
        have sa : SXR s' t' (fun i => if i < N1 then S1 i else S' i) N N1 := (u4b.fb fb12 (Nat.le_refl _)).congr (fun i _ hi => if_pos hi)
        have sb : SXR s' t' (fun i => if i < N1 then S1 i else S' i) N1 N' := v4b.congr (fun i hi _ => if_neg (by omega))
        refine ⟨fun i => if i < N1 then S1 i else S' i, N', by omega, v3, u4.trans fb12 (by omega), ⟨sb.1, fun i a b => ?_⟩, ?_⟩
        · by_cases e : i < N1
          · exact sa.2 i a e
          · exact sb.2 i (by omega) b
        · have g1 : SEG H (fun i => if i < N1 then S1 i else S' i) (N1 - N) N N1 0 := SEG.congr _ _ _ _ (fun i _ hi => if_pos hi) u5
          have g2 : SEG H (fun i => if i < N1 then S1 i else S' i) (N' - N1) N1 N' 0 := SEG.congr _ _ _ _ (fun i hi _ => if_neg (by omega)) v5
          rw [show N' - N = (N1 - N) + (N' - N1) by omega]
          exact SEG.app _ _ _ _ _ _ g1 v1 g2
      · have ov1 : ovB X p1 k1 = true := by unfold ovB; rw [decide_eq_true (show k1 ≠ 0 from c1)]; rfl
        obtain ⟨fu, rfl⟩ := Nat.exists_eq_add_of_le' hfu1
        obtain ⟨fv, rfl⟩ := Nat.exists_eq_add_of_le' hfv1
        exact ⟨s1, t2, p1, q2, k1, pl1, ec.trans (k_xc te j1.1 ov1), em.trans (k_xm te j2.2.1 (Or.inl c1)), j2, fx1, fm1.trans fm2.g, fun e => absurd e c1⟩
end WK6
def wkM (s_15 : hp_I) : Option (Int32 × hp_I) :=
  if (s_15 52 5) = 0 then (
    px_let (hp_s s_15 52 3 (-1 : Int32)) fun s18 =>
    Option.bind (px_rld (sh_rf 52 28) (s18 52 31)) fun z19 =>
    Option.bind (fn_M_copies (sh_rf 52 25) z19 s18) fun s21 =>
    px_let (hp_s s21 52 31 ((s21 52 31) + (1 : Int32))) fun s22 =>
    px_let (hp_s s22 52 35 (0 : Int32)) fun s23 =>
    px_let (hp_s s23 52 36 (0 : Int32)) fun s24 =>
    px_let (hp_s s24 52 32 (0 : Int32)) fun s25 =>
    Option.bind (fn_M_goes 52 (0 : Int32) (s25 52 24) s25) fun s27 =>
    some (s27 52 36, s27)
  ) else (
    px_b2 (fn_M_ends 52 s_15) fun z16 s17 =>
    some (z16, s17)
  )
theorem full_if {σ : hp_I} {n : Nat} (h : σ 38 0 = Int32.ofNat n) (hn : n ≤ 16) : fn_Past_isFull 38 σ = some (bI (decide (n = 16))) := by
  unfold fn_Past_isFull
  rw [e_jn, h]
  by_cases c : n = 16
  · rw [if_pos (show (16 : Int32) ≤ Int32.ofNat n from zl_le (a := 16) (by omega) (by omega)), decide_eq_true c]; rfl
  · rw [if_neg (show ¬ (16 : Int32) ≤ Int32.ofNat n from zl_nle (a := 16) (by omega) (by decide)), decide_eq_false c]; rfl
theorem lk_3 {L : Nat} {xs y : Nat → Int32} {i : Int32} {s0 : hp_I} {u0 : hp_L} {j : hp_I → hp_L → Option Int32} (hy : SL L xs i y) (r : REL s0) : ∃ s3 u3, lc_3 L xs j i s0 u0 = j s3 u3 ∧ REL s3 := by
  obtain ⟨A, ok, cx, cm, tp, ct⟩ := r
  unfold lc_3 fn_L_work
  simp only [e_let, e_bd, sl_1 hy]
  generalize y 1 = v
  obtain ⟨⟨n, hn, t1, t2, t3⟩, t4⟩ := tp
  have tp : TP s0 := ⟨⟨n, hn, t1, t2, t3⟩, t4⟩
  rcases x_open (v := v) (most := 150) hn t1 t3 (by decide) with ⟨c1, c2⟩ | ⟨c1, m, s1, hm60, hmn, rfl, te, hby, c2, x1, fx1, e11⟩
  · refine text_no (m := fn_M_work 52 v) ok cx cm tp ct ?_ (fun s hs => ?_)
    · unfold fn_X_work
      rw [show fn_X_openText 0 v (150 : Int32) s0 = _ from c2, e_bxl]
    · unfold fn_M_work
      rw [e_let, show hp_s s 52 0 0 52 1 = Int32.ofNat n from by rw [hp_s_i, upd_n (by decide), hs]; exact t2]
      refine (m_gate (most := 150) (by omega) (by decide)).trans ?_
      rw [c1, show fn_M_bad 52 (bI (!false)) (1 : Int32) (1 : Int32) (hp_s s 52 0 0) = _ from md_bad1 1 s0_0 (by decide), if_pos (show (!false) = true from rfl), e_b2, if_neg (show ¬ (1 : Int32) = 0 from by decide)]
  · generalize hX : txX s0 m = X at te hby x1
    have hX2 : X.2 = m := by rw [← hX]; rfl
    have hX150 : X.2 ≤ 150 := by omega
    have h16 : (aW A).length ≤ 16 := ok.2.2.2.2.1.1
    generalize hW : (aW A).length = W at h16
    have px := cx.2.2.2.2.1
    have pm := cm.2.2.2.2.1
    have eW : s0 38 0 = Int32.ofNat W := by rw [px.1, hW]
    have eM : s0 52 31 = Int32.ofNat W := by rw [pm.1, hW]
    have hful : fn_Past_isFull 38 s1 = some (bI (decide (W = 16))) := full_if (by rw [fx1 38 (by decide)]; exact eW) h16
    have kx1 : ∀ i, i ∈ KXL → s1 i = s0 i := fun i hi => fx1 i (by intro e; rw [e] at hi; exact absurd hi (by decide))
    refine ask_two (s0 := s0) (m := fn_M_work 52 (Int32.ofNat m)) (fun σ hσ => ?_)
    have gate : ∀ {β : Option (Int32 × hp_I)}, (if (hp_s σ 52 0 0) 52 31 = (16 : Int32) then (px_let (hp_s (hp_s σ 52 0 0) 52 1 (0 : Int32)) fun s6 => px_let (hp_s s6 52 3 (-1 : Int32)) fun s7 => some ((-20 : Int32), s7)) else (Option.bind (fn_M_starts 52 (Int32.ofNat m) (hp_s σ 52 0 0)) fun s9 => px_let (hp_s s9 52 24 (0 : Int32)) fun s10 => fn_M_work_L72 52 wkM FU s10)) = β → fn_M_work 52 (Int32.ofNat m) σ = β := by
      intro β hβ
      unfold fn_M_work
      rw [e_let, show hp_s σ 52 0 0 52 1 = Int32.ofNat n from by rw [hp_s_i, upd_n (by decide), hσ 52 (by decide)]; exact t2]
      refine (m_gate (most := 150) (by omega) (by decide)).trans ?_
      rw [c1, show fn_M_bad 52 (bI (!true)) (1 : Int32) (1 : Int32) (hp_s σ 52 0 0) = _ from md_bad1 1 s0_0 (by decide), if_neg (show ¬ (!true) = true from by decide), e_b2, if_pos rfl]
      exact hβ
    have e31 : hp_s σ 52 0 0 52 31 = Int32.ofNat W := by rw [hs_ne (by omega), hσ 52 (by decide)]; exact eM
    by_cases cf : W = 16
    · -- too many works
      refine ⟨-20, s1, hp_s (hp_s (hp_s σ 52 0 0) 52 1 0) 52 3 (-1), ?_, fun i hi => fx1 i (by omega), gate ?_, ?_, fun hs => ?_⟩
      · unfold fn_X_work
        rw [show fn_X_openText 0 (Int32.ofNat m) (150 : Int32) s0 = _ from c2, e_bxr, xf_8, hful, decide_eq_true cf, e_bd, if_neg (show ¬ bI true = 0 from by decide)]
      · rw [e31, if_pos (by rw [cf]; rfl), e_let, e_let]
      · rw [hs_ne (by omega), hs_ne (by omega), hs_at]
      · refine rel_fault ok (cx.fr kx1) cm ct (fx1 0 (by decide)) (fun i hi => ?_) (fun i hi => ?_) (fun j hj => ?_) ?_ e11 ?_ ?_ ?_
        · rw [hp_s_n (by omega), hp_s_n (by omega), hp_s_n (by omega), hs]
        · have : 52 < i := by unfold KM at hi; omega
          rw [hp_s_n (by omega), hp_s_n (by omega), hp_s_n (by omega), hσ i (by omega)]
        · revert hj
          simp only [List.mem_cons, List.not_mem_nil, or_false]
          intro hj
          rw [hs_ne (by omega), hs_ne (by omega), hs_ne (by omega), hσ 52 (by decide)]
        · rw [hp_s_n (by decide), hp_s_n (by decide), hp_s_n (by decide), hσ 54 (by decide)]
        · rw [hs_ne (by omega), hs_at]
        · rw [hs_at, x1.1.2.2.2]
        · exact t4.2.fr (fx1 42 (by decide)) (fx1 43 (by decide))
    · have nf : ¬ hp_s σ 52 0 0 52 31 = 16 := by rw [e31]; exact zl_ne (b := 16) cf (by omega) (by decide)
      obtain ⟨t, a1, a2, a3, a4, a5, a6, a7, a8, a9⟩ := m_begin te hX2 (fun i hi => (hby i hi).2) hσ
      have jt0 : JT X (hp_s s1 27 4 0) (hp_s t 52 24 0) (sk X 0) (sk X 0) 0 (-1) := ⟨x1.put (by decide) (by decide), a2.slot (by decide) (by decide) (by decide) (by decide), fun _ => sk_sk te 0, fun _ => rfl⟩
      have hx1 : HX s1 (aH A) := cx.1.fr (fun i h1 h2 => fx1 i (by omega))
      have cnx : CNX (hp_s s1 27 4 0) (aH A) := by
        unfold CNX
        rw [hp_s_n (by decide)]
        exact hx1.1
      have cnm : CNM (hp_s t 52 24 0) (aH A) := by
        unfold CNM
        rw [hp_s_n (by decide), a3 56 (by decide), hσ 56 (by decide)]
        exact cm.1.1
      obtain ⟨s4, t4', p4, q4, k4, pl4, z1, z2, j4, fx4, fm4, hd4⟩ := b_work te hX150 ok.1 (fun s_7 => some s_7) wkM 601 _ _ _ _ 0 (-1) 0 FU FU 0 (by have := te.1; omega) (by decide) (by decide) jt0 (fun _ => rfl) cnx cnm (fun _ => ⟨⟨by rw [hs_at]; rfl, by rw [hs_at]; rfl⟩, by rw [hs_ne (by omega), a6]; rfl, by omega, by omega⟩)
      have ex : fn_Steps_read 27 1 3 s1 = some s4 := by
        unfold fn_Steps_read
        rw [e_let, e_let]
        exact z1
      have em : fn_M_work 52 (Int32.ofNat m) σ = wkM t4' := gate (by rw [if_neg nf, a1, e_bd, e_let]; exact z2)
      have k4f : ∀ i, i ≠ 1 → ¬ wkP i → s4 i = s0 i := fun i h1 h2 => by
        have h27 : i ≠ 27 := by intro e; exact h2 (by unfold wkP; omega)
        rw [fx4.1 i h1 h2, hp_s_n h27, fx1 i h1]
      have s11 : s4 1 1 = 0 := by rw [fx4.2, hp_s_n (by decide)]; exact e11
      have mi : ∀ i, i ≠ 52 → ¬ wmP i → t4' i = σ i := fun i h1 h2 => by rw [fm4.1 i h1 h2, hp_s_n h1, a3 i h1]
      have mj : ∀ j, 8 < j → j ≠ 24 → t4' 52 j = s0 52 j := fun j hj h24 => by rw [fm4.2 j (by omega) (by omega) (by omega) (by unfold wmJ; omega), hs_ne (Or.inr h24), a9 j hj]
      have m0 : t4' 52 0 = 0 := by rw [fm4.2 0 (by decide) (by decide) (by decide) (by unfold wmJ; decide), hs_ne (by omega), a7]
      have m1 : t4' 52 1 = 0 := by rw [fm4.2 1 (by decide) (by decide) (by decide) (by unfold wmJ; decide), hs_ne (by omega), a4]
      have kf4 : ∀ i, i ∈ KXL → s4 i = s0 i := fun i hi => by
        revert hi
        unfold KXL
        simp only [List.mem_cons, List.not_mem_nil, or_false]
        intro hi
        exact k4f i (by omega) (by unfold wkP; omega)
      by_cases ck : k4 = 0
      · obtain ⟨S, N, -, ctn, -, sxr, seg⟩ := hd4 ck
        have hN25 := sxr.1
        rw [Nat.sub_zero] at seg
        have hWlt : W < 16 := by omega
        -- the class keeps the work
        have cp := zi_cpy (σ := s4) (a := 33) (b := 39) (p := 0) (q := W * 47) (n := 47) (by rw [so_32.2.2.2.2.1]; decide) (by rw [pn_39]; omega) (by decide) (by omega) (by decide)
        have e380 : s4 38 0 = Int32.ofNat W := by rw [k4f 38 (by decide) (by unfold wkP; omega)]; exact eW
        generalize hf : va_cpy (s4 33) (s4 39) 0 (W * 47) 47 = f at cp
        have hkeep : fn_Past_keepWork 38 32 s4 = some (hp_s (hp_f s4 39 f) 38 0 (Int32.ofNat (W + 1))) := by
          unfold fn_Past_keepWork
          rw [full_if e380 h16, decide_eq_false cf, e_bd, e_jn, if_pos (show bI false = 0 from rfl), so_32.2.2.1, pf_2, e380, show Int32.ofNat W * 47 = Int32.ofNat (W * 47) from zi_mul W 47, show px_cpy s4 33 (0 : Int32) 39 (Int32.ofNat (W * 47)) (47 : Int32) = _ from cp, e_bd, hp_f_n (show 38 ≠ 39 by decide), e380, zi_succ, e_let]
        generalize hs8 : hp_s (hp_f s4 39 f) 38 0 (Int32.ofNat (W + 1)) = s8 at hkeep
        have f8 : ∀ i, i ≠ 38 → i ≠ 39 → s8 i = s4 i := fun i h1 h2 => by rw [← hs8, hp_s_n h1, hp_f_n h2]
        have s8_38 : ∀ j, j ≠ 0 → s8 38 j = s4 38 j := fun j hj => by rw [← hs8, hs_ne (Or.inr hj), hp_f_n (by decide)]
        -- the model keeps the work
        obtain ⟨t7, b1, b2, b3⟩ := ms_copies (σ := hp_s t4' 52 3 (-1)) (a := 572) (b := 576 + W) (by omega) mn_572 (wn_576 W hWlt)
        have t7i : ∀ i, i ≠ 52 → i ≠ 576 + W → ¬ wmP i → t7 i = σ i := fun i h1 h2 h3 => by rw [b2 i (by simp; omega), hp_s_n h1]; exact mi i h1 h3
        have t752 : ∀ j, j ≠ 3 → t7 52 j = t4' 52 j := fun j hj => by rw [b2 52 (by simp; omega), hs_ne (Or.inr hj)]
        have e7_31 : t7 52 31 = Int32.ofNat W := by rw [t752 31 (by decide), mj 31 (by decide) (by decide)]; exact eM
        generalize ht8 : hp_s (hp_s (hp_s (hp_s t7 52 31 (Int32.ofNat (W + 1))) 52 35 0) 52 36 0) 52 32 0 = t8
        have t8i : ∀ i, i ≠ 52 → t8 i = t7 i := fun i h => by rw [← ht8, hp_s_n h, hp_s_n h, hp_s_n h, hp_s_n h]
        have t8j : ∀ j, j ≠ 31 → j ≠ 35 → j ≠ 36 → j ≠ 32 → t8 52 j = t7 52 j := fun j h1 h2 h3 h4 => by rw [← ht8, hs_ne (Or.inr h4), hs_ne (Or.inr h3), hs_ne (Or.inr h2), hs_ne (Or.inr h1)]
        generalize hs10 : hp_s (hp_s (hp_s s8 27 5 0) 27 6 0) 27 7 0 = s10
        have s10i : ∀ i, i ≠ 27 → s10 i = s8 i := fun i h => by rw [← hs10, hp_s_n h, hp_s_n h, hp_s_n h]
        have s10_4 : s10 27 4 = Int32.ofNat N := by rw [← hs10, hs_ne (by omega), hs_ne (by omega), hs_ne (by omega), f8 27 (by decide) (by decide)]; exact ctn.1
        have hx10 : HX s10 (aH A) := cx.1.fr (fun i h1 h2 => by rw [s10i i (by omega), f8 i (by omega) (by omega), k4f i (by omega) (by unfold wkP; omega)])
        have lx10 : LX s10 (aL A) := cx.2.2.1.fr (by rw [s10i 21 (by decide), f8 21 (by decide) (by decide), k4f 21 (by decide) (by unfold wkP; omega)]) (by rw [s10i 22 (by decide), f8 22 (by decide) (by decide), k4f 22 (by decide) (by unfold wkP; omega)])
        have rx10 : RX s10 33 (aH A) (aR A) := cx.2.1.fr (by rw [s10i 33 (by decide), f8 33 (by decide) (by decide), k4f 33 (by decide) (by unfold wkP; omega)])
        have rnx : RNx (aH A) (aL A) S N s10 0 (aR A) 0 0 := by
          refine ⟨hx10, lx10, rx10, ⟨hN25, fun i hi => ?_⟩, ?_, ?_, ?_⟩
          · rw [s10i 28 (by decide), s10i 29 (by decide), s10i 30 (by decide), s10i 31 (by decide), f8 28 (by decide) (by decide), f8 29 (by decide) (by decide), f8 30 (by decide) (by decide), f8 31 (by decide) (by decide)]
            exact (sxr.2 i (Nat.zero_le _) hi).1
          · rw [← hs10, hs_ne (by omega), hs_ne (by omega), hs_at]; rfl
          · rw [← hs10, hs_ne (by omega), hs_at]
          · rw [← hs10, hs_at]
        have hm8 : HM t8 (aH A) := cm.1.fr ok.1 (by rw [t8i 56 (by decide), t7i 56 (by decide) (by omega) (by unfold wmP; omega), hσ 56 (by decide)]) (fun a ha => by rw [t8i _ (by omega), t7i _ (by omega) (by omega) (by unfold wmP; omega), hσ _ (by omega)])
        have lm8 : LM t8 (aL A) := cm.2.2.1.fr ok.2.2.1.1 (by rw [t8j 15 (by decide) (by decide) (by decide) (by decide), t752 15 (by decide), mj 15 (by decide) (by decide)]) (fun a ha => by rw [t8i _ (by omega), t7i _ (by omega) (by omega) (by unfold wmP; omega), hσ _ (by omega)])
        have rm8 : RM t8 572 (aH A) (aR A) := cm.2.1.fr (by rw [t8i 572 (by decide), t7i 572 (by decide) (by omega) (by unfold wmP; omega), hσ 572 (by decide)])
        have rnm : RNm (aH A) (aL A) S N t8 0 (aR A) 0 0 := by
          refine ⟨hm8, lm8, rm8, fun i hi => ?_, ?_, ?_, ?_⟩
          · rw [t8i _ (by omega), b2 (492 + i) (by simp; omega), hp_s_n (by omega)]
            exact (sxr.2 i (Nat.zero_le _) hi).2
          · rw [← ht8, hs_ne (by omega), hs_ne (by omega), hs_at]; rfl
          · rw [← ht8, hs_ne (by omega), hs_at]
          · rw [← ht8, hs_at]
        obtain ⟨s13, t13, bb, ρ', dn, rf, r1, r2, r3, r4, r5, r6, r7, r8⟩ := run_all (S := S) (N := N) ok.1 ok.2.2.1 6 0 (by decide) 64 64 (by decide) (by decide) N 0 N s10 t8 0 (aR A) 0 0 seg (Nat.le_refl _) (by omega) rnx rnm ok.2.1 (by decide)
        refine ⟨dn, hp_s s13 0 13 rf, t13, ?_, fun i hi => ?_, ?_, ?_, fun hs => ?_⟩
        · unfold fn_X_work fn_Steps_begin fn_Steps_many
          rw [show fn_X_openText 0 (Int32.ofNat m) (150 : Int32) s0 = _ from c2, e_bxr, xf_8, hful, decide_eq_false cf, e_bd, if_pos (show bI false = 0 from rfl), xf_5, xf_0, xf_1, xf_6, ex, e_bd, c_failed j4.1, decide_eq_false (show ¬ k4 ≠ 0 from fun e => e ck), e_bd, if_pos (show bI false = 0 from rfl), hkeep, e_bd]
          simp only [e_let, e_bd]
          rw [hs10, s10_4, show fn_Steps_run 27 32 (0 : Int32) (Int32.ofNat N) (0 : Int32) s10 = some s13 from r1, e_bd, r3.2.2.2.2.2.2, hs_ne (by omega), r3.2.2.2.2.2.1]
        · rw [hp_s_n (by omega), r7.1 i (by simp; omega), s10i i (by omega), f8 i (by omega) (by omega), k4f i (by omega) (by unfold wkP; omega)]
        · rw [em]
          unfold wkM
          rw [j4.2.1.1.2.2.1, if_pos ((k_0 j4.2.1.2.2.1).mpr ck), e_let, hs_ne (show (52 : Nat) ≠ 52 ∨ (31 : Nat) ≠ 3 from Or.inr (by decide)), show t4' 52 31 = Int32.ofNat W from by rw [mj 31 (by decide) (by decide)]; exact eM, sm_28, sm_25, zi_rld (show W < sh_ln 575 by rw [wn_575]; exact hWlt) (by omega), e_bd, wf_575, b1, e_bd, e7_31, zi_succ]
          simp only [e_let]
          rw [ht8, show t8 52 24 = Int32.ofNat N from by rw [t8j 24 (by decide) (by decide) (by decide) (by decide), t752 24 (by decide)]; exact ctn.2, show fn_M_goes 52 (0 : Int32) (Int32.ofNat N) t8 = some t13 from r2, e_bd, r4.2.2.2.2.2.1]
        · rw [r8.2 0 (by decide) (by decide) (by decide), t8j 0 (by decide) (by decide) (by decide) (by decide), t752 0 (by decide)]; exact m0
        · have lo : ∀ i, i < 52 → t13 i = σ i := fun i hi => by rw [r8.1 i (by simp; omega), t8i i (by omega), t7i i (by omega) (by omega) (by unfold wmP; omega)]
          have s13i : ∀ i, i ∉ [24, 25, 27, 33, 34] → i ≠ 38 → i ≠ 39 → i ≠ 1 → ¬ wkP i → s13 i = s0 i := fun i h1 h2 h3 h4 h5 => by
            have h27 : i ≠ 27 := by intro e; exact h5 (by unfold wkP; omega)
            rw [r7.1 i h1, s10i i h27, f8 i h2 h3, k4f i h4 h5]
          have s13_38 : s13 38 = s8 38 := by rw [r7.1 38 (by simp), s10i 38 (by decide)]
          have s13_39 : s13 39 = f := by rw [r7.1 39 (by simp), s10i 39 (by decide), ← hs8, hp_s_n (by decide), hp_f_i]
          have hlen : (aW A ++ [aR A]).length = W + 1 := by rw [List.length_append, hW]; rfl
          have cx' : CX σ (aH A, ρ', aL A, aB A, aW A ++ [aR A], aI A) := by
            rw [hs]
            refine cx.up (fun i hi => ?_) (r3.2.2.1.fr (hp_s_n (by decide))) ⟨?_, fun q hq k hk => ?_⟩ ?_
            · revert hi
              simp only [List.mem_cons, List.not_mem_nil, or_false]
              intro hi
              rw [hp_s_n (by omega)]
              exact s13i i (by simp; omega) (by omega) (by omega) (by omega) (by unfold wkP; omega)
            · rw [hp_s_n (by decide), s13_38, ← hs8, hs_at, hlen]
            · have hk47 := vk_lt ok.1 hk
              have hq2 : q < W + 1 := by rw [← hlen]; exact hq
              rw [hp_s_n (by decide), s13_39, ← hf]
              by_cases e : q < W
              · rw [List.getElem_append_left (by omega), cpy_no (by omega), k4f 39 (by decide) (by unfold wkP; omega)]
                exact px.2 q (by omega) k hk
              · have e2 : q = W := by omega
                subst e2
                rw [cpy_at ⟨by omega, by omega⟩, show 0 + (47 * q + k - q * 47) = k by omega, k4f 33 (by decide) (by unfold wkP; omega), cx.2.1.2 k hk]
                have : (aW A ++ [aR A])[q]'hq = aR A := by rw [List.getElem_append_right (by omega)]; simp only [hW, Nat.sub_self, List.getElem_singleton]
                rw [this]
            · show IX _ (aH A) (aI A)
              have ix := cx.2.2.2.2.2
              have i40 : s13 40 = s0 40 := s13i 40 (by simp) (by decide) (by decide) (by decide) (by unfold wkP; omega)
              have i41 : s13 41 = s0 41 := s13i 41 (by simp) (by decide) (by decide) (by decide) (by unfold wkP; omega)
              have i38 : s13 38 1 = s0 38 1 := by rw [s13_38, s8_38 1 (by decide), k4f 38 (by decide) (by unfold wkP; omega)]
              unfold IX
              rw [hp_s_n (show 38 ≠ 0 by decide), hp_s_n (show 40 ≠ 0 by decide), hp_s_n (show 41 ≠ 0 by decide), i38, i40, i41]
              exact ix
          have t13i : ∀ i, i ∉ [52, 489, 490, 572] → i ≠ 576 + W → ¬ wmP i → 52 ≤ i → t13 i = s0 i := fun i h1 h2 h3 h4 => by
            have h52 : i ≠ 52 := by intro e; exact h1 (by rw [e]; simp)
            rw [r8.1 i h1, t8i i h52, t7i i h52 h2 h3, hσ i h4]
          have t13j : ∀ j, 8 < j → j ≠ 24 → j ≠ 31 → j ≠ 32 → j ≠ 35 → j ≠ 36 → t13 52 j = s0 52 j := fun j h1 h2 h3 h4 h5 h6 => by rw [r8.2 j h4 h5 h6, t8j j h3 h5 h6 h4, t752 j (by omega), mj j h1 h2]
          have cm' : CM t13 (aH A, ρ', aL A, aB A, aW A ++ [aR A], aI A) := by
            refine cm.up ok (fun i hi => t13i i (by simp; omega) (by omega) (by unfold wmP; omega) (by omega)) (fun k hk => ?_) r4.2.2.1 ⟨?_, fun q hq k hk => ?_⟩ ⟨?_, fun q hq => ?_⟩
            · revert hk
              simp only [List.mem_cons, List.not_mem_nil, or_false]
              intro hk
              exact t13j k (by omega) (by omega) (by omega) (by omega) (by omega) (by omega)
            · rw [r8.2 31 (by decide) (by decide) (by decide), ← ht8, hs_ne (by omega), hs_ne (by omega), hs_ne (by omega), hs_at, hlen]
            · have hk47 := vk_lt ok.1 hk
              have hq2 : q < W + 1 := by rw [← hlen]; exact hq
              by_cases e : q < W
              · rw [List.getElem_append_left (by omega), t13i (576 + q) (by simp; omega) (by omega) (by unfold wmP; omega) (by omega)]
                exact pm.2 q (by omega) k hk
              · have e2 : q = W := by omega
                subst e2
                rw [r8.1 (576 + q) (by simp; omega), t8i (576 + q) (by omega), b3 (mp k) (mp_lt hk47), hp_s_n (by omega), mi 572 (by decide) (by unfold wmP; omega), hσ 572 (by decide), cm.2.1.2 k hk]
                have : (aW A ++ [aR A])[q]'hq = aR A := by rw [List.getElem_append_right (by omega)]; simp only [hW, Nat.sub_self, List.getElem_singleton]
                rw [this]
            · rw [t13j 33 (by decide) (by decide) (by decide) (by decide) (by decide) (by decide)]; exact cm.2.2.2.2.2.1
            · have hq2 : q < (aI A).length := hq
              have h3 := ok.2.2.2.2.2.1
              rw [t13i (593 + q) (by simp; omega) (by omega) (by unfold wmP; omega) (by omega)]
              exact cm.2.2.2.2.2.2 q hq
          refine rel_mk (s1 := σ) (A := (aH A, ρ', aL A, aB A, aW A ++ [aR A], aI A)) ⟨ok.1, r5, ok.2.2.1, ok.2.2.2.1, ⟨by show (aW A ++ [aR A]).length ≤ 16; rw [hlen]; omega, fun w hw => ?_⟩, ok.2.2.2.2.2⟩ cx' cm' lo (tp_end ?_ ?_ ?_ (t4.2.fr (by rw [lo 42 (by decide), hs, hp_s_n (by decide)]; exact s13i 42 (by simp) (by decide) (by decide) (by decide) (by unfold wkP; omega)) (by rw [lo 43 (by decide), hs, hp_s_n (by decide)]; exact s13i 43 (by simp) (by decide) (by decide) (by decide) (by unfold wkP; omega)))) ?_
          · rcases List.mem_append.mp hw with hw | hw
            · exact ok.2.2.2.2.1.2 w hw
            · have : w = aR A := by simpa using hw
              rw [this]; exact ok.2.1
          · rw [lo 1 (by decide), hs, hp_s_n (by decide), r7.1 1 (by simp), s10i 1 (by decide), f8 1 (by decide) (by decide)]; exact s11
          · rw [r8.2 1 (by decide) (by decide) (by decide), t8j 1 (by decide) (by decide) (by decide) (by decide), t752 1 (by decide)]; exact m1
          · rw [r8.2 3 (by decide) (by decide) (by decide), t8j 3 (by decide) (by decide) (by decide) (by decide), b2 52 (by simp; omega), hs_at, lo 1 (by decide), hs, hp_s_n (by decide), r7.1 1 (by simp), s10i 1 (by decide), f8 1 (by decide) (by decide), j4.1.1.2.2.2, j4.2.2.2 ck]
          · unfold CT
            rw [r4.2.2.2.2.2.2, lo 0 (by decide), hs, hs_at, hs_ne (by omega), hs_ne (by omega), r7.1 0 (by simp), s10i 0 (by decide), f8 0 (by decide) (by decide), k4f 0 (by decide) (by unfold wkP; omega), t13i 54 (by simp) (by omega) (by unfold wmP; omega) (by decide)]
            exact ⟨rfl, ct.2⟩
      · refine ⟨Int32.ofNat k4 - 10, s4, hp_s t4' 52 3 pl4, ?_, fun i hi => k4f i (by omega) (by unfold wkP; omega), ?_, ?_, fun hs => ?_⟩
        · unfold fn_X_work
          rw [show fn_X_openText 0 (Int32.ofNat m) (150 : Int32) s0 = _ from c2, e_bxr, xf_8, hful, decide_eq_false cf, e_bd, if_pos (show bI false = 0 from rfl), xf_5, xf_0, xf_1, ex, e_bd, c_failed j4.1, decide_eq_true (show k4 ≠ 0 from ck), e_bd, if_neg (show ¬ bI true = 0 from by decide)]
          unfold fn_Tape_faultAnswer
          rw [j4.1.1.2.2.1, e_bd]
        · rw [em]
          unfold wkM fn_M_ends
          rw [if_neg (j4.2.1.z ck), j4.2.1.1.2.2.2, e_let, hs_ne (by omega), j4.2.1.1.2.2.1, e_b2]
        · rw [hs_ne (by omega)]; exact m0
        · refine rel_fault ok (cx.fr kf4) cm ct (k4f 0 (by decide) (by unfold wkP; omega)) (fun i hi => ?_) (fun i hi => ?_) (fun j hj => ?_) ?_ s11 ?_ ?_ ?_
          · rw [hp_s_n (by omega), mi i (by omega) (by unfold wmP; omega), hs]
          · have : 52 < i := by unfold KM at hi; omega
            rw [hp_s_n (by omega), mi i (by omega) (by unfold KM at hi; unfold wmP; omega), hσ i (by omega)]
          · revert hj
            simp only [List.mem_cons, List.not_mem_nil, or_false]
            intro hj
            rw [hs_ne (by omega)]
            exact mj j (by omega) (by omega)
          · rw [hp_s_n (by decide), mi 54 (by decide) (by unfold wmP; omega), hσ 54 (by decide)]
          · rw [hs_ne (by omega)]; exact m1
          · rw [hs_at, j4.1.1.2.2.2]
          · exact t4.2.fr (k4f 42 (by decide) (by unfold wkP; omega)) (k4f 43 (by decide) (by unfold wkP; omega))

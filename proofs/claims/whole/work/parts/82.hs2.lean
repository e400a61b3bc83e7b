/-! HOUSE: a clause -/
def DX (σ : hp_I) (H : ab_H) : Prop := (σ 12 0 = Int32.ofNat (hR H) ∧ σ 12 1 = Int32.ofNat (hW H) ∧ σ 12 2 = Int32.ofNat (hS H) ∧ σ 12 3 = Int32.ofNat (hC H)) ∧ (∀ r, r < hR H → σ 13 r = hV H 0 r) ∧ (∀ w, w < hW H → σ 14 w = hV H 1 w ∧ σ 15 w = hV H 2 w) ∧ (∀ s, s < hS H → σ 16 s = hV H 3 s ∧ σ 17 s = hV H 4 s ∧ σ 18 s = hV H 5 s) ∧ ∀ c, c < hC H → σ 19 c = hV H 6 c ∧ σ 20 c = hV H 7 c
def DM (σ : hp_I) (H : ab_H) : Prop := (σ 55 0 = Int32.ofNat (hR H) ∧ σ 55 1 = Int32.ofNat (hW H) ∧ σ 55 2 = Int32.ofNat (hS H) ∧ σ 55 3 = Int32.ofNat (hC H)) ∧ (∀ r, r < hR H → σ (58 + (0 + r)) 0 = hV H 0 r) ∧ (∀ w, w < hW H → σ (58 + (12 + w)) 0 = hV H 1 w ∧ σ (58 + (12 + w)) 1 = hV H 2 w) ∧ (∀ s, s < hS H → σ (58 + (24 + s)) 0 = hV H 3 s ∧ σ (58 + (24 + s)) 1 = hV H 4 s ∧ σ (58 + (24 + s)) 2 = hV H 5 s) ∧ ∀ c, c < hC H → σ (58 + (36 + c)) 0 = hV H 6 c ∧ σ (58 + (36 + c)) 1 = hV H 7 c
def tot (H : ab_H) : Nat := hR H + hW H + hS H + hC H
def hsP (i : Nat) : Prop := 12 ≤ i ∧ i ≤ 20
def hmP (i : Nat) : Prop := i = 55 ∨ (58 ≤ i ∧ i < 106)
def hmJ (j : Nat) : Prop := j = 7
def CL (X : tx) (s t : hp_I) (p : Nat) (H : ab_H) (s' t' : hp_I) : Prop := ∃ p' q' k' pl', JT X s' t' p' q' k' pl' ∧ XG hsP s s' ∧ MG hmP hmJ t t' ∧ (k' = 0 → p < p' ∧ ∃ H', HOK H' ∧ DX s' H' ∧ DM t' H' ∧ t' 52 7 = Int32.ofNat (tot H') ∧ tot H' = tot H + 1)
def upV (f : Nat → Nat → Int32) (a i : Nat) (v : Int32) : Nat → Nat → Int32 := fun a' i' => if a' = a ∧ i' = i then v else f a' i'
theorem upV_i {f : Nat → Nat → Int32} {a i : Nat} {v : Int32} : upV f a i v a i = v := if_pos ⟨rfl, rfl⟩
theorem upV_n {f : Nat → Nat → Int32} {a i a' i' : Nat} {v : Int32} (h : a' ≠ a ∨ i' ≠ i) : upV f a i v a' i' = f a' i' := if_neg (by omega)
theorem hf_4 : sh_rf 12 4 = 13 := by decide +kernel
theorem hf_5 : sh_rf 12 5 = 14 := by decide +kernel
theorem hf_6 : sh_rf 12 6 = 15 := by decide +kernel
theorem hf_7 : sh_rf 12 7 = 16 := by decide +kernel
theorem hf_8 : sh_rf 12 8 = 17 := by decide +kernel
theorem hf_9 : sh_rf 12 9 = 18 := by decide +kernel
theorem hf_10 : sh_rf 12 10 = 19 := by decide +kernel
theorem hf_11 : sh_rf 12 11 = 20 := by decide +kernel
theorem hn_13 : sh_ln 13 = 8 := by decide +kernel
theorem hn_14 : sh_ln 14 = 12 := by decide +kernel
theorem hn_15 : sh_ln 15 = 12 := by decide +kernel
theorem hn_16 : sh_ln 16 = 8 := by decide +kernel
theorem hn_17 : sh_ln 17 = 8 := by decide +kernel
theorem hn_18 : sh_ln 18 = 8 := by decide +kernel
theorem hn_19 : sh_ln 19 = 5 := by decide +kernel
theorem hn_20 : sh_ln 20 = 5 := by decide +kernel
theorem hn_55 : sh_ln 55 = 4 := by decide +kernel
theorem hn_57 : sh_ln 57 = 48 := by decide +kernel
theorem hn_58 : ∀ a, a < 48 → sh_ln (58 + a) = 3 := by decide +kernel
theorem hf_57 (a : Nat) : sh_rf 57 a = 58 + a := by unfold sh_rf; rw [if_pos (by decide +kernel)]
theorem rd_55 {t : hp_I} {k : Nat} (hk : k < 4) : px_ald t 55 (Int32.ofNat k) = some (t 55 k) := zi_ald (by rw [hn_55]; exact hk) (by omega)
theorem wr_55 {t : hp_I} {k : Nat} {v : Int32} (hk : k < 4) : px_ast t 55 (Int32.ofNat k) v = some (hp_s t 55 k v) := zi_ast (by rw [hn_55]; exact hk) (by omega)
theorem wr_58 {t : hp_I} {a j : Nat} {v : Int32} (ha : a < 48) (hj : j < 3) : px_ast t (58 + a) (Int32.ofNat j) v = some (hp_s t (58 + a) j v) := zi_ast (by rw [hn_58 a ha]; exact hj) (by omega)
theorem rd_58 {t : hp_I} {a j : Nat} (ha : a < 48) (hj : j < 3) : px_ald t (58 + a) (Int32.ofNat j) = some (t (58 + a) j) := zi_ald (by rw [hn_58 a ha]; exact hj) (by omega)
theorem JT.w {X : tx} {s t : hp_I} {p q k : Nat} {pl : Int32} {i j a b : Nat} {v x : Int32} (h : JT X s t p q k pl) (h1 : i ≠ 1) (h2 : i ≠ 2) (h3 : a ≠ 52) (h4 : a ≠ 53) : JT X (hp_s s i j v) (hp_s t a b x) p q k pl := ⟨h.1.put h1 h2, h.2.1.put h3 h4, h.2.2⟩
theorem JT.wx {X : tx} {s t : hp_I} {p q k : Nat} {pl : Int32} {i j : Nat} {v : Int32} (h : JT X s t p q k pl) (h1 : i ≠ 1) (h2 : i ≠ 2) : JT X (hp_s s i j v) t p q k pl := ⟨h.1.put h1 h2, h.2⟩
theorem JT.wm {X : tx} {s t : hp_I} {p q k : Nat} {pl : Int32} {a b : Nat} {x : Int32} (h : JT X s t p q k pl) (h3 : a ≠ 52) (h4 : a ≠ 53) : JT X s (hp_s t a b x) p q k pl := ⟨h.1, h.2.1.put h3 h4, h.2.2⟩
theorem JT.ws {X : tx} {s t : hp_I} {p q k : Nat} {pl : Int32} {j : Nat} {x : Int32} (h : JT X s t p q k pl) (h2 : j ≠ 2) (h4 : j ≠ 4) (h5 : j ≠ 5) (h6 : j ≠ 6) : JT X s (hp_s t 52 j x) p q k pl := ⟨h.1, h.2.1.slot h2 h4 h5 h6, h.2.2⟩
section HC
variable {X : tx} {s t t2 : hp_I} {p : Nat} {H : ab_H}
theorem b_room (te : TE X) (x2 : XT X s (sk X (p + [114, 111, 111, 109].length)) 0 (-1)) (m2 : MT X t2 p 0 (-1)) (g : wdB X p 0 [114, 111, 111, 109] = true) (ok : HOK H) (dx : DX s H) (dm : DM t2 H) (h7 : t2 52 7 = Int32.ofNat (tot H)) (hk : fn_M_kindHere 52 t = some (0, t2)) : ∃ s3 s' t', fn_House_readRoom 12 1 (Int32.ofNat p) s = some s3 ∧ fn_Tape_expect 1 (59 : Int32) s3 = some s' ∧ fn_M_clause 52 t = some t' ∧ CL X s t2 p H s' t' := by
  obtain ⟨o1, o2, o3, o4, o5, o6, o7, o8⟩ := ok
  have htot : tot H ≤ 33 := by unfold tot; omega
  obtain ⟨⟨dxR, dxW, dxS, dxC⟩, dx1, dx2, dx3, dx4⟩ := dx
  obtain ⟨⟨dmR, dmW, dmS, dmC⟩, dm1, dm2, dm3, dm4⟩ := dm
  have hnn : hR H = hR H := rfl
  generalize hn : hR H = n at hnn
  rw [hn] at dxR dmR o1
  have ert : t2 55 0 = Int32.ofNat n := dmR
  have emo : fn_M_mostOf (0 : Int32) = some 8 := by decide +kernel
  unfold fn_House_readRoom fn_M_clause
  rw [hk, e_b2, e_let, e_jn, if_neg (show ¬ (0 : Int32) = -1 from by decide), e_jn, h7, if_neg (show ¬ Int32.ofNat (tot H) = 60 from zl_ne (b := 60) (by omega) (by omega) (by decide)), sm_11, show px_ald t2 55 (0 : Int32) = some (t2 55 0) from rd_55 (by decide), ert, e_bd, emo, e_bd, dxR]
  by_cases cM : n = 8
  · obtain ⟨s3, a1, a2, a3⟩ := c_fail0 x2 (kd := 3) (by decide) (Int32.ofNat p)
    obtain ⟨t3, b1, b2, b3⟩ := m_wrong0 m2 (kd := 3) (by decide) (Int32.ofNat p)
    obtain ⟨s4, d1, d2, d3⟩ := c_noexp te a2 (by decide) (c := 59) (by decide)
    refine ⟨s3, s4, t3, ?_, d1, ?_, _, _, 3, _, ⟨d2, b2, fun e => (by cases e), fun e => (by cases e)⟩, (a3.trans d3).g, b3.g, fun e => (by cases e)⟩
    · rw [if_pos (show (8 : Int32) ≤ Int32.ofNat n from zl_le (a := 8) (by omega) (by omega)), show fn_Tape_fail 1 (3 : Int32) (Int32.ofNat p) s = some s3 from a1, e_bd]
    · rw [if_pos (by rw [cM]; rfl), m2.1.2.1, show fn_M_wrong 52 (3 : Int32) (Int32.ofNat p) t2 = some t3 from b1, e_bd]
      try dsimp only
      rw [b2.1.2.2.1, if_neg (show ¬ Int32.ofNat 3 = 0 from by decide)]
  · rw [if_neg (show ¬ (8 : Int32) ≤ Int32.ofNat n from zl_nle (a := 8) (by omega) (by decide)), if_neg (show ¬ Int32.ofNat n = 8 from zl_ne (b := 8) cM (by omega) (by decide))]
    try dsimp only
    rw [m2.1.2.2.1, if_pos (show Int32.ofNat 0 = 0 from rfl)]
    obtain ⟨t3, y1, y2, y3, y4⟩ := b_skip te x2 m2 w_room g
    have e7 : t3 52 7 + 1 = Int32.ofNat (tot H + 1) := by rw [y3.2 7 (by decide) (by decide) (by decide), h7, zi_succ]
    have b4 := y2.ws (j := 7) (x := Int32.ofNat (tot H + 1)) (by decide) (by decide) (by decide) (by decide)
    obtain ⟨a0, c0, v0, p0, q0, k0, pl0, n0, m0, h0, fx0, fm0, l0, hv0, hk0, -⟩ := b_num te b4 (0 : Int32) (60 : Int32)
    have w0 := h0.w (i := 13) (j := n) (a := 58 + (0 + n)) (b := 0) (v := Int32.ofNat v0) (x := if k0 = 0 then Int32.ofNat v0 else 0) (by decide) (by decide) (by omega) (by omega)
    have ecn : (hp_s a0 13 n (Int32.ofNat v0)) 12 0 + 1 = Int32.ofNat (n + 1) := by rw [hs_ne (by omega), fx0.1 12 (by omega), dxR, zi_succ]
    have wc := w0.wx (i := 12) (j := 0) (v := Int32.ofNat (n + 1)) (by decide) (by decide)
    obtain ⟨s8, t8, p8, q8, k8, pl8, g1, g2, h8, fx8, fm8, hk8, -⟩ := b_sign te wc (c := 59) (by decide)
    have e8t : t8 55 0 = Int32.ofNat n := by rw [fm8.1 55 (by omega), hs_ne (by omega), fm0.1 55 (by omega), hs_ne (by omega), y3.1 55 (by omega)]; exact ert
    have ft : ∀ i j, i ≠ 52 → i ≠ (58 + (0 + n)) → t8 i j = t2 i j := fun i j u1 u2 => by rw [fm8.1 i (by omega), hs_ne (by omega), fm0.1 i (by omega), hs_ne (by omega), y3.1 i (by omega)]
    have fs : ∀ i j, i ≠ 1 → ¬ (i = 12 ∧ j = 0) → ¬ (i = 13 ∧ j = n) → s8 i j = s i j := fun i j u1 u2 u3 => by rw [fx8.1 i (by omega), hs_ne (by omega), hs_ne (by omega), fx0.1 i (by omega)]
    refine ⟨(hp_s (hp_s a0 13 n (Int32.ofNat v0)) 12 0 (Int32.ofNat (n + 1))), s8, hp_s t8 55 0 (Int32.ofNat n + (if k8 = 0 then 1 else 0)), ?_, g1, ?_, p8, q8, k8, pl8, h8.wm (by decide) (by decide), ?_, ?_, fun ck => ?_⟩
    · rw [n0, e_b2, hf_4, zi_ast (show n < sh_ln 13 by rw [hn_13]; omega) (by omega), e_bd, e_let, ecn]
    · rw [y1, e_bd, e_let, e7, show px_ald (hp_s t3 52 7 (Int32.ofNat (tot H + 1))) 55 (0 : Int32) = some (Int32.ofNat n) from by rw [show px_ald (hp_s t3 52 7 (Int32.ofNat (tot H + 1))) 55 (0 : Int32) = some _ from rd_55 (k := 0) (by decide), hs_ne (by omega), y3.1 55 (by decide), ert], e_bd, show fn_M_placeOf (0 : Int32) (Int32.ofNat n) = some (Int32.ofNat (0 + n)) from by unfold fn_M_placeOf; rw [show (12 : Int32) * 0 = Int32.ofNat 0 from by decide, zi_add], e_bd, sm_13, zi_rld (show 0 + n < sh_ln 57 by rw [hn_57]; omega) (by omega), e_bd, hf_57, e_jn, if_pos (show (0 : Int32) = 0 from rfl)]
      try dsimp only
      rw [m0, e_b2, show ∀ (f : hp_I) (x : Int32), px_ast f (58 + (0 + n)) (0 : Int32) x = some (hp_s f (58 + (0 + n)) 0 x) from fun f x => wr_58 (j := 0) (by omega) (by decide), e_bd, e_jn, if_neg (show ¬ (0 : Int32) = 1 from by decide)]
      try dsimp only
      rw [e_jn, if_neg (show ¬ (0 : Int32) = 2 from by decide)]
      try dsimp only
      rw [e_jn, if_neg (show ¬ (0 : Int32) = 3 from by decide)]
      try dsimp only
      rw [show fn_M_sign 52 (59 : Int32) _ = some t8 from g2, e_bd, show px_ald t8 55 (0 : Int32) = some (t8 55 0) from rd_55 (k := 0) (by decide), e8t, e_bd, e_jn, h8.2.1.1.2.2.1]
      by_cases ck : k8 = 0
      · rw [if_pos ((k_0 h8.2.1.2.2.1).mpr ck), if_pos ck]
        try dsimp only
        rw [show px_ast t8 55 (0 : Int32) (Int32.ofNat n + 1) = _ from wr_55 (k := 0) (by decide), e_bd]
      · rw [if_neg (fun e => ck ((k_0 h8.2.1.2.2.1).mp e)), if_neg ck]
        try dsimp only
        rw [show px_ast t8 55 (0 : Int32) (Int32.ofNat n + 0) = _ from wr_55 (k := 0) (by decide), e_bd]
    · refine ⟨fun i u1 u2 => funext fun j => fs i j u1 (by unfold hsP at u2; omega) (by unfold hsP at u2; omega), ?_⟩
      rw [fx8.2, hs_ne (by omega), hs_ne (by omega), fx0.2]
    · refine ⟨fun i u1 u2 => funext fun j => ?_, fun j u1 u2 u3 u4 => ?_⟩
      · unfold hmP at u2
        rw [hs_ne (by omega)]
        exact ft i j u1 (by omega)
      · unfold hmJ at u4
        rw [hs_ne (by omega), fm8.2 j u1 u2 u3, hs_ne (by omega), fm0.2 j u1 u2 u3, hs_ne (by omega), y3.2 j u1 u2 u3]
    · have ck0 := (hk8 ck).1
      refine ⟨by have := y4; have := (hk0 ck0).2.2; have := (hk8 ck).2; omega, ?_⟩
      refine ⟨(n + 1, hW H, hS H, hC H, (upV (hV H) 0 n (Int32.ofNat v0))), ?_, ?_, ?_, ?_, ?_⟩
      · have r0 := in_nat (a := 0) (b := 60) hv0 (by decide) (by decide) (hk0 ck0).2.1
        refine ⟨by show n + 1 ≤ 8; omega, by show hW H ≤ 12; omega, by show hS H ≤ 8; omega, by show hC H ≤ 5; omega, fun r hr => ?_, fun w hw => ?_, fun s hs => ?_, fun c hc => ?_⟩
        · show zB ((upV (hV H) 0 n (Int32.ofNat v0)) 0 r) 61
          by_cases ex : r = n
          · subst ex
            rw [upV_i]
            exact ⟨v0, by omega, rfl⟩
          · rw [upV_n (a' := 0) (i' := r) (by omega)]
            exact o5 r (by rw [hn]; have : r < n + 1 := hr; omega)
        · show zB ((upV (hV H) 0 n (Int32.ofNat v0)) 1 w) (n + 1) ∧ zB ((upV (hV H) 0 n (Int32.ofNat v0)) 2 w) (n + 1) ∧ (upV (hV H) 0 n (Int32.ofNat v0)) 1 w ≠ (upV (hV H) 0 n (Int32.ofNat v0)) 2 w
          rw [upV_n (a' := 1) (Or.inl (by decide)), upV_n (a' := 2) (Or.inl (by decide))]
          have hh := o6 w hw
          rw [hn] at hh; exact ⟨zB_mono hh.1 (by omega), zB_mono hh.2.1 (by omega), hh.2.2⟩
        · show zB ((upV (hV H) 0 n (Int32.ofNat v0)) 3 s) (n + 1) ∧ zB ((upV (hV H) 0 n (Int32.ofNat v0)) 4 s) 61 ∧ (upV (hV H) 0 n (Int32.ofNat v0)) 4 s ≠ 0 ∧ zB ((upV (hV H) 0 n (Int32.ofNat v0)) 5 s) 10
          rw [upV_n (a' := 3) (Or.inl (by decide)), upV_n (a' := 4) (Or.inl (by decide)), upV_n (a' := 5) (Or.inl (by decide))]
          have hh := o7 s hs
          rw [hn] at hh; exact ⟨zB_mono hh.1 (by omega), hh.2⟩
        · show zB ((upV (hV H) 0 n (Int32.ofNat v0)) 6 c) (n + 1) ∧ zB ((upV (hV H) 0 n (Int32.ofNat v0)) 7 c) 21
          rw [upV_n (a' := 6) (Or.inl (by decide)), upV_n (a' := 7) (Or.inl (by decide))]
          have hh := o8 c hc
          rw [hn] at hh; exact ⟨zB_mono hh.1 (by omega), hh.2⟩
      · refine ⟨⟨?_, by rw [fs 12 1 (by omega) (by omega) (by omega)]; exact dxW, by rw [fs 12 2 (by omega) (by omega) (by omega)]; exact dxS, by rw [fs 12 3 (by omega) (by omega) (by omega)]; exact dxC⟩, fun r hr => ?_, fun w hw => ?_, fun s hs => ?_, fun c hc => ?_⟩
        · show s8 12 0 = Int32.ofNat (n + 1)
          rw [fx8.1 12 (by decide), hs_at]
        · show s8 13 r = (upV (hV H) 0 n (Int32.ofNat v0)) 0 r
          by_cases ex : r = n
          · subst ex
            have z0 : s8 13 r = Int32.ofNat v0 := by rw [fx8.1 13 (by decide), hs_ne (by omega), hs_at]
            rw [upV_i]
            exact z0
          · rw [upV_n (a' := 0) (i' := r) (by omega), fs 13 r (by omega) (by omega) (by omega)]
            exact dx1 r (by rw [hn]; have : r < n + 1 := hr; omega)
        · show s8 14 w = (upV (hV H) 0 n (Int32.ofNat v0)) 1 w ∧ s8 15 w = (upV (hV H) 0 n (Int32.ofNat v0)) 2 w
          rw [upV_n (a' := 1) (Or.inl (by decide)), fs 14 w (by omega) (by omega) (by omega), upV_n (a' := 2) (Or.inl (by decide)), fs 15 w (by omega) (by omega) (by omega)]
          exact dx2 w hw
        · show s8 16 s = (upV (hV H) 0 n (Int32.ofNat v0)) 3 s ∧ s8 17 s = (upV (hV H) 0 n (Int32.ofNat v0)) 4 s ∧ s8 18 s = (upV (hV H) 0 n (Int32.ofNat v0)) 5 s
          rw [upV_n (a' := 3) (Or.inl (by decide)), fs 16 s (by omega) (by omega) (by omega), upV_n (a' := 4) (Or.inl (by decide)), fs 17 s (by omega) (by omega) (by omega), upV_n (a' := 5) (Or.inl (by decide)), fs 18 s (by omega) (by omega) (by omega)]
          exact dx3 s hs
        · show s8 19 c = (upV (hV H) 0 n (Int32.ofNat v0)) 6 c ∧ s8 20 c = (upV (hV H) 0 n (Int32.ofNat v0)) 7 c
          rw [upV_n (a' := 6) (Or.inl (by decide)), fs 19 c (by omega) (by omega) (by omega), upV_n (a' := 7) (Or.inl (by decide)), fs 20 c (by omega) (by omega) (by omega)]
          exact dx4 c hc
      · refine ⟨⟨?_, by rw [hs_ne (by omega), ft 55 1 (by omega) (by omega)]; exact dmW, by rw [hs_ne (by omega), ft 55 2 (by omega) (by omega)]; exact dmS, by rw [hs_ne (by omega), ft 55 3 (by omega) (by omega)]; exact dmC⟩, fun r hr => ?_, fun w hw => ?_, fun s hs => ?_, fun c hc => ?_⟩
        · show hp_s t8 55 0 (Int32.ofNat n + (if k8 = 0 then 1 else 0)) 55 0 = Int32.ofNat (n + 1)
          rw [hs_at, if_pos ck, zi_succ]
        · show hp_s t8 55 0 (Int32.ofNat n + (if k8 = 0 then 1 else 0)) (58 + (0 + r)) 0 = (upV (hV H) 0 n (Int32.ofNat v0)) 0 r
          have hx : r < n + 1 := hr
          by_cases ex : r = n
          · subst ex
            have z0 : hp_s t8 55 0 (Int32.ofNat r + (if k8 = 0 then 1 else 0)) (58 + (0 + r)) 0 = Int32.ofNat v0 := by rw [hs_ne (by omega), fm8.1 _ (by omega), hs_at, if_pos ck0]
            rw [upV_i]
            exact z0
          · rw [upV_n (a' := 0) (i' := r) (by omega), hs_ne (a := 58 + (0 + r)) (b := 0) (by omega), ft (58 + (0 + r)) 0 (by omega) (by omega)]
            exact dm1 r (by rw [hn]; omega)
        · show hp_s t8 55 0 (Int32.ofNat n + (if k8 = 0 then 1 else 0)) (58 + (12 + w)) 0 = (upV (hV H) 0 n (Int32.ofNat v0)) 1 w ∧ hp_s t8 55 0 (Int32.ofNat n + (if k8 = 0 then 1 else 0)) (58 + (12 + w)) 1 = (upV (hV H) 0 n (Int32.ofNat v0)) 2 w
          have hx : w < hW H := hw
          rw [upV_n (a' := 1) (Or.inl (by decide)), hs_ne (a := 58 + (12 + w)) (b := 0) (by omega), ft (58 + (12 + w)) 0 (by omega) (by omega), upV_n (a' := 2) (Or.inl (by decide)), hs_ne (a := 58 + (12 + w)) (b := 1) (by omega), ft (58 + (12 + w)) 1 (by omega) (by omega)]
          exact dm2 w hw
        · show hp_s t8 55 0 (Int32.ofNat n + (if k8 = 0 then 1 else 0)) (58 + (24 + s)) 0 = (upV (hV H) 0 n (Int32.ofNat v0)) 3 s ∧ hp_s t8 55 0 (Int32.ofNat n + (if k8 = 0 then 1 else 0)) (58 + (24 + s)) 1 = (upV (hV H) 0 n (Int32.ofNat v0)) 4 s ∧ hp_s t8 55 0 (Int32.ofNat n + (if k8 = 0 then 1 else 0)) (58 + (24 + s)) 2 = (upV (hV H) 0 n (Int32.ofNat v0)) 5 s
          have hx : s < hS H := hs
          rw [upV_n (a' := 3) (Or.inl (by decide)), hs_ne (a := 58 + (24 + s)) (b := 0) (by omega), ft (58 + (24 + s)) 0 (by omega) (by omega), upV_n (a' := 4) (Or.inl (by decide)), hs_ne (a := 58 + (24 + s)) (b := 1) (by omega), ft (58 + (24 + s)) 1 (by omega) (by omega), upV_n (a' := 5) (Or.inl (by decide)), hs_ne (a := 58 + (24 + s)) (b := 2) (by omega), ft (58 + (24 + s)) 2 (by omega) (by omega)]
          exact dm3 s hs
        · show hp_s t8 55 0 (Int32.ofNat n + (if k8 = 0 then 1 else 0)) (58 + (36 + c)) 0 = (upV (hV H) 0 n (Int32.ofNat v0)) 6 c ∧ hp_s t8 55 0 (Int32.ofNat n + (if k8 = 0 then 1 else 0)) (58 + (36 + c)) 1 = (upV (hV H) 0 n (Int32.ofNat v0)) 7 c
          have hx : c < hC H := hc
          rw [upV_n (a' := 6) (Or.inl (by decide)), hs_ne (a := 58 + (36 + c)) (b := 0) (by omega), ft (58 + (36 + c)) 0 (by omega) (by omega), upV_n (a' := 7) (Or.inl (by decide)), hs_ne (a := 58 + (36 + c)) (b := 1) (by omega), ft (58 + (36 + c)) 1 (by omega) (by omega)]
          exact dm4 c hc
      · rw [hs_ne (by omega), fm8.2 7 (by decide) (by decide) (by decide), hs_ne (by omega), fm0.2 7 (by decide) (by decide) (by decide), hs_at]
        congr 1
        show tot H + 1 = (n + 1) + hW H + hS H + hC H
        unfold tot; omega
      · show (n + 1) + hW H + hS H + hC H = tot H + 1
        unfold tot; omega
theorem b_way (te : TE X) (x2 : XT X s (sk X (p + [119, 97, 121].length)) 0 (-1)) (m2 : MT X t2 p 0 (-1)) (g : wdB X p 0 [119, 97, 121] = true) (ok : HOK H) (dx : DX s H) (dm : DM t2 H) (h7 : t2 52 7 = Int32.ofNat (tot H)) (hk : fn_M_kindHere 52 t = some (1, t2)) : ∃ s3 s' t', fn_House_readWay 12 1 (Int32.ofNat p) s = some s3 ∧ fn_Tape_expect 1 (59 : Int32) s3 = some s' ∧ fn_M_clause 52 t = some t' ∧ CL X s t2 p H s' t' := by
  obtain ⟨o1, o2, o3, o4, o5, o6, o7, o8⟩ := ok
  have htot : tot H ≤ 33 := by unfold tot; omega
  obtain ⟨⟨dxR, dxW, dxS, dxC⟩, dx1, dx2, dx3, dx4⟩ := dx
  obtain ⟨⟨dmR, dmW, dmS, dmC⟩, dm1, dm2, dm3, dm4⟩ := dm
  have hnn : hW H = hW H := rfl
  generalize hn : hW H = n at hnn
  rw [hn] at dxW dmW o2
  have ert : t2 55 1 = Int32.ofNat n := dmW
  have emo : fn_M_mostOf (1 : Int32) = some 12 := by decide +kernel
  unfold fn_House_readWay fn_M_clause
  rw [hk, e_b2, e_let, e_jn, if_neg (show ¬ (1 : Int32) = -1 from by decide), e_jn, h7, if_neg (show ¬ Int32.ofNat (tot H) = 60 from zl_ne (b := 60) (by omega) (by omega) (by decide)), sm_11, show px_ald t2 55 (1 : Int32) = some (t2 55 1) from rd_55 (by decide), ert, e_bd, emo, e_bd, dxW]
  by_cases cM : n = 12
  · obtain ⟨s3, a1, a2, a3⟩ := c_fail0 x2 (kd := 3) (by decide) (Int32.ofNat p)
    obtain ⟨t3, b1, b2, b3⟩ := m_wrong0 m2 (kd := 3) (by decide) (Int32.ofNat p)
    obtain ⟨s4, d1, d2, d3⟩ := c_noexp te a2 (by decide) (c := 59) (by decide)
    refine ⟨s3, s4, t3, ?_, d1, ?_, _, _, 3, _, ⟨d2, b2, fun e => (by cases e), fun e => (by cases e)⟩, (a3.trans d3).g, b3.g, fun e => (by cases e)⟩
    · rw [if_pos (show (12 : Int32) ≤ Int32.ofNat n from zl_le (a := 12) (by omega) (by omega)), show fn_Tape_fail 1 (3 : Int32) (Int32.ofNat p) s = some s3 from a1, e_bd]
    · rw [if_pos (by rw [cM]; rfl), m2.1.2.1, show fn_M_wrong 52 (3 : Int32) (Int32.ofNat p) t2 = some t3 from b1, e_bd]
      try dsimp only
      rw [b2.1.2.2.1, if_neg (show ¬ Int32.ofNat 3 = 0 from by decide)]
  · rw [if_neg (show ¬ (12 : Int32) ≤ Int32.ofNat n from zl_nle (a := 12) (by omega) (by decide)), if_neg (show ¬ Int32.ofNat n = 12 from zl_ne (b := 12) cM (by omega) (by decide))]
    try dsimp only
    rw [m2.1.2.2.1, if_pos (show Int32.ofNat 0 = 0 from rfl)]
    obtain ⟨t3, y1, y2, y3, y4⟩ := b_skip te x2 m2 w_way g
    have e7 : t3 52 7 + 1 = Int32.ofNat (tot H + 1) := by rw [y3.2 7 (by decide) (by decide) (by decide), h7, zi_succ]
    have b4 := y2.ws (j := 7) (x := Int32.ofNat (tot H + 1)) (by decide) (by decide) (by decide) (by decide)
    obtain ⟨a0, c0, v0, p0, q0, k0, pl0, n0, m0, h0, fx0, fm0, l0, hv0, hk0, -⟩ := b_num te b4 (0 : Int32) (Int32.ofNat (hR H) - 1)
    have w0 := h0.w (i := 14) (j := n) (a := 58 + (12 + n)) (b := 0) (v := Int32.ofNat v0) (x := if k0 = 0 then Int32.ofNat v0 else 0) (by decide) (by decide) (by omega) (by omega)
    obtain ⟨tb, qb, mb, hb, fb, hqb⟩ := b_blanks te w0
    obtain ⟨a1, c1, v1, p1, q1, k1, pl1, n1, m1, h1, fx1, fm1, l1, hv1, hk1, -⟩ := b_num te hb (0 : Int32) (Int32.ofNat (hR H) - 1)
    have w1 := h1.w (i := 15) (j := n) (a := 58 + (12 + n)) (b := 1) (v := Int32.ofNat v1) (x := if k1 = 0 then Int32.ofNat v1 else 0) (by decide) (by decide) (by omega) (by omega)
    have e12 : ∀ b, b < 4 → hp_s a1 15 n (Int32.ofNat v1) 12 b = s 12 b := fun b hb => by rw [hs_ne (by omega), fx1.1 12 (by decide), hs_ne (by omega), fx0.1 12 (by decide)]
    have e14 : hp_s a1 15 n (Int32.ofNat v1) 14 n = Int32.ofNat v0 := by rw [hs_ne (by omega), fx1.1 14 (by decide), hs_at]
    have l1' : hp_s a1 15 n (Int32.ofNat v1) 1 6 = Int32.ofNat p0 := by rw [hs_ne (by omega)]; exact l1
    have ed0 : hp_s c1 (58 + (12 + n)) 1 (if k1 = 0 then Int32.ofNat v1 else 0) (58 + (12 + n)) 0 = (if k0 = 0 then Int32.ofNat v0 else 0) := by rw [hs_ne (by omega), fm1.1 _ (by omega), fb.1 _ (by omega), hs_at]
    have hdup : ∃ s7 t7 k7 pl7, (∀ {α : Type} (J : hp_I → Option α), (if Int32.ofNat v0 = Int32.ofNat v1 then Option.bind (fn_Tape_failLatestNumber 1 (hp_s a1 15 n (Int32.ofNat v1))) J else J (hp_s a1 15 n (Int32.ofNat v1))) = J s7) ∧ (∀ {β : Type} (J' : hp_I → Option β), (if (hp_s c1 (58 + (12 + n)) 1 (if k1 = 0 then Int32.ofNat v1 else 0)) 52 5 = 0 then (if (if k0 = 0 then Int32.ofNat v0 else 0) = (if k1 = 0 then Int32.ofNat v1 else 0) then Option.bind (fn_M_wrong 52 (2 : Int32) (Int32.ofNat p0) (hp_s c1 (58 + (12 + n)) 1 (if k1 = 0 then Int32.ofNat v1 else 0))) J' else J' (hp_s c1 (58 + (12 + n)) 1 (if k1 = 0 then Int32.ofNat v1 else 0))) else J' (hp_s c1 (58 + (12 + n)) 1 (if k1 = 0 then Int32.ofNat v1 else 0))) = J' t7) ∧ JT X s7 t7 p1 q1 k7 pl7 ∧ XF (hp_s a1 15 n (Int32.ofNat v1)) s7 ∧ MF (hp_s c1 (58 + (12 + n)) 1 (if k1 = 0 then Int32.ofNat v1 else 0)) t7 ∧ (k7 = 0 → k1 = 0 ∧ ¬ Int32.ofNat v0 = Int32.ofNat v1) := by
      obtain ⟨s7, t7, z1, z2, z3, z4, z5, -⟩ := b_fail w1 (kd := 2) (by decide) (by decide) (Int32.ofNat p0)
      have z0 : fn_Tape_failLatestNumber 1 (hp_s a1 15 n (Int32.ofNat v1)) = some s7 := by
        unfold fn_Tape_failLatestNumber
        rw [l1', show fn_Tape_fail 1 (2 : Int32) (Int32.ofNat p0) (hp_s a1 15 n (Int32.ofNat v1)) = some s7 from z1, e_bd]
      rw [w1.2.1.1.2.2.1, z0, show fn_M_wrong 52 (2 : Int32) (Int32.ofNat p0) (hp_s c1 (58 + (12 + n)) 1 (if k1 = 0 then Int32.ofNat v1 else 0)) = some t7 from z2]
      by_cases ck : k1 = 0
      · have ck0 := (hk1 ck).1
        rw [if_pos ck, if_pos ck] at z3
        have kp : Int32.ofNat k1 = 0 := (k_0 w1.2.1.2.2.1).mpr ck
        by_cases ce : Int32.ofNat v0 = Int32.ofNat v1
        · have ce2 : (if k0 = 0 then Int32.ofNat v0 else 0) = (if k1 = 0 then Int32.ofNat v1 else 0) := by rw [if_pos ck0, if_pos ck]; exact ce
          exact ⟨s7, t7, 2, _, fun J => by rw [if_pos ce, e_bd], fun J' => by rw [if_pos kp, if_pos ce2, e_bd], z3, z4, z5, fun e => (by cases e)⟩
        · have ce2 : ¬ (if k0 = 0 then Int32.ofNat v0 else 0) = (if k1 = 0 then Int32.ofNat v1 else 0) := by rw [if_pos ck0, if_pos ck]; exact ce
          exact ⟨(hp_s a1 15 n (Int32.ofNat v1)), _, k1, pl1, fun J => by rw [if_neg ce], fun J' => by rw [if_pos kp, if_neg ce2], w1, XF.refl, MF.refl, fun e => ⟨e, ce⟩⟩
      · have kn : ¬ Int32.ofNat k1 = 0 := fun e => ck ((k_0 w1.2.1.2.2.1).mp e)
        rw [if_neg ck, if_neg ck] at z3
        by_cases ce : Int32.ofNat v0 = Int32.ofNat v1
        · have w1' : JT X s7 (hp_s c1 (58 + (12 + n)) 1 (if k1 = 0 then Int32.ofNat v1 else 0)) p1 q1 k1 pl1 := ⟨z3.1, w1.2⟩
          exact ⟨s7, _, k1, pl1, fun J => by rw [if_pos ce, e_bd], fun J' => by rw [if_neg kn], w1', z4, MF.refl, fun e => absurd e ck⟩
        · exact ⟨(hp_s a1 15 n (Int32.ofNat v1)), _, k1, pl1, fun J => by rw [if_neg ce], fun J' => by rw [if_neg kn], w1, XF.refl, MF.refl, fun e => absurd e ck⟩
    obtain ⟨s7, t7, k7, pl7, du1, du2, h7d, fx7, fm7, hk7⟩ := hdup
    have ecn : s7 12 1 + 1 = Int32.ofNat (n + 1) := by rw [fx7.1 12 (by omega), hs_ne (by omega), fx1.1 12 (by omega), hs_ne (by omega), fx0.1 12 (by omega), dxW, zi_succ]
    have wc := h7d.wx (i := 12) (j := 1) (v := Int32.ofNat (n + 1)) (by decide) (by decide)
    obtain ⟨s8, t8, p8, q8, k8, pl8, g1, g2, h8, fx8, fm8, hk8, -⟩ := b_sign te wc (c := 59) (by decide)
    have e8t : t8 55 1 = Int32.ofNat n := by rw [fm8.1 55 (by omega), fm7.1 55 (by omega), hs_ne (by omega), fm1.1 55 (by omega), fb.1 55 (by omega), hs_ne (by omega), fm0.1 55 (by omega), hs_ne (by omega), y3.1 55 (by omega)]; exact ert
    have ft : ∀ i j, i ≠ 52 → i ≠ (58 + (12 + n)) → t8 i j = t2 i j := fun i j u1 u2 => by rw [fm8.1 i (by omega), fm7.1 i (by omega), hs_ne (by omega), fm1.1 i (by omega), fb.1 i (by omega), hs_ne (by omega), fm0.1 i (by omega), hs_ne (by omega), y3.1 i (by omega)]
    have fs : ∀ i j, i ≠ 1 → ¬ (i = 12 ∧ j = 1) → ¬ (i = 14 ∧ j = n) → ¬ (i = 15 ∧ j = n) → s8 i j = s i j := fun i j u1 u2 u3 u4 => by rw [fx8.1 i (by omega), hs_ne (by omega), fx7.1 i (by omega), hs_ne (by omega), fx1.1 i (by omega), hs_ne (by omega), fx0.1 i (by omega)]
    refine ⟨(hp_s s7 12 1 (Int32.ofNat (n + 1))), s8, hp_s t8 55 1 (Int32.ofNat n + (if k8 = 0 then 1 else 0)), ?_, g1, ?_, p8, q8, k8, pl8, h8.wm (by decide) (by decide), ?_, ?_, fun ck => ?_⟩
    · rw [dxR, n0, e_b2, hf_5, zi_ast (show n < sh_ln 14 by rw [hn_14]; omega) (by omega), e_bd, show hp_s a0 14 n (Int32.ofNat v0) 12 0 = Int32.ofNat (hR H) from by rw [hs_ne (by omega), fx0.1 12 (by omega)]; exact dxR, n1, e_b2, hf_6, show hp_s a0 14 n (Int32.ofNat v0) 12 1 = Int32.ofNat n from by rw [hs_ne (by omega), fx0.1 12 (by omega)]; exact dxW, zi_ast (show n < sh_ln 15 by rw [hn_15]; omega) (by omega), e_bd, e12 1 (by decide), dxW, zi_ald (show n < sh_ln 14 by rw [hn_14]; omega) (by omega), e_bd, zi_ald (show n < sh_ln 15 by rw [hn_15]; omega) (by omega), e_bd, e14, hs_at, e_jn]
      refine (du1 _).trans ?_
      try dsimp only
      rw [e_let, ecn]
    · rw [y1, e_bd, e_let, e7, show px_ald (hp_s t3 52 7 (Int32.ofNat (tot H + 1))) 55 (1 : Int32) = some (Int32.ofNat n) from by rw [show px_ald (hp_s t3 52 7 (Int32.ofNat (tot H + 1))) 55 (1 : Int32) = some _ from rd_55 (k := 1) (by decide), hs_ne (by omega), y3.1 55 (by decide), ert], e_bd, show fn_M_placeOf (1 : Int32) (Int32.ofNat n) = some (Int32.ofNat (12 + n)) from by unfold fn_M_placeOf; rw [show (12 : Int32) * 1 = Int32.ofNat 12 from by decide, zi_add], e_bd, sm_13, zi_rld (show 12 + n < sh_ln 57 by rw [hn_57]; omega) (by omega), e_bd, hf_57, e_jn, if_neg (show ¬ (1 : Int32) = 0 from by decide), show px_ald (hp_s t3 52 7 (Int32.ofNat (tot H + 1))) 55 (0 : Int32) = some (Int32.ofNat (hR H)) from by rw [show px_ald (hp_s t3 52 7 (Int32.ofNat (tot H + 1))) 55 (0 : Int32) = some _ from rd_55 (k := 0) (by decide), hs_ne (by omega), y3.1 55 (by decide), dmR], e_bd]
      try dsimp only
      rw [m0, e_b2, show ∀ (f : hp_I) (x : Int32), px_ast f (58 + (12 + n)) (0 : Int32) x = some (hp_s f (58 + (12 + n)) 0 x) from fun f x => wr_58 (j := 0) (by omega) (by decide), e_bd, e_jn, if_pos (show (1 : Int32) = 1 from rfl), mb, e_bd, e_let, hb.2.1.1.2.1]
      have eq0 : px_ald tb 55 (0 : Int32) = some (Int32.ofNat (hR H)) := by rw [show px_ald tb 55 (0 : Int32) = some (tb 55 0) from rd_55 (k := 0) (by decide), fb.1 55 (by decide), hs_ne (by omega), fm0.1 55 (by decide), hs_ne (by omega), y3.1 55 (by decide), dmR]
      rw [eq0, e_bd, m1, e_b2, show ∀ (f : hp_I) (x : Int32), px_ast f (58 + (12 + n)) (1 : Int32) x = some (hp_s f (58 + (12 + n)) 1 x) from fun f x => wr_58 (j := 1) (by omega) (by decide), e_bd]
      have er0 : px_ald (hp_s c1 (58 + (12 + n)) 1 (if k1 = 0 then Int32.ofNat v1 else 0)) (58 + (12 + n)) (0 : Int32) = some (if k0 = 0 then Int32.ofNat v0 else 0) := by rw [show px_ald (hp_s c1 (58 + (12 + n)) 1 (if k1 = 0 then Int32.ofNat v1 else 0)) (58 + (12 + n)) (0 : Int32) = some _ from rd_58 (j := 0) (by omega) (by decide), ed0]
      have er1 : px_ald (hp_s c1 (58 + (12 + n)) 1 (if k1 = 0 then Int32.ofNat v1 else 0)) (58 + (12 + n)) (1 : Int32) = some (if k1 = 0 then Int32.ofNat v1 else 0) := by rw [show px_ald (hp_s c1 (58 + (12 + n)) 1 (if k1 = 0 then Int32.ofNat v1 else 0)) (58 + (12 + n)) (1 : Int32) = some _ from rd_58 (j := 1) (by omega) (by decide), hs_at]
      rw [er0, er1]
      by_cases kz : k0 = 0
      · rw [hqb kz]
        simp only [e_bd]
        refine (du2 _).trans ?_
        try dsimp only
        rw [e_jn, if_neg (show ¬ (1 : Int32) = 2 from by decide)]
        try dsimp only
        rw [e_jn, if_neg (show ¬ (1 : Int32) = 3 from by decide)]
        try dsimp only
        rw [show fn_M_sign 52 (59 : Int32) t7 = some t8 from g2, e_bd, show px_ald t8 55 (1 : Int32) = some (t8 55 1) from rd_55 (k := 1) (by decide), e8t, e_bd, e_jn, h8.2.1.1.2.2.1]
        by_cases ck : k8 = 0
        · rw [if_pos ((k_0 h8.2.1.2.2.1).mpr ck), if_pos ck]
          try dsimp only
          rw [show px_ast t8 55 (1 : Int32) (Int32.ofNat n + 1) = _ from wr_55 (k := 1) (by decide), e_bd]
        · rw [if_neg (fun e => ck ((k_0 h8.2.1.2.2.1).mp e)), if_neg ck]
          try dsimp only
          rw [show px_ast t8 55 (1 : Int32) (Int32.ofNat n + 0) = _ from wr_55 (k := 1) (by decide), e_bd]
      · have kz1 : k1 ≠ 0 := fun e => kz (hk1 e).1
        have du3 := fun (J' : hp_I → Option hp_I) => du2 J'
        have kn : ¬ (hp_s c1 (58 + (12 + n)) 1 (if k1 = 0 then Int32.ofNat v1 else 0)) 52 5 = 0 := by rw [w1.2.1.1.2.2.1]; exact fun e => kz1 ((k_0 w1.2.1.2.2.1).mp e)
        simp only [if_neg kn] at du3 ⊢
        have et := Option.some.inj (du3 (fun s => some s))
        rw [et]
        try dsimp only
        rw [e_jn, if_neg (show ¬ (1 : Int32) = 2 from by decide)]
        try dsimp only
        rw [e_jn, if_neg (show ¬ (1 : Int32) = 3 from by decide)]
        try dsimp only
        rw [show fn_M_sign 52 (59 : Int32) t7 = some t8 from g2, e_bd, show px_ald t8 55 (1 : Int32) = some (t8 55 1) from rd_55 (k := 1) (by decide), e8t, e_bd, e_jn, h8.2.1.1.2.2.1]
        by_cases ck : k8 = 0
        · rw [if_pos ((k_0 h8.2.1.2.2.1).mpr ck), if_pos ck]
          try dsimp only
          rw [show px_ast t8 55 (1 : Int32) (Int32.ofNat n + 1) = _ from wr_55 (k := 1) (by decide), e_bd]
        · rw [if_neg (fun e => ck ((k_0 h8.2.1.2.2.1).mp e)), if_neg ck]
          try dsimp only
          rw [show px_ast t8 55 (1 : Int32) (Int32.ofNat n + 0) = _ from wr_55 (k := 1) (by decide), e_bd]
    · refine ⟨fun i u1 u2 => funext fun j => fs i j u1 (by unfold hsP at u2; omega) (by unfold hsP at u2; omega) (by unfold hsP at u2; omega), ?_⟩
      rw [fx8.2, hs_ne (by omega), fx7.2, hs_ne (by omega), fx1.2, hs_ne (by omega), fx0.2]
    · refine ⟨fun i u1 u2 => funext fun j => ?_, fun j u1 u2 u3 u4 => ?_⟩
      · unfold hmP at u2
        rw [hs_ne (by omega)]
        exact ft i j u1 (by omega)
      · unfold hmJ at u4
        rw [hs_ne (by omega), fm8.2 j u1 u2 u3, fm7.2 j u1 u2 u3, hs_ne (by omega), fm1.2 j u1 u2 u3, fb.2 j u1 u2 u3, hs_ne (by omega), fm0.2 j u1 u2 u3, hs_ne (by omega), y3.2 j u1 u2 u3]
    · have ck7 := (hk8 ck).1
      have ck1 := (hk7 ck7).1
      have ck0 := (hk1 ck1).1
      refine ⟨by have := y4; have := (hk0 ck0).2.2; have := (hk1 ck1).2.2; have := (hk8 ck).2; omega, ?_⟩
      refine ⟨(hR H, n + 1, hS H, hC H, (upV (upV (hV H) 1 n (Int32.ofNat v0)) 2 n (Int32.ofNat v1))), ?_, ?_, ?_, ?_, ?_⟩
      · have r0 : v0 < hR H := in_prd hv0 (by omega) (hk0 ck0).2.1
        have r1 : v1 < hR H := in_prd hv1 (by omega) (hk1 ck1).2.1
        refine ⟨by show hR H ≤ 8; omega, by show n + 1 ≤ 12; omega, by show hS H ≤ 8; omega, by show hC H ≤ 5; omega, fun r hr => ?_, fun w hw => ?_, fun s hs => ?_, fun c hc => ?_⟩
        · show zB ((upV (upV (hV H) 1 n (Int32.ofNat v0)) 2 n (Int32.ofNat v1)) 0 r) 61
          rw [upV_n (a' := 0) (Or.inl (by decide)), upV_n (a' := 0) (Or.inl (by decide))]
          have hh := o5 r hr
          exact hh
        · show zB ((upV (upV (hV H) 1 n (Int32.ofNat v0)) 2 n (Int32.ofNat v1)) 1 w) (hR H) ∧ zB ((upV (upV (hV H) 1 n (Int32.ofNat v0)) 2 n (Int32.ofNat v1)) 2 w) (hR H) ∧ (upV (upV (hV H) 1 n (Int32.ofNat v0)) 2 n (Int32.ofNat v1)) 1 w ≠ (upV (upV (hV H) 1 n (Int32.ofNat v0)) 2 n (Int32.ofNat v1)) 2 w
          by_cases ex : w = n
          · subst ex
            rw [upV_n (a' := 1) (Or.inl (by decide)), upV_i, upV_i]
            exact ⟨⟨v0, r0, rfl⟩, ⟨v1, r1, rfl⟩, (hk7 ck7).2⟩
          · rw [upV_n (a' := 1) (i' := w) (by omega), upV_n (a' := 1) (i' := w) (by omega), upV_n (a' := 2) (i' := w) (by omega), upV_n (a' := 2) (i' := w) (by omega)]
            exact o6 w (by rw [hn]; have : w < n + 1 := hw; omega)
        · show zB ((upV (upV (hV H) 1 n (Int32.ofNat v0)) 2 n (Int32.ofNat v1)) 3 s) (hR H) ∧ zB ((upV (upV (hV H) 1 n (Int32.ofNat v0)) 2 n (Int32.ofNat v1)) 4 s) 61 ∧ (upV (upV (hV H) 1 n (Int32.ofNat v0)) 2 n (Int32.ofNat v1)) 4 s ≠ 0 ∧ zB ((upV (upV (hV H) 1 n (Int32.ofNat v0)) 2 n (Int32.ofNat v1)) 5 s) 10
          rw [upV_n (a' := 3) (Or.inl (by decide)), upV_n (a' := 3) (Or.inl (by decide)), upV_n (a' := 4) (Or.inl (by decide)), upV_n (a' := 4) (Or.inl (by decide)), upV_n (a' := 5) (Or.inl (by decide)), upV_n (a' := 5) (Or.inl (by decide))]
          have hh := o7 s hs
          exact hh
        · show zB ((upV (upV (hV H) 1 n (Int32.ofNat v0)) 2 n (Int32.ofNat v1)) 6 c) (hR H) ∧ zB ((upV (upV (hV H) 1 n (Int32.ofNat v0)) 2 n (Int32.ofNat v1)) 7 c) 21
          rw [upV_n (a' := 6) (Or.inl (by decide)), upV_n (a' := 6) (Or.inl (by decide)), upV_n (a' := 7) (Or.inl (by decide)), upV_n (a' := 7) (Or.inl (by decide))]
          have hh := o8 c hc
          exact hh
      · refine ⟨⟨by rw [fs 12 0 (by omega) (by omega) (by omega) (by omega)]; exact dxR, ?_, by rw [fs 12 2 (by omega) (by omega) (by omega) (by omega)]; exact dxS, by rw [fs 12 3 (by omega) (by omega) (by omega) (by omega)]; exact dxC⟩, fun r hr => ?_, fun w hw => ?_, fun s hs => ?_, fun c hc => ?_⟩
        · show s8 12 1 = Int32.ofNat (n + 1)
          rw [fx8.1 12 (by decide), hs_at]
        · show s8 13 r = (upV (upV (hV H) 1 n (Int32.ofNat v0)) 2 n (Int32.ofNat v1)) 0 r
          rw [upV_n (a' := 0) (Or.inl (by decide)), upV_n (a' := 0) (Or.inl (by decide)), fs 13 r (by omega) (by omega) (by omega) (by omega)]
          exact dx1 r hr
        · show s8 14 w = (upV (upV (hV H) 1 n (Int32.ofNat v0)) 2 n (Int32.ofNat v1)) 1 w ∧ s8 15 w = (upV (upV (hV H) 1 n (Int32.ofNat v0)) 2 n (Int32.ofNat v1)) 2 w
          by_cases ex : w = n
          · subst ex
            have z1 : s8 14 w = Int32.ofNat v0 := by rw [fx8.1 14 (by decide), hs_ne (by omega), fx7.1 14 (by decide), hs_ne (by omega), fx1.1 14 (by decide), hs_at]
            have z2 : s8 15 w = Int32.ofNat v1 := by rw [fx8.1 15 (by decide), hs_ne (by omega), fx7.1 15 (by decide), hs_at]
            rw [upV_n (a' := 1) (Or.inl (by decide)), upV_i, upV_i]
            exact ⟨z1, z2⟩
          · rw [upV_n (a' := 1) (i' := w) (by omega), upV_n (a' := 1) (i' := w) (by omega), fs 14 w (by omega) (by omega) (by omega) (by omega), upV_n (a' := 2) (i' := w) (by omega), upV_n (a' := 2) (i' := w) (by omega), fs 15 w (by omega) (by omega) (by omega) (by omega)]
            exact dx2 w (by rw [hn]; have : w < n + 1 := hw; omega)
        · show s8 16 s = (upV (upV (hV H) 1 n (Int32.ofNat v0)) 2 n (Int32.ofNat v1)) 3 s ∧ s8 17 s = (upV (upV (hV H) 1 n (Int32.ofNat v0)) 2 n (Int32.ofNat v1)) 4 s ∧ s8 18 s = (upV (upV (hV H) 1 n (Int32.ofNat v0)) 2 n (Int32.ofNat v1)) 5 s
          rw [upV_n (a' := 3) (Or.inl (by decide)), upV_n (a' := 3) (Or.inl (by decide)), fs 16 s (by omega) (by omega) (by omega) (by omega), upV_n (a' := 4) (Or.inl (by decide)), upV_n (a' := 4) (Or.inl (by decide)), fs 17 s (by omega) (by omega) (by omega) (by omega), upV_n (a' := 5) (Or.inl (by decide)), upV_n (a' := 5) (Or.inl (by decide)), fs 18 s (by omega) (by omega) (by omega) (by omega)]
          exact dx3 s hs
        · show s8 19 c = (upV (upV (hV H) 1 n (Int32.ofNat v0)) 2 n (Int32.ofNat v1)) 6 c ∧ s8 20 c = (upV (upV (hV H) 1 n (Int32.ofNat v0)) 2 n (Int32.ofNat v1)) 7 c
          rw [upV_n (a' := 6) (Or.inl (by decide)), upV_n (a' := 6) (Or.inl (by decide)), fs 19 c (by omega) (by omega) (by omega) (by omega), upV_n (a' := 7) (Or.inl (by decide)), upV_n (a' := 7) (Or.inl (by decide)), fs 20 c (by omega) (by omega) (by omega) (by omega)]
          exact dx4 c hc
      · refine ⟨⟨by rw [hs_ne (by omega), ft 55 0 (by omega) (by omega)]; exact dmR, ?_, by rw [hs_ne (by omega), ft 55 2 (by omega) (by omega)]; exact dmS, by rw [hs_ne (by omega), ft 55 3 (by omega) (by omega)]; exact dmC⟩, fun r hr => ?_, fun w hw => ?_, fun s hs => ?_, fun c hc => ?_⟩
        · show hp_s t8 55 1 (Int32.ofNat n + (if k8 = 0 then 1 else 0)) 55 1 = Int32.ofNat (n + 1)
          rw [hs_at, if_pos ck, zi_succ]
        · show hp_s t8 55 1 (Int32.ofNat n + (if k8 = 0 then 1 else 0)) (58 + (0 + r)) 0 = (upV (upV (hV H) 1 n (Int32.ofNat v0)) 2 n (Int32.ofNat v1)) 0 r
          have hx : r < hR H := hr
          rw [upV_n (a' := 0) (Or.inl (by decide)), upV_n (a' := 0) (Or.inl (by decide)), hs_ne (a := 58 + (0 + r)) (b := 0) (by omega), ft (58 + (0 + r)) 0 (by omega) (by omega)]
          exact dm1 r hr
        · show hp_s t8 55 1 (Int32.ofNat n + (if k8 = 0 then 1 else 0)) (58 + (12 + w)) 0 = (upV (upV (hV H) 1 n (Int32.ofNat v0)) 2 n (Int32.ofNat v1)) 1 w ∧ hp_s t8 55 1 (Int32.ofNat n + (if k8 = 0 then 1 else 0)) (58 + (12 + w)) 1 = (upV (upV (hV H) 1 n (Int32.ofNat v0)) 2 n (Int32.ofNat v1)) 2 w
          have hx : w < n + 1 := hw
          by_cases ex : w = n
          · subst ex
            have z1 : hp_s t8 55 1 (Int32.ofNat w + (if k8 = 0 then 1 else 0)) (58 + (12 + w)) 0 = Int32.ofNat v0 := by rw [hs_ne (by omega), fm8.1 _ (by omega), fm7.1 _ (by omega), hs_ne (by omega), fm1.1 _ (by omega), fb.1 _ (by omega), hs_at, if_pos ck0]
            have z2 : hp_s t8 55 1 (Int32.ofNat w + (if k8 = 0 then 1 else 0)) (58 + (12 + w)) 1 = Int32.ofNat v1 := by rw [hs_ne (by omega), fm8.1 _ (by omega), fm7.1 _ (by omega), hs_at, if_pos ck1]
            rw [upV_n (a' := 1) (Or.inl (by decide)), upV_i, upV_i]
            exact ⟨z1, z2⟩
          · rw [upV_n (a' := 1) (i' := w) (by omega), upV_n (a' := 1) (i' := w) (by omega), hs_ne (a := 58 + (12 + w)) (b := 0) (by omega), ft (58 + (12 + w)) 0 (by omega) (by omega), upV_n (a' := 2) (i' := w) (by omega), upV_n (a' := 2) (i' := w) (by omega), hs_ne (a := 58 + (12 + w)) (b := 1) (by omega), ft (58 + (12 + w)) 1 (by omega) (by omega)]
            exact dm2 w (by rw [hn]; omega)
        · show hp_s t8 55 1 (Int32.ofNat n + (if k8 = 0 then 1 else 0)) (58 + (24 + s)) 0 = (upV (upV (hV H) 1 n (Int32.ofNat v0)) 2 n (Int32.ofNat v1)) 3 s ∧ hp_s t8 55 1 (Int32.ofNat n + (if k8 = 0 then 1 else 0)) (58 + (24 + s)) 1 = (upV (upV (hV H) 1 n (Int32.ofNat v0)) 2 n (Int32.ofNat v1)) 4 s ∧ hp_s t8 55 1 (Int32.ofNat n + (if k8 = 0 then 1 else 0)) (58 + (24 + s)) 2 = (upV (upV (hV H) 1 n (Int32.ofNat v0)) 2 n (Int32.ofNat v1)) 5 s
          have hx : s < hS H := hs
          rw [upV_n (a' := 3) (Or.inl (by decide)), upV_n (a' := 3) (Or.inl (by decide)), hs_ne (a := 58 + (24 + s)) (b := 0) (by omega), ft (58 + (24 + s)) 0 (by omega) (by omega), upV_n (a' := 4) (Or.inl (by decide)), upV_n (a' := 4) (Or.inl (by decide)), hs_ne (a := 58 + (24 + s)) (b := 1) (by omega), ft (58 + (24 + s)) 1 (by omega) (by omega), upV_n (a' := 5) (Or.inl (by decide)), upV_n (a' := 5) (Or.inl (by decide)), hs_ne (a := 58 + (24 + s)) (b := 2) (by omega), ft (58 + (24 + s)) 2 (by omega) (by omega)]
          exact dm3 s hs
        · show hp_s t8 55 1 (Int32.ofNat n + (if k8 = 0 then 1 else 0)) (58 + (36 + c)) 0 = (upV (upV (hV H) 1 n (Int32.ofNat v0)) 2 n (Int32.ofNat v1)) 6 c ∧ hp_s t8 55 1 (Int32.ofNat n + (if k8 = 0 then 1 else 0)) (58 + (36 + c)) 1 = (upV (upV (hV H) 1 n (Int32.ofNat v0)) 2 n (Int32.ofNat v1)) 7 c
          have hx : c < hC H := hc
          rw [upV_n (a' := 6) (Or.inl (by decide)), upV_n (a' := 6) (Or.inl (by decide)), hs_ne (a := 58 + (36 + c)) (b := 0) (by omega), ft (58 + (36 + c)) 0 (by omega) (by omega), upV_n (a' := 7) (Or.inl (by decide)), upV_n (a' := 7) (Or.inl (by decide)), hs_ne (a := 58 + (36 + c)) (b := 1) (by omega), ft (58 + (36 + c)) 1 (by omega) (by omega)]
          exact dm4 c hc
      · rw [hs_ne (by omega), fm8.2 7 (by decide) (by decide) (by decide), fm7.2 7 (by decide) (by decide) (by decide), hs_ne (by omega), fm1.2 7 (by decide) (by decide) (by decide), fb.2 7 (by decide) (by decide) (by decide), hs_ne (by omega), fm0.2 7 (by decide) (by decide) (by decide), hs_at]
        congr 1
        show tot H + 1 = hR H + (n + 1) + hS H + hC H
        unfold tot; omega
      · show hR H + (n + 1) + hS H + hC H = tot H + 1
        unfold tot; omega
theorem b_scheme (te : TE X) (x2 : XT X s (sk X (p + [115, 99, 104, 101, 109, 101].length)) 0 (-1)) (m2 : MT X t2 p 0 (-1)) (g : wdB X p 0 [115, 99, 104, 101, 109, 101] = true) (ok : HOK H) (dx : DX s H) (dm : DM t2 H) (h7 : t2 52 7 = Int32.ofNat (tot H)) (hk : fn_M_kindHere 52 t = some (2, t2)) : ∃ s3 s' t', fn_House_readScheme 12 1 (Int32.ofNat p) s = some s3 ∧ fn_Tape_expect 1 (59 : Int32) s3 = some s' ∧ fn_M_clause 52 t = some t' ∧ CL X s t2 p H s' t' := by
  obtain ⟨o1, o2, o3, o4, o5, o6, o7, o8⟩ := ok
  have htot : tot H ≤ 33 := by unfold tot; omega
  obtain ⟨⟨dxR, dxW, dxS, dxC⟩, dx1, dx2, dx3, dx4⟩ := dx
  obtain ⟨⟨dmR, dmW, dmS, dmC⟩, dm1, dm2, dm3, dm4⟩ := dm
  have hnn : hS H = hS H := rfl
  generalize hn : hS H = n at hnn
  rw [hn] at dxS dmS o3
  have ert : t2 55 2 = Int32.ofNat n := dmS
  have emo : fn_M_mostOf (2 : Int32) = some 8 := by decide +kernel
  unfold fn_House_readScheme fn_M_clause
  rw [hk, e_b2, e_let, e_jn, if_neg (show ¬ (2 : Int32) = -1 from by decide), e_jn, h7, if_neg (show ¬ Int32.ofNat (tot H) = 60 from zl_ne (b := 60) (by omega) (by omega) (by decide)), sm_11, show px_ald t2 55 (2 : Int32) = some (t2 55 2) from rd_55 (by decide), ert, e_bd, emo, e_bd, dxS]
  by_cases cM : n = 8
  · obtain ⟨s3, a1, a2, a3⟩ := c_fail0 x2 (kd := 3) (by decide) (Int32.ofNat p)
    obtain ⟨t3, b1, b2, b3⟩ := m_wrong0 m2 (kd := 3) (by decide) (Int32.ofNat p)
    obtain ⟨s4, d1, d2, d3⟩ := c_noexp te a2 (by decide) (c := 59) (by decide)
    refine ⟨s3, s4, t3, ?_, d1, ?_, _, _, 3, _, ⟨d2, b2, fun e => (by cases e), fun e => (by cases e)⟩, (a3.trans d3).g, b3.g, fun e => (by cases e)⟩
    · rw [if_pos (show (8 : Int32) ≤ Int32.ofNat n from zl_le (a := 8) (by omega) (by omega)), show fn_Tape_fail 1 (3 : Int32) (Int32.ofNat p) s = some s3 from a1, e_bd]
    · rw [if_pos (by rw [cM]; rfl), m2.1.2.1, show fn_M_wrong 52 (3 : Int32) (Int32.ofNat p) t2 = some t3 from b1, e_bd]
      try dsimp only
      rw [b2.1.2.2.1, if_neg (show ¬ Int32.ofNat 3 = 0 from by decide)]
  · rw [if_neg (show ¬ (8 : Int32) ≤ Int32.ofNat n from zl_nle (a := 8) (by omega) (by decide)), if_neg (show ¬ Int32.ofNat n = 8 from zl_ne (b := 8) cM (by omega) (by decide))]
    try dsimp only
    rw [m2.1.2.2.1, if_pos (show Int32.ofNat 0 = 0 from rfl)]
    obtain ⟨t3, y1, y2, y3, y4⟩ := b_skip te x2 m2 w_scheme g
    have e7 : t3 52 7 + 1 = Int32.ofNat (tot H + 1) := by rw [y3.2 7 (by decide) (by decide) (by decide), h7, zi_succ]
    have b4 := y2.ws (j := 7) (x := Int32.ofNat (tot H + 1)) (by decide) (by decide) (by decide) (by decide)
    obtain ⟨a0, c0, v0, p0, q0, k0, pl0, n0, m0, h0, fx0, fm0, l0, hv0, hk0, -⟩ := b_num te b4 (0 : Int32) (Int32.ofNat (hR H) - 1)
    have w0 := h0.w (i := 16) (j := n) (a := 58 + (24 + n)) (b := 0) (v := Int32.ofNat v0) (x := if k0 = 0 then Int32.ofNat v0 else 0) (by decide) (by decide) (by omega) (by omega)
    obtain ⟨a1, c1, v1, p1, q1, k1, pl1, n1, m1, h1, fx1, fm1, l1, hv1, hk1, -⟩ := b_num te w0 (1 : Int32) (60 : Int32)
    have w1 := h1.w (i := 17) (j := n) (a := 58 + (24 + n)) (b := 1) (v := Int32.ofNat v1) (x := if k1 = 0 then Int32.ofNat v1 else 0) (by decide) (by decide) (by omega) (by omega)
    obtain ⟨a2, c2, v2, p2, q2, k2, pl2, n2, m2, h2, fx2, fm2, l2, hv2, hk2, -⟩ := b_num te w1 (0 : Int32) (9 : Int32)
    have w2 := h2.w (i := 18) (j := n) (a := 58 + (24 + n)) (b := 2) (v := Int32.ofNat v2) (x := if k2 = 0 then Int32.ofNat v2 else 0) (by decide) (by decide) (by omega) (by omega)
    have ecn : (hp_s a2 18 n (Int32.ofNat v2)) 12 2 + 1 = Int32.ofNat (n + 1) := by rw [hs_ne (by omega), fx2.1 12 (by omega), hs_ne (by omega), fx1.1 12 (by omega), hs_ne (by omega), fx0.1 12 (by omega), dxS, zi_succ]
    have wc := w2.wx (i := 12) (j := 2) (v := Int32.ofNat (n + 1)) (by decide) (by decide)
    obtain ⟨s8, t8, p8, q8, k8, pl8, g1, g2, h8, fx8, fm8, hk8, -⟩ := b_sign te wc (c := 59) (by decide)
    have e8t : t8 55 2 = Int32.ofNat n := by rw [fm8.1 55 (by omega), hs_ne (by omega), fm2.1 55 (by omega), hs_ne (by omega), fm1.1 55 (by omega), hs_ne (by omega), fm0.1 55 (by omega), hs_ne (by omega), y3.1 55 (by omega)]; exact ert
    have ft : ∀ i j, i ≠ 52 → i ≠ (58 + (24 + n)) → t8 i j = t2 i j := fun i j u1 u2 => by rw [fm8.1 i (by omega), hs_ne (by omega), fm2.1 i (by omega), hs_ne (by omega), fm1.1 i (by omega), hs_ne (by omega), fm0.1 i (by omega), hs_ne (by omega), y3.1 i (by omega)]
    have fs : ∀ i j, i ≠ 1 → ¬ (i = 12 ∧ j = 2) → ¬ (i = 16 ∧ j = n) → ¬ (i = 17 ∧ j = n) → ¬ (i = 18 ∧ j = n) → s8 i j = s i j := fun i j u1 u2 u3 u4 u5 => by rw [fx8.1 i (by omega), hs_ne (by omega), hs_ne (by omega), fx2.1 i (by omega), hs_ne (by omega), fx1.1 i (by omega), hs_ne (by omega), fx0.1 i (by omega)]
    refine ⟨(hp_s (hp_s a2 18 n (Int32.ofNat v2)) 12 2 (Int32.ofNat (n + 1))), s8, hp_s t8 55 2 (Int32.ofNat n + (if k8 = 0 then 1 else 0)), ?_, g1, ?_, p8, q8, k8, pl8, h8.wm (by decide) (by decide), ?_, ?_, fun ck => ?_⟩
    · rw [dxR, n0, e_b2, hf_7, zi_ast (show n < sh_ln 16 by rw [hn_16]; omega) (by omega), e_bd, n1, e_b2, hf_8, show hp_s a0 16 n (Int32.ofNat v0) 12 2 = Int32.ofNat n from by rw [hs_ne (by omega), fx0.1 12 (by omega)]; exact dxS, zi_ast (show n < sh_ln 17 by rw [hn_17]; omega) (by omega), e_bd, n2, e_b2, hf_9, show hp_s a1 17 n (Int32.ofNat v1) 12 2 = Int32.ofNat n from by rw [hs_ne (by omega), fx1.1 12 (by omega), hs_ne (by omega), fx0.1 12 (by omega)]; exact dxS, zi_ast (show n < sh_ln 18 by rw [hn_18]; omega) (by omega), e_bd, e_let, ecn]
    · rw [y1, e_bd, e_let, e7, show px_ald (hp_s t3 52 7 (Int32.ofNat (tot H + 1))) 55 (2 : Int32) = some (Int32.ofNat n) from by rw [show px_ald (hp_s t3 52 7 (Int32.ofNat (tot H + 1))) 55 (2 : Int32) = some _ from rd_55 (k := 2) (by decide), hs_ne (by omega), y3.1 55 (by decide), ert], e_bd, show fn_M_placeOf (2 : Int32) (Int32.ofNat n) = some (Int32.ofNat (24 + n)) from by unfold fn_M_placeOf; rw [show (12 : Int32) * 2 = Int32.ofNat 24 from by decide, zi_add], e_bd, sm_13, zi_rld (show 24 + n < sh_ln 57 by rw [hn_57]; omega) (by omega), e_bd, hf_57, e_jn, if_neg (show ¬ (2 : Int32) = 0 from by decide), show px_ald (hp_s t3 52 7 (Int32.ofNat (tot H + 1))) 55 (0 : Int32) = some (Int32.ofNat (hR H)) from by rw [show px_ald (hp_s t3 52 7 (Int32.ofNat (tot H + 1))) 55 (0 : Int32) = some _ from rd_55 (k := 0) (by decide), hs_ne (by omega), y3.1 55 (by decide), dmR], e_bd]
      try dsimp only
      rw [m0, e_b2, show ∀ (f : hp_I) (x : Int32), px_ast f (58 + (24 + n)) (0 : Int32) x = some (hp_s f (58 + (24 + n)) 0 x) from fun f x => wr_58 (j := 0) (by omega) (by decide), e_bd, e_jn, if_neg (show ¬ (2 : Int32) = 1 from by decide)]
      try dsimp only
      rw [e_jn, if_pos (show (2 : Int32) = 2 from rfl), m1, e_b2, show ∀ (f : hp_I) (x : Int32), px_ast f (58 + (24 + n)) (1 : Int32) x = some (hp_s f (58 + (24 + n)) 1 x) from fun f x => wr_58 (j := 1) (by omega) (by decide), e_bd, m2, e_b2, show ∀ (f : hp_I) (x : Int32), px_ast f (58 + (24 + n)) (2 : Int32) x = some (hp_s f (58 + (24 + n)) 2 x) from fun f x => wr_58 (j := 2) (by omega) (by decide), e_bd]
      try dsimp only
      rw [e_jn, if_neg (show ¬ (2 : Int32) = 3 from by decide)]
      try dsimp only
      rw [show fn_M_sign 52 (59 : Int32) _ = some t8 from g2, e_bd, show px_ald t8 55 (2 : Int32) = some (t8 55 2) from rd_55 (k := 2) (by decide), e8t, e_bd, e_jn, h8.2.1.1.2.2.1]
      by_cases ck : k8 = 0
      · rw [if_pos ((k_0 h8.2.1.2.2.1).mpr ck), if_pos ck]
        try dsimp only
        rw [show px_ast t8 55 (2 : Int32) (Int32.ofNat n + 1) = _ from wr_55 (k := 2) (by decide), e_bd]
      · rw [if_neg (fun e => ck ((k_0 h8.2.1.2.2.1).mp e)), if_neg ck]
        try dsimp only
        rw [show px_ast t8 55 (2 : Int32) (Int32.ofNat n + 0) = _ from wr_55 (k := 2) (by decide), e_bd]
    · refine ⟨fun i u1 u2 => funext fun j => fs i j u1 (by unfold hsP at u2; omega) (by unfold hsP at u2; omega) (by unfold hsP at u2; omega) (by unfold hsP at u2; omega), ?_⟩
      rw [fx8.2, hs_ne (by omega), hs_ne (by omega), fx2.2, hs_ne (by omega), fx1.2, hs_ne (by omega), fx0.2]
    · refine ⟨fun i u1 u2 => funext fun j => ?_, fun j u1 u2 u3 u4 => ?_⟩
      · unfold hmP at u2
        rw [hs_ne (by omega)]
        exact ft i j u1 (by omega)
      · unfold hmJ at u4
        rw [hs_ne (by omega), fm8.2 j u1 u2 u3, hs_ne (by omega), fm2.2 j u1 u2 u3, hs_ne (by omega), fm1.2 j u1 u2 u3, hs_ne (by omega), fm0.2 j u1 u2 u3, hs_ne (by omega), y3.2 j u1 u2 u3]
    · have ck2 := (hk8 ck).1
      have ck1 := (hk2 ck2).1
      have ck0 := (hk1 ck1).1
      refine ⟨by have := y4; have := (hk0 ck0).2.2; have := (hk1 ck1).2.2; have := (hk2 ck2).2.2; have := (hk8 ck).2; omega, ?_⟩
      refine ⟨(hR H, hW H, n + 1, hC H, (upV (upV (upV (hV H) 3 n (Int32.ofNat v0)) 4 n (Int32.ofNat v1)) 5 n (Int32.ofNat v2))), ?_, ?_, ?_, ?_, ?_⟩
      · have r0 : v0 < hR H := in_prd hv0 (by omega) (hk0 ck0).2.1
        have r1 := in_nat (a := 1) (b := 60) hv1 (by decide) (by decide) (hk1 ck1).2.1
        have r2 := in_nat (a := 0) (b := 9) hv2 (by decide) (by decide) (hk2 ck2).2.1
        refine ⟨by show hR H ≤ 8; omega, by show hW H ≤ 12; omega, by show n + 1 ≤ 8; omega, by show hC H ≤ 5; omega, fun r hr => ?_, fun w hw => ?_, fun s hs => ?_, fun c hc => ?_⟩
        · show zB ((upV (upV (upV (hV H) 3 n (Int32.ofNat v0)) 4 n (Int32.ofNat v1)) 5 n (Int32.ofNat v2)) 0 r) 61
          rw [upV_n (a' := 0) (Or.inl (by decide)), upV_n (a' := 0) (Or.inl (by decide)), upV_n (a' := 0) (Or.inl (by decide))]
          have hh := o5 r hr
          exact hh
        · show zB ((upV (upV (upV (hV H) 3 n (Int32.ofNat v0)) 4 n (Int32.ofNat v1)) 5 n (Int32.ofNat v2)) 1 w) (hR H) ∧ zB ((upV (upV (upV (hV H) 3 n (Int32.ofNat v0)) 4 n (Int32.ofNat v1)) 5 n (Int32.ofNat v2)) 2 w) (hR H) ∧ (upV (upV (upV (hV H) 3 n (Int32.ofNat v0)) 4 n (Int32.ofNat v1)) 5 n (Int32.ofNat v2)) 1 w ≠ (upV (upV (upV (hV H) 3 n (Int32.ofNat v0)) 4 n (Int32.ofNat v1)) 5 n (Int32.ofNat v2)) 2 w
          rw [upV_n (a' := 1) (Or.inl (by decide)), upV_n (a' := 1) (Or.inl (by decide)), upV_n (a' := 1) (Or.inl (by decide)), upV_n (a' := 2) (Or.inl (by decide)), upV_n (a' := 2) (Or.inl (by decide)), upV_n (a' := 2) (Or.inl (by decide))]
          have hh := o6 w hw
          exact hh
        · show zB ((upV (upV (upV (hV H) 3 n (Int32.ofNat v0)) 4 n (Int32.ofNat v1)) 5 n (Int32.ofNat v2)) 3 s) (hR H) ∧ zB ((upV (upV (upV (hV H) 3 n (Int32.ofNat v0)) 4 n (Int32.ofNat v1)) 5 n (Int32.ofNat v2)) 4 s) 61 ∧ (upV (upV (upV (hV H) 3 n (Int32.ofNat v0)) 4 n (Int32.ofNat v1)) 5 n (Int32.ofNat v2)) 4 s ≠ 0 ∧ zB ((upV (upV (upV (hV H) 3 n (Int32.ofNat v0)) 4 n (Int32.ofNat v1)) 5 n (Int32.ofNat v2)) 5 s) 10
          by_cases ex : s = n
          · subst ex
            rw [upV_n (a' := 3) (Or.inl (by decide)), upV_n (a' := 3) (Or.inl (by decide)), upV_i, upV_n (a' := 4) (Or.inl (by decide)), upV_i, upV_i]
            exact ⟨⟨v0, r0, rfl⟩, ⟨v1, by omega, rfl⟩, zl_ne (b := 0) (by omega) (by omega) (by decide), ⟨v2, by omega, rfl⟩⟩
          · rw [upV_n (a' := 3) (i' := s) (by omega), upV_n (a' := 3) (i' := s) (by omega), upV_n (a' := 3) (i' := s) (by omega), upV_n (a' := 4) (i' := s) (by omega), upV_n (a' := 4) (i' := s) (by omega), upV_n (a' := 4) (i' := s) (by omega), upV_n (a' := 5) (i' := s) (by omega), upV_n (a' := 5) (i' := s) (by omega), upV_n (a' := 5) (i' := s) (by omega)]
            exact o7 s (by rw [hn]; have : s < n + 1 := hs; omega)
        · show zB ((upV (upV (upV (hV H) 3 n (Int32.ofNat v0)) 4 n (Int32.ofNat v1)) 5 n (Int32.ofNat v2)) 6 c) (hR H) ∧ zB ((upV (upV (upV (hV H) 3 n (Int32.ofNat v0)) 4 n (Int32.ofNat v1)) 5 n (Int32.ofNat v2)) 7 c) 21
          rw [upV_n (a' := 6) (Or.inl (by decide)), upV_n (a' := 6) (Or.inl (by decide)), upV_n (a' := 6) (Or.inl (by decide)), upV_n (a' := 7) (Or.inl (by decide)), upV_n (a' := 7) (Or.inl (by decide)), upV_n (a' := 7) (Or.inl (by decide))]
          have hh := o8 c hc
          exact hh
      · refine ⟨⟨by rw [fs 12 0 (by omega) (by omega) (by omega) (by omega) (by omega)]; exact dxR, by rw [fs 12 1 (by omega) (by omega) (by omega) (by omega) (by omega)]; exact dxW, ?_, by rw [fs 12 3 (by omega) (by omega) (by omega) (by omega) (by omega)]; exact dxC⟩, fun r hr => ?_, fun w hw => ?_, fun s hs => ?_, fun c hc => ?_⟩
        · show s8 12 2 = Int32.ofNat (n + 1)
          rw [fx8.1 12 (by decide), hs_at]
        · show s8 13 r = (upV (upV (upV (hV H) 3 n (Int32.ofNat v0)) 4 n (Int32.ofNat v1)) 5 n (Int32.ofNat v2)) 0 r
          rw [upV_n (a' := 0) (Or.inl (by decide)), upV_n (a' := 0) (Or.inl (by decide)), upV_n (a' := 0) (Or.inl (by decide)), fs 13 r (by omega) (by omega) (by omega) (by omega) (by omega)]
          exact dx1 r hr
        · show s8 14 w = (upV (upV (upV (hV H) 3 n (Int32.ofNat v0)) 4 n (Int32.ofNat v1)) 5 n (Int32.ofNat v2)) 1 w ∧ s8 15 w = (upV (upV (upV (hV H) 3 n (Int32.ofNat v0)) 4 n (Int32.ofNat v1)) 5 n (Int32.ofNat v2)) 2 w
          rw [upV_n (a' := 1) (Or.inl (by decide)), upV_n (a' := 1) (Or.inl (by decide)), upV_n (a' := 1) (Or.inl (by decide)), fs 14 w (by omega) (by omega) (by omega) (by omega) (by omega), upV_n (a' := 2) (Or.inl (by decide)), upV_n (a' := 2) (Or.inl (by decide)), upV_n (a' := 2) (Or.inl (by decide)), fs 15 w (by omega) (by omega) (by omega) (by omega) (by omega)]
          exact dx2 w hw
        · show s8 16 s = (upV (upV (upV (hV H) 3 n (Int32.ofNat v0)) 4 n (Int32.ofNat v1)) 5 n (Int32.ofNat v2)) 3 s ∧ s8 17 s = (upV (upV (upV (hV H) 3 n (Int32.ofNat v0)) 4 n (Int32.ofNat v1)) 5 n (Int32.ofNat v2)) 4 s ∧ s8 18 s = (upV (upV (upV (hV H) 3 n (Int32.ofNat v0)) 4 n (Int32.ofNat v1)) 5 n (Int32.ofNat v2)) 5 s
          by_cases ex : s = n
          · subst ex
            have z3 : s8 16 s = Int32.ofNat v0 := by rw [fx8.1 16 (by decide), hs_ne (by omega), hs_ne (by omega), fx2.1 16 (by decide), hs_ne (by omega), fx1.1 16 (by decide), hs_at]
            have z4 : s8 17 s = Int32.ofNat v1 := by rw [fx8.1 17 (by decide), hs_ne (by omega), hs_ne (by omega), fx2.1 17 (by decide), hs_at]
            have z5 : s8 18 s = Int32.ofNat v2 := by rw [fx8.1 18 (by decide), hs_ne (by omega), hs_at]
            rw [upV_n (a' := 3) (Or.inl (by decide)), upV_n (a' := 3) (Or.inl (by decide)), upV_i, upV_n (a' := 4) (Or.inl (by decide)), upV_i, upV_i]
            exact ⟨z3, z4, z5⟩
          · rw [upV_n (a' := 3) (i' := s) (by omega), upV_n (a' := 3) (i' := s) (by omega), upV_n (a' := 3) (i' := s) (by omega), fs 16 s (by omega) (by omega) (by omega) (by omega) (by omega), upV_n (a' := 4) (i' := s) (by omega), upV_n (a' := 4) (i' := s) (by omega), upV_n (a' := 4) (i' := s) (by omega), fs 17 s (by omega) (by omega) (by omega) (by omega) (by omega), upV_n (a' := 5) (i' := s) (by omega), upV_n (a' := 5) (i' := s) (by omega), upV_n (a' := 5) (i' := s) (by omega), fs 18 s (by omega) (by omega) (by omega) (by omega) (by omega)]
            exact dx3 s (by rw [hn]; have : s < n + 1 := hs; omega)
        · show s8 19 c = (upV (upV (upV (hV H) 3 n (Int32.ofNat v0)) 4 n (Int32.ofNat v1)) 5 n (Int32.ofNat v2)) 6 c ∧ s8 20 c = (upV (upV (upV (hV H) 3 n (Int32.ofNat v0)) 4 n (Int32.ofNat v1)) 5 n (Int32.ofNat v2)) 7 c
          rw [upV_n (a' := 6) (Or.inl (by decide)), upV_n (a' := 6) (Or.inl (by decide)), upV_n (a' := 6) (Or.inl (by decide)), fs 19 c (by omega) (by omega) (by omega) (by omega) (by omega), upV_n (a' := 7) (Or.inl (by decide)), upV_n (a' := 7) (Or.inl (by decide)), upV_n (a' := 7) (Or.inl (by decide)), fs 20 c (by omega) (by omega) (by omega) (by omega) (by omega)]
          exact dx4 c hc
      · refine ⟨⟨by rw [hs_ne (by omega), ft 55 0 (by omega) (by omega)]; exact dmR, by rw [hs_ne (by omega), ft 55 1 (by omega) (by omega)]; exact dmW, ?_, by rw [hs_ne (by omega), ft 55 3 (by omega) (by omega)]; exact dmC⟩, fun r hr => ?_, fun w hw => ?_, fun s hs => ?_, fun c hc => ?_⟩
        · show hp_s t8 55 2 (Int32.ofNat n + (if k8 = 0 then 1 else 0)) 55 2 = Int32.ofNat (n + 1)
          rw [hs_at, if_pos ck, zi_succ]
        · show hp_s t8 55 2 (Int32.ofNat n + (if k8 = 0 then 1 else 0)) (58 + (0 + r)) 0 = (upV (upV (upV (hV H) 3 n (Int32.ofNat v0)) 4 n (Int32.ofNat v1)) 5 n (Int32.ofNat v2)) 0 r
          have hx : r < hR H := hr
          rw [upV_n (a' := 0) (Or.inl (by decide)), upV_n (a' := 0) (Or.inl (by decide)), upV_n (a' := 0) (Or.inl (by decide)), hs_ne (a := 58 + (0 + r)) (b := 0) (by omega), ft (58 + (0 + r)) 0 (by omega) (by omega)]
          exact dm1 r hr
        · show hp_s t8 55 2 (Int32.ofNat n + (if k8 = 0 then 1 else 0)) (58 + (12 + w)) 0 = (upV (upV (upV (hV H) 3 n (Int32.ofNat v0)) 4 n (Int32.ofNat v1)) 5 n (Int32.ofNat v2)) 1 w ∧ hp_s t8 55 2 (Int32.ofNat n + (if k8 = 0 then 1 else 0)) (58 + (12 + w)) 1 = (upV (upV (upV (hV H) 3 n (Int32.ofNat v0)) 4 n (Int32.ofNat v1)) 5 n (Int32.ofNat v2)) 2 w
          have hx : w < hW H := hw
          rw [upV_n (a' := 1) (Or.inl (by decide)), upV_n (a' := 1) (Or.inl (by decide)), upV_n (a' := 1) (Or.inl (by decide)), hs_ne (a := 58 + (12 + w)) (b := 0) (by omega), ft (58 + (12 + w)) 0 (by omega) (by omega), upV_n (a' := 2) (Or.inl (by decide)), upV_n (a' := 2) (Or.inl (by decide)), upV_n (a' := 2) (Or.inl (by decide)), hs_ne (a := 58 + (12 + w)) (b := 1) (by omega), ft (58 + (12 + w)) 1 (by omega) (by omega)]
          exact dm2 w hw
        · show hp_s t8 55 2 (Int32.ofNat n + (if k8 = 0 then 1 else 0)) (58 + (24 + s)) 0 = (upV (upV (upV (hV H) 3 n (Int32.ofNat v0)) 4 n (Int32.ofNat v1)) 5 n (Int32.ofNat v2)) 3 s ∧ hp_s t8 55 2 (Int32.ofNat n + (if k8 = 0 then 1 else 0)) (58 + (24 + s)) 1 = (upV (upV (upV (hV H) 3 n (Int32.ofNat v0)) 4 n (Int32.ofNat v1)) 5 n (Int32.ofNat v2)) 4 s ∧ hp_s t8 55 2 (Int32.ofNat n + (if k8 = 0 then 1 else 0)) (58 + (24 + s)) 2 = (upV (upV (upV (hV H) 3 n (Int32.ofNat v0)) 4 n (Int32.ofNat v1)) 5 n (Int32.ofNat v2)) 5 s
          have hx : s < n + 1 := hs
          by_cases ex : s = n
          · subst ex
            have z3 : hp_s t8 55 2 (Int32.ofNat s + (if k8 = 0 then 1 else 0)) (58 + (24 + s)) 0 = Int32.ofNat v0 := by rw [hs_ne (by omega), fm8.1 _ (by omega), hs_ne (by omega), fm2.1 _ (by omega), hs_ne (by omega), fm1.1 _ (by omega), hs_at, if_pos ck0]
            have z4 : hp_s t8 55 2 (Int32.ofNat s + (if k8 = 0 then 1 else 0)) (58 + (24 + s)) 1 = Int32.ofNat v1 := by rw [hs_ne (by omega), fm8.1 _ (by omega), hs_ne (by omega), fm2.1 _ (by omega), hs_at, if_pos ck1]
            have z5 : hp_s t8 55 2 (Int32.ofNat s + (if k8 = 0 then 1 else 0)) (58 + (24 + s)) 2 = Int32.ofNat v2 := by rw [hs_ne (by omega), fm8.1 _ (by omega), hs_at, if_pos ck2]
            rw [upV_n (a' := 3) (Or.inl (by decide)), upV_n (a' := 3) (Or.inl (by decide)), upV_i, upV_n (a' := 4) (Or.inl (by decide)), upV_i, upV_i]
            exact ⟨z3, z4, z5⟩
          · rw [upV_n (a' := 3) (i' := s) (by omega), upV_n (a' := 3) (i' := s) (by omega), upV_n (a' := 3) (i' := s) (by omega), hs_ne (a := 58 + (24 + s)) (b := 0) (by omega), ft (58 + (24 + s)) 0 (by omega) (by omega), upV_n (a' := 4) (i' := s) (by omega), upV_n (a' := 4) (i' := s) (by omega), upV_n (a' := 4) (i' := s) (by omega), hs_ne (a := 58 + (24 + s)) (b := 1) (by omega), ft (58 + (24 + s)) 1 (by omega) (by omega), upV_n (a' := 5) (i' := s) (by omega), upV_n (a' := 5) (i' := s) (by omega), upV_n (a' := 5) (i' := s) (by omega), hs_ne (a := 58 + (24 + s)) (b := 2) (by omega), ft (58 + (24 + s)) 2 (by omega) (by omega)]
            exact dm3 s (by rw [hn]; omega)
        · show hp_s t8 55 2 (Int32.ofNat n + (if k8 = 0 then 1 else 0)) (58 + (36 + c)) 0 = (upV (upV (upV (hV H) 3 n (Int32.ofNat v0)) 4 n (Int32.ofNat v1)) 5 n (Int32.ofNat v2)) 6 c ∧ hp_s t8 55 2 (Int32.ofNat n + (if k8 = 0 then 1 else 0)) (58 + (36 + c)) 1 = (upV (upV (upV (hV H) 3 n (Int32.ofNat v0)) 4 n (Int32.ofNat v1)) 5 n (Int32.ofNat v2)) 7 c
          have hx : c < hC H := hc
          rw [upV_n (a' := 6) (Or.inl (by decide)), upV_n (a' := 6) (Or.inl (by decide)), upV_n (a' := 6) (Or.inl (by decide)), hs_ne (a := 58 + (36 + c)) (b := 0) (by omega), ft (58 + (36 + c)) 0 (by omega) (by omega), upV_n (a' := 7) (Or.inl (by decide)), upV_n (a' := 7) (Or.inl (by decide)), upV_n (a' := 7) (Or.inl (by decide)), hs_ne (a := 58 + (36 + c)) (b := 1) (by omega), ft (58 + (36 + c)) 1 (by omega) (by omega)]
          exact dm4 c hc
      · rw [hs_ne (by omega), fm8.2 7 (by decide) (by decide) (by decide), hs_ne (by omega), fm2.2 7 (by decide) (by decide) (by decide), hs_ne (by omega), fm1.2 7 (by decide) (by decide) (by decide), hs_ne (by omega), fm0.2 7 (by decide) (by decide) (by decide), hs_at]
        congr 1
        show tot H + 1 = hR H + hW H + (n + 1) + hC H
        unfold tot; omega
      · show hR H + hW H + (n + 1) + hC H = tot H + 1
        unfold tot; omega
theorem b_cat (te : TE X) (x2 : XT X s (sk X (p + [99, 97, 116].length)) 0 (-1)) (m2 : MT X t2 p 0 (-1)) (g : wdB X p 0 [99, 97, 116] = true) (ok : HOK H) (dx : DX s H) (dm : DM t2 H) (h7 : t2 52 7 = Int32.ofNat (tot H)) (hk : fn_M_kindHere 52 t = some (3, t2)) : ∃ s3 s' t', fn_House_readCat 12 1 (Int32.ofNat p) s = some s3 ∧ fn_Tape_expect 1 (59 : Int32) s3 = some s' ∧ fn_M_clause 52 t = some t' ∧ CL X s t2 p H s' t' := by
  obtain ⟨o1, o2, o3, o4, o5, o6, o7, o8⟩ := ok
  have htot : tot H ≤ 33 := by unfold tot; omega
  obtain ⟨⟨dxR, dxW, dxS, dxC⟩, dx1, dx2, dx3, dx4⟩ := dx
  obtain ⟨⟨dmR, dmW, dmS, dmC⟩, dm1, dm2, dm3, dm4⟩ := dm
  have hnn : hC H = hC H := rfl
  generalize hn : hC H = n at hnn
  rw [hn] at dxC dmC o4
  have ert : t2 55 3 = Int32.ofNat n := dmC
  have emo : fn_M_mostOf (3 : Int32) = some 5 := by decide +kernel
  unfold fn_House_readCat fn_M_clause
  rw [hk, e_b2, e_let, e_jn, if_neg (show ¬ (3 : Int32) = -1 from by decide), e_jn, h7, if_neg (show ¬ Int32.ofNat (tot H) = 60 from zl_ne (b := 60) (by omega) (by omega) (by decide)), sm_11, show px_ald t2 55 (3 : Int32) = some (t2 55 3) from rd_55 (by decide), ert, e_bd, emo, e_bd, dxC]
  by_cases cM : n = 5
  · obtain ⟨s3, a1, a2, a3⟩ := c_fail0 x2 (kd := 3) (by decide) (Int32.ofNat p)
    obtain ⟨t3, b1, b2, b3⟩ := m_wrong0 m2 (kd := 3) (by decide) (Int32.ofNat p)
    obtain ⟨s4, d1, d2, d3⟩ := c_noexp te a2 (by decide) (c := 59) (by decide)
    refine ⟨s3, s4, t3, ?_, d1, ?_, _, _, 3, _, ⟨d2, b2, fun e => (by cases e), fun e => (by cases e)⟩, (a3.trans d3).g, b3.g, fun e => (by cases e)⟩
    · rw [if_pos (show (5 : Int32) ≤ Int32.ofNat n from zl_le (a := 5) (by omega) (by omega)), show fn_Tape_fail 1 (3 : Int32) (Int32.ofNat p) s = some s3 from a1, e_bd]
    · rw [if_pos (by rw [cM]; rfl), m2.1.2.1, show fn_M_wrong 52 (3 : Int32) (Int32.ofNat p) t2 = some t3 from b1, e_bd]
      try dsimp only
      rw [b2.1.2.2.1, if_neg (show ¬ Int32.ofNat 3 = 0 from by decide)]
  · rw [if_neg (show ¬ (5 : Int32) ≤ Int32.ofNat n from zl_nle (a := 5) (by omega) (by decide)), if_neg (show ¬ Int32.ofNat n = 5 from zl_ne (b := 5) cM (by omega) (by decide))]
    try dsimp only
    rw [m2.1.2.2.1, if_pos (show Int32.ofNat 0 = 0 from rfl)]
    obtain ⟨t3, y1, y2, y3, y4⟩ := b_skip te x2 m2 w_cat g
    have e7 : t3 52 7 + 1 = Int32.ofNat (tot H + 1) := by rw [y3.2 7 (by decide) (by decide) (by decide), h7, zi_succ]
    have b4 := y2.ws (j := 7) (x := Int32.ofNat (tot H + 1)) (by decide) (by decide) (by decide) (by decide)
    obtain ⟨a0, c0, v0, p0, q0, k0, pl0, n0, m0, h0, fx0, fm0, l0, hv0, hk0, -⟩ := b_num te b4 (0 : Int32) (Int32.ofNat (hR H) - 1)
    have w0 := h0.w (i := 19) (j := n) (a := 58 + (36 + n)) (b := 0) (v := Int32.ofNat v0) (x := if k0 = 0 then Int32.ofNat v0 else 0) (by decide) (by decide) (by omega) (by omega)
    obtain ⟨a1, c1, v1, p1, q1, k1, pl1, n1, m1, h1, fx1, fm1, l1, hv1, hk1, -⟩ := b_num te w0 (0 : Int32) (20 : Int32)
    have w1 := h1.w (i := 20) (j := n) (a := 58 + (36 + n)) (b := 1) (v := Int32.ofNat v1) (x := if k1 = 0 then Int32.ofNat v1 else 0) (by decide) (by decide) (by omega) (by omega)
    have ecn : (hp_s a1 20 n (Int32.ofNat v1)) 12 3 + 1 = Int32.ofNat (n + 1) := by rw [hs_ne (by omega), fx1.1 12 (by omega), hs_ne (by omega), fx0.1 12 (by omega), dxC, zi_succ]
    have wc := w1.wx (i := 12) (j := 3) (v := Int32.ofNat (n + 1)) (by decide) (by decide)
    obtain ⟨s8, t8, p8, q8, k8, pl8, g1, g2, h8, fx8, fm8, hk8, -⟩ := b_sign te wc (c := 59) (by decide)
    have e8t : t8 55 3 = Int32.ofNat n := by rw [fm8.1 55 (by omega), hs_ne (by omega), fm1.1 55 (by omega), hs_ne (by omega), fm0.1 55 (by omega), hs_ne (by omega), y3.1 55 (by omega)]; exact ert
    have ft : ∀ i j, i ≠ 52 → i ≠ (58 + (36 + n)) → t8 i j = t2 i j := fun i j u1 u2 => by rw [fm8.1 i (by omega), hs_ne (by omega), fm1.1 i (by omega), hs_ne (by omega), fm0.1 i (by omega), hs_ne (by omega), y3.1 i (by omega)]
    have fs : ∀ i j, i ≠ 1 → ¬ (i = 12 ∧ j = 3) → ¬ (i = 19 ∧ j = n) → ¬ (i = 20 ∧ j = n) → s8 i j = s i j := fun i j u1 u2 u3 u4 => by rw [fx8.1 i (by omega), hs_ne (by omega), hs_ne (by omega), fx1.1 i (by omega), hs_ne (by omega), fx0.1 i (by omega)]
    refine ⟨(hp_s (hp_s a1 20 n (Int32.ofNat v1)) 12 3 (Int32.ofNat (n + 1))), s8, hp_s t8 55 3 (Int32.ofNat n + (if k8 = 0 then 1 else 0)), ?_, g1, ?_, p8, q8, k8, pl8, h8.wm (by decide) (by decide), ?_, ?_, fun ck => ?_⟩
    · rw [dxR, n0, e_b2, hf_10, zi_ast (show n < sh_ln 19 by rw [hn_19]; omega) (by omega), e_bd, n1, e_b2, hf_11, show hp_s a0 19 n (Int32.ofNat v0) 12 3 = Int32.ofNat n from by rw [hs_ne (by omega), fx0.1 12 (by omega)]; exact dxC, zi_ast (show n < sh_ln 20 by rw [hn_20]; omega) (by omega), e_bd, e_let, ecn]
    · rw [y1, e_bd, e_let, e7, show px_ald (hp_s t3 52 7 (Int32.ofNat (tot H + 1))) 55 (3 : Int32) = some (Int32.ofNat n) from by rw [show px_ald (hp_s t3 52 7 (Int32.ofNat (tot H + 1))) 55 (3 : Int32) = some _ from rd_55 (k := 3) (by decide), hs_ne (by omega), y3.1 55 (by decide), ert], e_bd, show fn_M_placeOf (3 : Int32) (Int32.ofNat n) = some (Int32.ofNat (36 + n)) from by unfold fn_M_placeOf; rw [show (12 : Int32) * 3 = Int32.ofNat 36 from by decide, zi_add], e_bd, sm_13, zi_rld (show 36 + n < sh_ln 57 by rw [hn_57]; omega) (by omega), e_bd, hf_57, e_jn, if_neg (show ¬ (3 : Int32) = 0 from by decide), show px_ald (hp_s t3 52 7 (Int32.ofNat (tot H + 1))) 55 (0 : Int32) = some (Int32.ofNat (hR H)) from by rw [show px_ald (hp_s t3 52 7 (Int32.ofNat (tot H + 1))) 55 (0 : Int32) = some _ from rd_55 (k := 0) (by decide), hs_ne (by omega), y3.1 55 (by decide), dmR], e_bd]
      try dsimp only
      rw [m0, e_b2, show ∀ (f : hp_I) (x : Int32), px_ast f (58 + (36 + n)) (0 : Int32) x = some (hp_s f (58 + (36 + n)) 0 x) from fun f x => wr_58 (j := 0) (by omega) (by decide), e_bd, e_jn, if_neg (show ¬ (3 : Int32) = 1 from by decide)]
      try dsimp only
      rw [e_jn, if_neg (show ¬ (3 : Int32) = 2 from by decide)]
      try dsimp only
      rw [e_jn, if_pos (show (3 : Int32) = 3 from rfl), m1, e_b2, show ∀ (f : hp_I) (x : Int32), px_ast f (58 + (36 + n)) (1 : Int32) x = some (hp_s f (58 + (36 + n)) 1 x) from fun f x => wr_58 (j := 1) (by omega) (by decide), e_bd]
      try dsimp only
      rw [show fn_M_sign 52 (59 : Int32) _ = some t8 from g2, e_bd, show px_ald t8 55 (3 : Int32) = some (t8 55 3) from rd_55 (k := 3) (by decide), e8t, e_bd, e_jn, h8.2.1.1.2.2.1]
      by_cases ck : k8 = 0
      · rw [if_pos ((k_0 h8.2.1.2.2.1).mpr ck), if_pos ck]
        try dsimp only
        rw [show px_ast t8 55 (3 : Int32) (Int32.ofNat n + 1) = _ from wr_55 (k := 3) (by decide), e_bd]
      · rw [if_neg (fun e => ck ((k_0 h8.2.1.2.2.1).mp e)), if_neg ck]
        try dsimp only
        rw [show px_ast t8 55 (3 : Int32) (Int32.ofNat n + 0) = _ from wr_55 (k := 3) (by decide), e_bd]
    · refine ⟨fun i u1 u2 => funext fun j => fs i j u1 (by unfold hsP at u2; omega) (by unfold hsP at u2; omega) (by unfold hsP at u2; omega), ?_⟩
      rw [fx8.2, hs_ne (by omega), hs_ne (by omega), fx1.2, hs_ne (by omega), fx0.2]
    · refine ⟨fun i u1 u2 => funext fun j => ?_, fun j u1 u2 u3 u4 => ?_⟩
      · unfold hmP at u2
        rw [hs_ne (by omega)]
        exact ft i j u1 (by omega)
      · unfold hmJ at u4
        rw [hs_ne (by omega), fm8.2 j u1 u2 u3, hs_ne (by omega), fm1.2 j u1 u2 u3, hs_ne (by omega), fm0.2 j u1 u2 u3, hs_ne (by omega), y3.2 j u1 u2 u3]
    · have ck1 := (hk8 ck).1
      have ck0 := (hk1 ck1).1
      refine ⟨by have := y4; have := (hk0 ck0).2.2; have := (hk1 ck1).2.2; have := (hk8 ck).2; omega, ?_⟩
      refine ⟨(hR H, hW H, hS H, n + 1, (upV (upV (hV H) 6 n (Int32.ofNat v0)) 7 n (Int32.ofNat v1))), ?_, ?_, ?_, ?_, ?_⟩
      · have r0 : v0 < hR H := in_prd hv0 (by omega) (hk0 ck0).2.1
        have r1 := in_nat (a := 0) (b := 20) hv1 (by decide) (by decide) (hk1 ck1).2.1
        refine ⟨by show hR H ≤ 8; omega, by show hW H ≤ 12; omega, by show hS H ≤ 8; omega, by show n + 1 ≤ 5; omega, fun r hr => ?_, fun w hw => ?_, fun s hs => ?_, fun c hc => ?_⟩
        · show zB ((upV (upV (hV H) 6 n (Int32.ofNat v0)) 7 n (Int32.ofNat v1)) 0 r) 61
          rw [upV_n (a' := 0) (Or.inl (by decide)), upV_n (a' := 0) (Or.inl (by decide))]
          have hh := o5 r hr
          exact hh
        · show zB ((upV (upV (hV H) 6 n (Int32.ofNat v0)) 7 n (Int32.ofNat v1)) 1 w) (hR H) ∧ zB ((upV (upV (hV H) 6 n (Int32.ofNat v0)) 7 n (Int32.ofNat v1)) 2 w) (hR H) ∧ (upV (upV (hV H) 6 n (Int32.ofNat v0)) 7 n (Int32.ofNat v1)) 1 w ≠ (upV (upV (hV H) 6 n (Int32.ofNat v0)) 7 n (Int32.ofNat v1)) 2 w
          rw [upV_n (a' := 1) (Or.inl (by decide)), upV_n (a' := 1) (Or.inl (by decide)), upV_n (a' := 2) (Or.inl (by decide)), upV_n (a' := 2) (Or.inl (by decide))]
          have hh := o6 w hw
          exact hh
        · show zB ((upV (upV (hV H) 6 n (Int32.ofNat v0)) 7 n (Int32.ofNat v1)) 3 s) (hR H) ∧ zB ((upV (upV (hV H) 6 n (Int32.ofNat v0)) 7 n (Int32.ofNat v1)) 4 s) 61 ∧ (upV (upV (hV H) 6 n (Int32.ofNat v0)) 7 n (Int32.ofNat v1)) 4 s ≠ 0 ∧ zB ((upV (upV (hV H) 6 n (Int32.ofNat v0)) 7 n (Int32.ofNat v1)) 5 s) 10
          rw [upV_n (a' := 3) (Or.inl (by decide)), upV_n (a' := 3) (Or.inl (by decide)), upV_n (a' := 4) (Or.inl (by decide)), upV_n (a' := 4) (Or.inl (by decide)), upV_n (a' := 5) (Or.inl (by decide)), upV_n (a' := 5) (Or.inl (by decide))]
          have hh := o7 s hs
          exact hh
        · show zB ((upV (upV (hV H) 6 n (Int32.ofNat v0)) 7 n (Int32.ofNat v1)) 6 c) (hR H) ∧ zB ((upV (upV (hV H) 6 n (Int32.ofNat v0)) 7 n (Int32.ofNat v1)) 7 c) 21
          by_cases ex : c = n
          · subst ex
            rw [upV_n (a' := 6) (Or.inl (by decide)), upV_i, upV_i]
            exact ⟨⟨v0, r0, rfl⟩, ⟨v1, by omega, rfl⟩⟩
          · rw [upV_n (a' := 6) (i' := c) (by omega), upV_n (a' := 6) (i' := c) (by omega), upV_n (a' := 7) (i' := c) (by omega), upV_n (a' := 7) (i' := c) (by omega)]
            exact o8 c (by rw [hn]; have : c < n + 1 := hc; omega)
      · refine ⟨⟨by rw [fs 12 0 (by omega) (by omega) (by omega) (by omega)]; exact dxR, by rw [fs 12 1 (by omega) (by omega) (by omega) (by omega)]; exact dxW, by rw [fs 12 2 (by omega) (by omega) (by omega) (by omega)]; exact dxS, ?_⟩, fun r hr => ?_, fun w hw => ?_, fun s hs => ?_, fun c hc => ?_⟩
        · show s8 12 3 = Int32.ofNat (n + 1)
          rw [fx8.1 12 (by decide), hs_at]
        · show s8 13 r = (upV (upV (hV H) 6 n (Int32.ofNat v0)) 7 n (Int32.ofNat v1)) 0 r
          rw [upV_n (a' := 0) (Or.inl (by decide)), upV_n (a' := 0) (Or.inl (by decide)), fs 13 r (by omega) (by omega) (by omega) (by omega)]
          exact dx1 r hr
        · show s8 14 w = (upV (upV (hV H) 6 n (Int32.ofNat v0)) 7 n (Int32.ofNat v1)) 1 w ∧ s8 15 w = (upV (upV (hV H) 6 n (Int32.ofNat v0)) 7 n (Int32.ofNat v1)) 2 w
          rw [upV_n (a' := 1) (Or.inl (by decide)), upV_n (a' := 1) (Or.inl (by decide)), fs 14 w (by omega) (by omega) (by omega) (by omega), upV_n (a' := 2) (Or.inl (by decide)), upV_n (a' := 2) (Or.inl (by decide)), fs 15 w (by omega) (by omega) (by omega) (by omega)]
          exact dx2 w hw
        · show s8 16 s = (upV (upV (hV H) 6 n (Int32.ofNat v0)) 7 n (Int32.ofNat v1)) 3 s ∧ s8 17 s = (upV (upV (hV H) 6 n (Int32.ofNat v0)) 7 n (Int32.ofNat v1)) 4 s ∧ s8 18 s = (upV (upV (hV H) 6 n (Int32.ofNat v0)) 7 n (Int32.ofNat v1)) 5 s
          rw [upV_n (a' := 3) (Or.inl (by decide)), upV_n (a' := 3) (Or.inl (by decide)), fs 16 s (by omega) (by omega) (by omega) (by omega), upV_n (a' := 4) (Or.inl (by decide)), upV_n (a' := 4) (Or.inl (by decide)), fs 17 s (by omega) (by omega) (by omega) (by omega), upV_n (a' := 5) (Or.inl (by decide)), upV_n (a' := 5) (Or.inl (by decide)), fs 18 s (by omega) (by omega) (by omega) (by omega)]
          exact dx3 s hs
        · show s8 19 c = (upV (upV (hV H) 6 n (Int32.ofNat v0)) 7 n (Int32.ofNat v1)) 6 c ∧ s8 20 c = (upV (upV (hV H) 6 n (Int32.ofNat v0)) 7 n (Int32.ofNat v1)) 7 c
          by_cases ex : c = n
          · subst ex
            have z6 : s8 19 c = Int32.ofNat v0 := by rw [fx8.1 19 (by decide), hs_ne (by omega), hs_ne (by omega), fx1.1 19 (by decide), hs_at]
            have z7 : s8 20 c = Int32.ofNat v1 := by rw [fx8.1 20 (by decide), hs_ne (by omega), hs_at]
            rw [upV_n (a' := 6) (Or.inl (by decide)), upV_i, upV_i]
            exact ⟨z6, z7⟩
          · rw [upV_n (a' := 6) (i' := c) (by omega), upV_n (a' := 6) (i' := c) (by omega), fs 19 c (by omega) (by omega) (by omega) (by omega), upV_n (a' := 7) (i' := c) (by omega), upV_n (a' := 7) (i' := c) (by omega), fs 20 c (by omega) (by omega) (by omega) (by omega)]
            exact dx4 c (by rw [hn]; have : c < n + 1 := hc; omega)
      · refine ⟨⟨by rw [hs_ne (by omega), ft 55 0 (by omega) (by omega)]; exact dmR, by rw [hs_ne (by omega), ft 55 1 (by omega) (by omega)]; exact dmW, by rw [hs_ne (by omega), ft 55 2 (by omega) (by omega)]; exact dmS, ?_⟩, fun r hr => ?_, fun w hw => ?_, fun s hs => ?_, fun c hc => ?_⟩
        · show hp_s t8 55 3 (Int32.ofNat n + (if k8 = 0 then 1 else 0)) 55 3 = Int32.ofNat (n + 1)
          rw [hs_at, if_pos ck, zi_succ]
        · show hp_s t8 55 3 (Int32.ofNat n + (if k8 = 0 then 1 else 0)) (58 + (0 + r)) 0 = (upV (upV (hV H) 6 n (Int32.ofNat v0)) 7 n (Int32.ofNat v1)) 0 r
          have hx : r < hR H := hr
          rw [upV_n (a' := 0) (Or.inl (by decide)), upV_n (a' := 0) (Or.inl (by decide)), hs_ne (a := 58 + (0 + r)) (b := 0) (by omega), ft (58 + (0 + r)) 0 (by omega) (by omega)]
          exact dm1 r hr
        · show hp_s t8 55 3 (Int32.ofNat n + (if k8 = 0 then 1 else 0)) (58 + (12 + w)) 0 = (upV (upV (hV H) 6 n (Int32.ofNat v0)) 7 n (Int32.ofNat v1)) 1 w ∧ hp_s t8 55 3 (Int32.ofNat n + (if k8 = 0 then 1 else 0)) (58 + (12 + w)) 1 = (upV (upV (hV H) 6 n (Int32.ofNat v0)) 7 n (Int32.ofNat v1)) 2 w
          have hx : w < hW H := hw
          rw [upV_n (a' := 1) (Or.inl (by decide)), upV_n (a' := 1) (Or.inl (by decide)), hs_ne (a := 58 + (12 + w)) (b := 0) (by omega), ft (58 + (12 + w)) 0 (by omega) (by omega), upV_n (a' := 2) (Or.inl (by decide)), upV_n (a' := 2) (Or.inl (by decide)), hs_ne (a := 58 + (12 + w)) (b := 1) (by omega), ft (58 + (12 + w)) 1 (by omega) (by omega)]
          exact dm2 w hw
        · show hp_s t8 55 3 (Int32.ofNat n + (if k8 = 0 then 1 else 0)) (58 + (24 + s)) 0 = (upV (upV (hV H) 6 n (Int32.ofNat v0)) 7 n (Int32.ofNat v1)) 3 s ∧ hp_s t8 55 3 (Int32.ofNat n + (if k8 = 0 then 1 else 0)) (58 + (24 + s)) 1 = (upV (upV (hV H) 6 n (Int32.ofNat v0)) 7 n (Int32.ofNat v1)) 4 s ∧ hp_s t8 55 3 (Int32.ofNat n + (if k8 = 0 then 1 else 0)) (58 + (24 + s)) 2 = (upV (upV (hV H) 6 n (Int32.ofNat v0)) 7 n (Int32.ofNat v1)) 5 s
          have hx : s < hS H := hs
          rw [upV_n (a' := 3) (Or.inl (by decide)), upV_n (a' := 3) (Or.inl (by decide)), hs_ne (a := 58 + (24 + s)) (b := 0) (by omega), ft (58 + (24 + s)) 0 (by omega) (by omega), upV_n (a' := 4) (Or.inl (by decide)), upV_n (a' := 4) (Or.inl (by decide)), hs_ne (a := 58 + (24 + s)) (b := 1) (by omega), ft (58 + (24 + s)) 1 (by omega) (by omega), upV_n (a' := 5) (Or.inl (by decide)), upV_n (a' := 5) (Or.inl (by decide)), hs_ne (a := 58 + (24 + s)) (b := 2) (by omega), ft (58 + (24 + s)) 2 (by omega) (by omega)]
          exact dm3 s hs
        · show hp_s t8 55 3 (Int32.ofNat n + (if k8 = 0 then 1 else 0)) (58 + (36 + c)) 0 = (upV (upV (hV H) 6 n (Int32.ofNat v0)) 7 n (Int32.ofNat v1)) 6 c ∧ hp_s t8 55 3 (Int32.ofNat n + (if k8 = 0 then 1 else 0)) (58 + (36 + c)) 1 = (upV (upV (hV H) 6 n (Int32.ofNat v0)) 7 n (Int32.ofNat v1)) 7 c
          have hx : c < n + 1 := hc
          by_cases ex : c = n
          · subst ex
            have z6 : hp_s t8 55 3 (Int32.ofNat c + (if k8 = 0 then 1 else 0)) (58 + (36 + c)) 0 = Int32.ofNat v0 := by rw [hs_ne (by omega), fm8.1 _ (by omega), hs_ne (by omega), fm1.1 _ (by omega), hs_at, if_pos ck0]
            have z7 : hp_s t8 55 3 (Int32.ofNat c + (if k8 = 0 then 1 else 0)) (58 + (36 + c)) 1 = Int32.ofNat v1 := by rw [hs_ne (by omega), fm8.1 _ (by omega), hs_at, if_pos ck1]
            rw [upV_n (a' := 6) (Or.inl (by decide)), upV_i, upV_i]
            exact ⟨z6, z7⟩
          · rw [upV_n (a' := 6) (i' := c) (by omega), upV_n (a' := 6) (i' := c) (by omega), hs_ne (a := 58 + (36 + c)) (b := 0) (by omega), ft (58 + (36 + c)) 0 (by omega) (by omega), upV_n (a' := 7) (i' := c) (by omega), upV_n (a' := 7) (i' := c) (by omega), hs_ne (a := 58 + (36 + c)) (b := 1) (by omega), ft (58 + (36 + c)) 1 (by omega) (by omega)]
            exact dm4 c (by rw [hn]; omega)
      · rw [hs_ne (by omega), fm8.2 7 (by decide) (by decide) (by decide), hs_ne (by omega), fm1.2 7 (by decide) (by decide) (by decide), hs_ne (by omega), fm0.2 7 (by decide) (by decide) (by decide), hs_at]
        congr 1
        show tot H + 1 = hR H + hW H + hS H + (n + 1)
        unfold tot; omega
      · show hR H + hW H + hS H + (n + 1) = tot H + 1
        unfold tot; omega
end HC

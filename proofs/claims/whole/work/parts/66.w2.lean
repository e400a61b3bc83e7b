/-! IMAGES: the model's row of numbers -/
section PA
variable {σ s : hp_I} {b : Int32} {T c k p : Nat}
theorem ms_puts (hb : b = 0 ∨ b = 1) (hT : T ≠ 52) (hl : sh_ln T = 800) (hp : p < 800) (h34 : s 52 34 = Int32.ofNat p) (v : Int32) : ∃ s', fn_M_puts 52 T v b s = some (s' T p, s') ∧ s' 52 34 = Int32.ofNat (p + 1) ∧ (∀ j, j ≠ 34 → s' 52 j = s 52 j) ∧ (∀ i, i ≠ 52 → i ≠ T → s' i = s i) ∧ (∀ q, q ≠ p → s' T q = s T q) ∧ (b = 0 → s' T p = v) ∧ (b = 1 → s' T p = s T p) := by
  unfold fn_M_puts
  simp only [e_jn, e_let]
  rcases hb with rfl | rfl
  · rw [if_pos rfl, h34, zi_ast (by omega) (by omega), e_bd]
    have e1 : hp_s s T p v 52 34 = Int32.ofNat p := by rw [hp_s_n (by omega)]; exact h34
    rw [e1, zi_succ, show hp_s (hp_s s T p v) 52 34 (Int32.ofNat (p + 1)) 52 34 = Int32.ofNat (p + 1) from by rw [hp_s_i, upd_i], zi_sub1 (by omega), Nat.add_sub_cancel, zi_ald (by omega) (by omega), e_bd]
    refine ⟨_, rfl, by rw [hp_s_i, upd_i], fun j hj => ?_, fun i h1 h2 => ?_, fun q hq => ?_, fun _ => ?_, fun h => absurd h (by decide)⟩
    · rw [hp_s_i, upd_n hj, hp_s_n (by omega)]
    · rw [hp_s_n h1, hp_s_n h2]
    · rw [hp_s_n hT, hp_s_i, upd_n hq]
    · rw [hp_s_n hT, hp_s_i, upd_i]
  · rw [if_neg (by decide), h34, zi_succ, show hp_s s 52 34 (Int32.ofNat (p + 1)) 52 34 = Int32.ofNat (p + 1) from by rw [hp_s_i, upd_i], zi_sub1 (by omega), Nat.add_sub_cancel, zi_ald (by omega) (by omega), e_bd]
    refine ⟨_, rfl, by rw [hp_s_i, upd_i], fun j hj => ?_, fun i h1 h2 => ?_, fun q hq => ?_, fun h => absurd h (by decide), fun _ => ?_⟩
    · rw [hp_s_i, upd_n hj]
    · rw [hp_s_n h1]
    · rw [hp_s_n hT]
    · rw [hp_s_n hT]
theorem ms_put1 {β : Type} (J : hp_I → Option β) (hb : b = 0 ∨ b = 1) (hT : T ≠ 52) (hl : sh_ln T = 800) (hp : p < 800) (h34 : s 52 34 = Int32.ofNat p) (hc : c ≠ 52) (hcT : c ≠ T) (hk : k < sh_ln c) (hk2 : k < 2147483648) : ∃ s', (Option.bind (px_ald s c (Int32.ofNat k)) fun z6 => px_b2 (fn_M_puts 52 T z6 b s) fun z7 s8 => Option.bind (px_ast s8 c (Int32.ofNat k) z7) fun s9 => J s9) = J s' ∧ s' 52 34 = Int32.ofNat (p + 1) ∧ (∀ j, j ≠ 34 → s' 52 j = s 52 j) ∧ (∀ i, i ≠ 52 → i ≠ T → i ≠ c → s' i = s i) ∧ (∀ q, q ≠ p → s' T q = s T q) ∧ (∀ q, q ≠ k → s' c q = s c q) ∧ s' c k = s' T p ∧ (b = 0 → s' c k = s c k) ∧ (b = 1 → s' T p = s T p) := by
  obtain ⟨s1, g1, g2, g3, g4, g5, g6, g7⟩ := ms_puts hb hT hl hp h34 (s c k)
  refine ⟨hp_s s1 c k (s1 T p), ?_, ?_, fun j hj => ?_, fun i h1 h2 h3 => ?_, fun q hq => ?_, fun q hq => ?_, ?_, fun h => ?_, fun h => ?_⟩
  · rw [zi_ald hk hk2, e_bd, g1, e_b2, zi_ast hk hk2, e_bd]
  · rw [hp_s_n (by omega)]; exact g2
  · rw [hp_s_n (by omega)]; exact g3 j hj
  · rw [hp_s_n h3]; exact g4 i h1 h2
  · rw [hp_s_n (by omega)]; exact g5 q hq
  · rw [hp_s_i, upd_n hq, g4 c hc hcT]
  · rw [hp_s_i, upd_i, hp_s_n (by omega)]
  · rw [hp_s_i, upd_i, g6 h]
  · rw [hp_s_n (by omega)]; exact g7 h
/-- a row of 47 -/
def PR (b : Int32) (T c p0 : Nat) (σ : hp_I) (i : Nat) (s : hp_I) : Prop := s 52 34 = Int32.ofNat (p0 + i) ∧ (∀ j, j ≠ 34 → s 52 j = σ 52 j) ∧ (∀ i, i ≠ 52 → i ≠ T → i ≠ c → s i = σ i) ∧ (∀ q, (q < p0 ∨ p0 + i ≤ q) → s T q = σ T q) ∧ (∀ k, k < i → s c k = s T (p0 + k)) ∧ (b = 0 → ∀ k, s c k = σ c k) ∧ (b = 1 → ∀ q, s T q = σ T q)
theorem PR.next {p0 i : Nat} {s' : hp_I} (h : PR b T c p0 σ i s) (hcT : c ≠ T) (k1 : s' 52 34 = Int32.ofNat (p0 + i + 1)) (k2 : ∀ j, j ≠ 34 → s' 52 j = s 52 j) (k3 : ∀ i, i ≠ 52 → i ≠ T → i ≠ c → s' i = s i) (k4 : ∀ q, q ≠ p0 + i → s' T q = s T q) (k5 : ∀ q, q ≠ i → s' c q = s c q) (k6 : s' c i = s' T (p0 + i)) (k7 : b = 0 → s' c i = s c i) (k8 : b = 1 → s' T (p0 + i) = s T (p0 + i)) : PR b T c p0 σ (i + 1) s' := by
  obtain ⟨h1, h2, h3, h4, h5, h6, h7⟩ := h
  refine ⟨k1, fun j hj => (k2 j hj).trans (h2 j hj), fun j a1 a2 a3 => (k3 j a1 a2 a3).trans (h3 j a1 a2 a3), fun q hq => ?_, fun k hk => ?_, fun hb k => ?_, fun hb q => ?_⟩
  · rw [k4 q (by omega)]; exact h4 q (by omega)
  · by_cases e : k = i
    · rw [e]; exact k6
    · rw [k5 k e, k4 _ (by omega)]; exact h5 k (by omega)
  · by_cases e : k = i
    · rw [e, k7 hb]; exact h6 hb i
    · rw [k5 k e]; exact h6 hb k
  · by_cases e : q = p0 + i
    · rw [e, k8 hb]; exact h7 hb _
    · rw [k4 q e]; exact h7 hb q
theorem pr_0 {p0 : Nat} (h : σ 52 34 = Int32.ofNat p0) : PR b T c p0 σ 0 σ := ⟨by rw [Nat.add_zero]; exact h, fun _ _ => rfl, fun _ _ _ _ => rfl, fun _ _ => rfl, fun k hk => absurd hk (Nat.not_lt_zero _), fun _ _ => rfl, fun _ _ => rfl⟩
theorem ms_now (hb : b = 0 ∨ b = 1) (hT : T ≠ 52) (hT2 : T ≠ 572) (hl : sh_ln T = 800) (h572 : sh_ln 572 = 47) (h : σ 52 34 = Int32.ofNat 1) (K : hp_I → Option hp_I) : ∃ s, fn_M_putsAll_L21 52 T b K FU 0 σ = K s ∧ PR b T 572 1 σ 47 s := by
  refine Exists.elim (zL_R0 (L := fun fu s i => fn_M_putsAll_L21 52 T b K fu i s) (k := K) (N := 47) (fun _ (u : Unit) => u) (fun i s _ => PR b T 572 1 σ i s) (by decide) (fun fu s u h => ?_) (fun fu i s u hi h => ?_) σ () (pr_0 h)) (fun s hs => ⟨s, hs.1, hs.2⟩)
  · try dsimp only
    rw [fn_M_putsAll_L21, if_neg (by decide)]
  · try dsimp only
    rw [fn_M_putsAll_L21, if_pos (show Int32.ofNat i < 47 from zl_lt (b := 47) hi (by decide)), sm_25]
    simp only [e_let, zi_succ]
    obtain ⟨s', k0, k1, k2, k3, k4, k5, k6, k7, k8⟩ := ms_put1 (fun s9 => fn_M_putsAll_L21 52 T b K fu (Int32.ofNat (i + 1)) s9) hb hT hl (p := 1 + i) (by omega) h.1 (c := 572) (k := i) (by decide) (by omega) (by omega) (by omega)
    exact ⟨s', k0, h.next (by omega) k1 k2 k3 k4 k5 k6 k7 k8⟩
theorem ms_bef (hb : b = 0 ∨ b = 1) (hT : 592 < T) (hl : sh_ln T = 800) {w : Nat} (hw : w < 16) (h : σ 52 34 = Int32.ofNat (48 + 47 * w)) (K : hp_I → Option hp_I) : ∃ s, fn_M_putsAll_L62 52 T b (Int32.ofNat w) K FU 0 σ = K s ∧ PR b T (576 + w) (48 + 47 * w) σ 47 s := by
  refine Exists.elim (zL_R0 (L := fun fu s i => fn_M_putsAll_L62 52 T b (Int32.ofNat w) K fu i s) (k := K) (N := 47) (fun _ (u : Unit) => u) (fun i s _ => PR b T (576 + w) (48 + 47 * w) σ i s) (by decide) (fun fu s u h => ?_) (fun fu i s u hi h => ?_) σ () (pr_0 h)) (fun s hs => ⟨s, hs.1, hs.2⟩)
  · try dsimp only
    rw [fn_M_putsAll_L62, if_neg (by decide)]
  · try dsimp only
    rw [fn_M_putsAll_L62, if_pos (show Int32.ofNat i < 47 from zl_lt (b := 47) hi (by decide)), sm_28, zi_rld (by rw [wn_575]; omega) (by omega), e_bd, e_bd, wf_575]
    simp only [e_let, zi_succ]
    have h47 := wn_576 w hw
    obtain ⟨s', k0, k1, k2, k3, k4, k5, k6, k7, k8⟩ := ms_put1 (fun s9 => fn_M_putsAll_L62 52 T b (Int32.ofNat w) K fu (Int32.ofNat (i + 1)) s9) hb (by omega) hl (p := 48 + 47 * w + i) (by omega) h.1 (c := 576 + w) (k := i) (by omega) (by omega) (by omega) (by omega)
    exact ⟨s', k0, h.next (by omega) k1 k2 k3 k4 k5 k6 k7 k8⟩
def PW (b : Int32) (T : Nat) (σ : hp_I) (n : Nat) (s : hp_I) : Prop := s 52 34 = Int32.ofNat (48 + 47 * n) ∧ (∀ j, j ≠ 34 → s 52 j = σ 52 j) ∧ (∀ i, i ≠ 52 → i ≠ T → (i < 576 ∨ 592 ≤ i) → s i = σ i) ∧ (∀ q, (q < 48 ∨ 48 + 47 * n ≤ q) → s T q = σ T q) ∧ (∀ w, w < n → ∀ k, k < 47 → s (576 + w) k = s T (48 + 47 * w + k)) ∧ (b = 0 → ∀ w, w < 16 → ∀ k, s (576 + w) k = σ (576 + w) k) ∧ (b = 1 → ∀ q, s T q = σ T q)
theorem ms_befs (hb : b = 0 ∨ b = 1) (hT : 592 < T) (hl : sh_ln T = 800) (h : σ 52 34 = Int32.ofNat 48) (K : hp_I → Option hp_I) : ∃ s, fn_M_putsAll_L53 52 T b K FU 0 σ = K s ∧ PW b T σ 16 s := by
  refine Exists.elim (zL_R0 (L := fun fu s i => fn_M_putsAll_L53 52 T b K fu i s) (k := K) (N := 16) (fun _ (u : Unit) => u) (fun i s _ => PW b T σ i s) (by decide) (fun fu s u h => ?_) (fun fu i s u hi h => ?_) σ () ⟨h, fun _ _ => rfl, fun _ _ _ _ => rfl, fun _ _ => rfl, fun w hw => absurd hw (Nat.not_lt_zero _), fun _ _ _ _ => rfl, fun _ _ => rfl⟩) (fun s hs => ⟨s, hs.1, hs.2⟩)
  · try dsimp only
    rw [fn_M_putsAll_L53, if_neg (by decide)]
  · try dsimp only
    rw [fn_M_putsAll_L53, if_pos (show Int32.ofNat i < 16 from zl_lt (b := 16) hi (by decide)), e_let]
    simp only [e_let, zi_succ]
    obtain ⟨h1, h2, h3, h4, h5, h6, h7⟩ := h
    obtain ⟨s', k0, k1, k2, k3, k4, k5, k6, k7⟩ := ms_bef hb hT hl hi h1 (fun s_21 => fn_M_putsAll_L53 52 T b K fu (Int32.ofNat (i + 1)) s_21)
    refine ⟨s', k0, ?_, fun j hj => (k2 j hj).trans (h2 j hj), fun j a1 a2 a3 => (k3 j a1 a2 (by omega)).trans (h3 j a1 a2 a3), fun q hq => ?_, fun w hw k hk => ?_, fun hb0 w hw k => ?_, fun hb1 q => (k7 hb1 q).trans (h7 hb1 q)⟩
    · rw [k1, show 48 + 47 * i + 47 = 48 + 47 * (i + 1) from by omega]
    · rw [k4 q (by omega)]; exact h4 q (by omega)
    · by_cases e : w = i
      · rw [e]; exact k5 k hk
      · rw [k3 (576 + w) (by omega) (by omega) (by omega), k4 _ (by omega)]
        exact h5 w (by omega) k hk
    · by_cases e : w = i
      · rw [e, k6 hb0 k]; exact h6 hb0 i (by omega) k
      · rw [k3 (576 + w) (by omega) (by omega) (by omega)]; exact h6 hb0 w hw k
theorem ms_putsAll (hb : b = 0 ∨ b = 1) (hT : 592 < T) (hl : sh_ln T = 800) (h572 : sh_ln 572 = 47) : ∃ s, fn_M_putsAll 52 T b σ = some s ∧ (∀ j, j ≠ 34 → j ≠ 31 → s 52 j = σ 52 j) ∧ (∀ i, i ≠ 52 → i ≠ T → i ≠ 572 → (i < 576 ∨ 592 ≤ i) → s i = σ i) ∧ s 52 31 = s T 0 ∧ (∀ k, k < 47 → s 572 k = s T (1 + k)) ∧ (∀ w, w < 16 → ∀ k, k < 47 → s (576 + w) k = s T (48 + 47 * w + k)) ∧ (b = 0 → s 52 31 = σ 52 31 ∧ (∀ k, s 572 k = σ 572 k) ∧ ∀ w, w < 16 → ∀ k, s (576 + w) k = σ (576 + w) k) ∧ (b = 1 → ∀ q, s T q = σ T q) := by
  unfold fn_M_putsAll
  simp only [e_let]
  obtain ⟨s1, g1, g2, g3, g4, g5, g6, g7⟩ := ms_puts (s := hp_s σ 52 34 0) hb (by omega) hl (p := 0) (by decide) (by rw [hp_s_i, upd_i]; rfl) (hp_s σ 52 34 0 52 31)
  rw [g1, e_b2]
  have e34 : hp_s s1 52 31 (s1 T 0) 52 34 = Int32.ofNat 1 := by rw [hp_s_i, upd_n (by decide)]; exact g2
  have e31 : hp_s s1 52 31 (s1 T 0) 52 31 = s1 T 0 := by rw [hp_s_i, upd_i]
  have ej : ∀ j, j ≠ 34 → j ≠ 31 → hp_s s1 52 31 (s1 T 0) 52 j = σ 52 j := fun j h1 h2 => by rw [hp_s_i, upd_n h2, g3 j h1, hp_s_i, upd_n h1]
  have ei : ∀ i, i ≠ 52 → i ≠ T → hp_s s1 52 31 (s1 T 0) i = σ i := fun i h1 h2 => by rw [hp_s_n h1, g4 i h1 h2, hp_s_n h1]
  have eT : ∀ q, hp_s s1 52 31 (s1 T 0) T q = s1 T q := fun q => by rw [hp_s_n (by omega)]
  generalize hp_s s1 52 31 (s1 T 0) = s2 at e34 e31 ej ei eT ⊢
  obtain ⟨s3, k0, k1, k2, k3, k4, k5, k6, k7⟩ := ms_now (σ := s2) hb (by omega) (by omega) hl h572 e34 (fun s_11 => fn_M_putsAll_L53 52 T b (fun s_23 => some s_23) FU 0 s_11)
  obtain ⟨s4, m0, m1, m2, m3, m4, m5, m6, m7⟩ := ms_befs (σ := s3) hb hT hl k1 (fun s_23 => some s_23)
  refine ⟨s4, k0.trans m0, fun j h1 h2 => ?_, fun i h1 h2 h3 h4 => ?_, ?_, fun k hk => ?_, fun w hw k hk => m5 w hw k hk, fun hb0 => ⟨?_, fun k => ?_, fun w hw k => ?_⟩, fun hb1 q => ?_⟩
  · rw [m2 j h1, k2 j h1, ej j h1 h2]
  · rw [m3 i h1 h2 h4, k3 i h1 h2 h3, ei i h1 h2]
  · rw [m2 31 (by decide), k2 31 (by decide), e31, m4 0 (by omega), k4 0 (by omega), eT]
  · rw [m3 572 (by decide) (by omega) (by omega), m4 _ (by omega)]; exact k5 k hk
  · rw [m2 31 (by decide), k2 31 (by decide), e31, g6 hb0, hp_s_i, upd_n (by decide)]
  · rw [m3 572 (by decide) (by omega) (by omega), k6 hb0 k, ei 572 (by decide) (by omega)]
  · rw [m6 hb0 w hw k, k3 _ (by omega) (by omega) (by omega), ei _ (by omega) (by omega)]
  · rw [m7 hb1 q, k7 hb1 q, eT]
    by_cases e : q = 0
    · rw [e, g7 hb1, hp_s_n (by omega)]
    · rw [g5 q e, hp_s_n (by omega)]
end PA

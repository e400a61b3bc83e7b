/-! TEXTS: words, the model -/
def bv (f : Nat → Nat) : Nat → Nat
  | 0 => 0
  | n + 1 => 27 * bv f n + (f n - 96)
theorem bv_inj (f g : Nat → Nat) : ∀ n m, (∀ i, i < n → 97 ≤ f i ∧ f i ≤ 122) → (∀ i, i < m → 97 ≤ g i ∧ g i ≤ 122) → bv f n = bv g m → n = m ∧ ∀ i, i < n → f i = g i := by
  intro n
  induction n with
  | zero =>
    intro m hf hg h
    cases m with
    | zero => exact ⟨rfl, fun i hi => absurd hi (Nat.not_lt_zero _)⟩
    | succ m =>
      have h1 := hg m (by omega)
      have h2 : 0 = 27 * bv g m + (g m - 96) := h
      omega
  | succ n ih =>
    intro m hf hg h
    have h1 := hf n (by omega)
    cases m with
    | zero =>
      have h2 : 27 * bv f n + (f n - 96) = 0 := h
      omega
    | succ m =>
      have h2 := hg m (by omega)
      have h3 : 27 * bv f n + (f n - 96) = 27 * bv g m + (g m - 96) := h
      obtain ⟨e1, e2⟩ := ih m (fun i hi => hf i (by omega)) (fun i hi => hg i (by omega)) (by omega)
      refine ⟨by omega, fun i hi => ?_⟩
      by_cases e : i = n
      · rw [e]
        rw [← e1] at h2 h3
        have e3 : bv f n = bv g n := by omega
        omega
      · exact e2 i (by omega)
theorem bv_lt (f : Nat → Nat) : ∀ n, (∀ i, i < n → f i ≤ 122) → bv f n + 1 ≤ 27 ^ n := by
  intro n
  induction n with
  | zero => intro _; exact Nat.le_refl _
  | succ n ih =>
    intro hf
    have h1 := ih (fun i hi => hf i (by omega))
    have h2 := hf n (by omega)
    show 27 * bv f n + (f n - 96) + 1 ≤ 27 ^ (n + 1)
    rw [Nat.pow_succ]
    omega
theorem neg_ne {b : Nat} (h : b < 2147483648) : ¬ (-1 : Int32) = Int32.ofNat b := by
  intro e
  have h1 := congrArg Int32.toInt e
  rw [zi_toInt h] at h1
  have h2 : ((-1 : Int32)).toInt = -1 := by decide
  omega
section TW
variable {X : tx} {s : hp_I} {q k : Nat} {pl : Int32}
theorem isL_b {i : Nat} (h : isL X i = true) : 97 ≤ X.1 i ∧ X.1 i ≤ 122 := by unfold isL at h; simp at h; exact h.2
theorem lE_le (te : TE X) {i : Nat} (h : i ≤ X.2) : lE X i ≤ X.2 := rn_le _ X.2 (fun j hj => isL_lt hj) 700 i h
theorem lE_no (te : TE X) (i : Nat) : isL X (lE X i) = false := rn_stop _ X.2 (fun j hj => isL_lt hj) 700 i (by have := te.1; omega)
theorem lE_all {i j : Nat} (h1 : i ≤ j) (h2 : j < lE X i) : isL X j = true := rn_all _ 700 i j h1 h2
theorem lE_is (te : TE X) {i j : Nat} (h : ∀ m, i ≤ m → m < j → isL X m = true) (hij : i ≤ j) (hj : isL X j = false) : lE X i = j := by
  have h1 : j ≤ lE X i ∨ lE X i < j := by omega
  rcases h1 with h1 | h1
  · by_cases e : j < lE X i
    · rw [lE_all hij e] at hj; cases hj
    · omega
  · have h2 := lE_no te i
    have h3 : isL X (lE X i) = true := h _ (rn_ge _ 700 i) h1
    rw [h3] at h2
    cases h2
/-- what stands here, as a number -/
def whI (X : tx) (p : Nat) : Int32 := if 6 < lE X p - p then -1 else Int32.ofNat (bv (fun i => X.1 (p + i)) (lE X p - p))
theorem bnd6 {n : Nat} (h : n ≤ 6) : 27 ^ n ≤ 387420489 := Nat.le_trans (Nat.pow_le_pow_right (by decide) h) (by decide)
theorem m_here (te : TE X) (h : MT X s q k pl) : ∃ s', fn_M_wordHere 52 s = some (whI X (sk X q), s') ∧ MT X s' (sk X q) k pl ∧ MF s s' := by
  have h6 := te.1
  unfold fn_M_wordHere
  obtain ⟨s1, k1, k2, k3⟩ := m_blanks te h
  have hsl := sk_le te h.2.1
  generalize sk X q = p at k2 hsl ⊢
  refine ⟨s1, ?_, k2, k3⟩
  rw [k1, e_bd, e_let, e_let]
  have hrL := lE_le te hsl
  have hge : p ≤ lE X p := rn_ge _ 700 p
  have key : ∀ n i fu, n + (p + i) = lE X p → n < fu → fn_M_wordHere_L8 52 s1 (fun y_12 y_13 => px_jn (fun t14 => some (t14, s1)) fun j15 => if (6 : Int32) < y_13 then j15 (-1 : Int32) else j15 y_12) fu (Int32.ofNat (bv (fun i => X.1 (p + i)) (min i 6))) (Int32.ofNat i) = some (whI X p, s1) := by
    intro n
    induction n with
    | zero =>
      intro i fu hi hf
      obtain ⟨fu, rfl⟩ : ∃ f, fu = f + 1 := ⟨fu - 1, by omega⟩
      have hno : isL X (p + i) = false := by rw [show p + i = lE X p by omega]; exact lE_no te p
      rw [fn_M_wordHere_L8, k2.1.2.1, zi_add, m_byte te k2 (by omega), e_bd, m_sma te, e_bd, hno, if_pos (show bI false = 0 from rfl), e_jn]
      unfold whI
      rw [show lE X p - p = i by omega]
      by_cases c : 6 < i
      · rw [if_pos (show (6 : Int32) < Int32.ofNat i from zl_lt (a := 6) c (by omega)), if_pos c]
      · rw [if_neg (show ¬ (6 : Int32) < Int32.ofNat i from zl_nlt (a := 6) (by omega) (by decide)), if_neg c, Nat.min_eq_left (by omega)]
    | succ n ih =>
      intro i fu hi hf
      obtain ⟨fu, rfl⟩ : ∃ f, fu = f + 1 := ⟨fu - 1, by omega⟩
      have hL : isL X (p + i) = true := lE_all (i := p) (j := p + i) (by omega) (by omega)
      have hb := isL_b hL
      have hlt := isL_lt hL
      rw [fn_M_wordHere_L8, k2.1.2.1, zi_add, m_byte te k2 (by omega), e_bd, m_sma te, e_bd, hL, if_neg (show ¬ bI true = 0 from by decide), e_jn, e_bd, show byI X (p + i) = Int32.ofNat (X.1 (p + i)) from by unfold byI; rw [if_pos hlt]]
      simp only [e_let, zi_succ]
      by_cases c : i < 6
      · have hv : bv (fun i => X.1 (p + i)) i + 1 ≤ 27 ^ i := bv_lt _ i (fun j hj => (isL_b (lE_all (show p ≤ p + j by omega) (by omega))).2)
        have hv2 := bnd6 (show i ≤ 6 by omega)
        have e1 : ((27 : Int32) * Int32.ofNat (bv (fun i => X.1 (p + i)) (min i 6)) + Int32.ofNat (X.1 (p + i)) - 97 + 1) = Int32.ofNat (bv (fun i => X.1 (p + i)) (min (i + 1) 6)) := by
          rw [Nat.min_eq_left (by omega), Nat.min_eq_left (by omega), show (27 : Int32) * Int32.ofNat (bv (fun i => X.1 (p + i)) i) = Int32.ofNat (27 * bv (fun i => X.1 (p + i)) i) from zi_mul 27 _, zi_add, show Int32.ofNat (27 * bv (fun i => X.1 (p + i)) i + X.1 (p + i)) - 97 = Int32.ofNat (27 * bv (fun i => X.1 (p + i)) i + X.1 (p + i) - 97) from zi_sub (b := 97) (by omega), zi_succ]
          congr 1
          show _ = 27 * bv (fun i => X.1 (p + i)) i + (X.1 (p + i) - 96)
          omega
        rw [if_pos (show Int32.ofNat i < 6 from zl_lt (b := 6) c (by decide)), e1]
        exact ih (i + 1) fu (by omega) (by omega)
      · rw [if_neg (show ¬ Int32.ofNat i < 6 from zl_nlt (b := 6) (by omega) (by omega))]
        have h2 := ih (i + 1) fu (by omega) (by omega)
        rw [Nat.min_eq_right (by omega)] at h2
        rw [Nat.min_eq_right (by omega)]
        exact h2
  exact key (lE X p - p) 0 FU (by omega) (FU_gt (by omega))
def wOK (w : List Nat) : Prop := w.length ≤ 6 ∧ ∀ i, i < w.length → 97 ≤ w.getD i 0 ∧ w.getD i 0 ≤ 122
theorem wd_iff (te : TE X) {p : Nat} (hp : p ≤ X.2) {w : List Nat} (hw : wOK w) : (whI X p = Int32.ofNat (bv (fun i => w.getD i 0) w.length)) ↔ wdB X p 0 w = true := by
  have hge : p ≤ lE X p := rn_ge _ 700 p
  have hle := lE_le te hp
  have hbw : bv (fun i => w.getD i 0) w.length + 1 ≤ 27 ^ w.length := bv_lt _ w.length (fun j hj => (hw.2 j hj).2)
  have hb6 := bnd6 hw.1
  have hwd : wdB X p 0 w = true ↔ (p + w.length ≤ X.2 ∧ isL X (p + w.length) = false ∧ ∀ i, i < w.length → X.1 (p + i) = w.getD i 0) := by
    unfold wdB
    simp only [Bool.and_eq_true, decide_eq_true_eq, Bool.not_eq_true', List.all_eq_true, List.mem_range, true_and]
  rw [hwd]
  unfold whI
  by_cases c : 6 < lE X p - p
  · rw [if_pos c]
    constructor
    · intro e
      exact absurd e (neg_ne (by omega))
    · rintro ⟨h1, h2, h3⟩
      have e := lE_is te (i := p) (j := p + w.length) (fun m a1 a2 => by
        obtain ⟨t, rfl⟩ : ∃ t, m = p + t := ⟨m - p, by omega⟩
        have hx := h3 t (by omega)
        have hy := hw.2 t (by omega)
        unfold isL
        rw [decide_eq_true (show p + t < X.2 by omega), hx, decide_eq_true hy.1, decide_eq_true hy.2]
        rfl) (by omega) h2
      have := hw.1
      omega
  · rw [if_neg c]
    have hbl : bv (fun i => X.1 (p + i)) (lE X p - p) + 1 ≤ 27 ^ (lE X p - p) := bv_lt _ _ (fun j hj => (isL_b (lE_all (show p ≤ p + j by omega) (by omega))).2)
    have hbl6 := bnd6 (show lE X p - p ≤ 6 by omega)
    rw [zi_inj (by omega) (by omega)]
    constructor
    · intro e
      obtain ⟨e1, e2⟩ := bv_inj _ _ (lE X p - p) w.length (fun j hj => isL_b (lE_all (show p ≤ p + j by omega) (by omega))) hw.2 e
      have e3 : p + w.length = lE X p := by omega
      refine ⟨by omega, by rw [e3]; exact lE_no te p, fun i hi => e2 i (by omega)⟩
    · rintro ⟨h1, h2, h3⟩
      have e := lE_is te (i := p) (j := p + w.length) (fun m a1 a2 => by
        obtain ⟨t, rfl⟩ : ∃ t, m = p + t := ⟨m - p, by omega⟩
        have hx := h3 t (by omega)
        have hy := hw.2 t (by omega)
        unfold isL
        rw [decide_eq_true (show p + t < X.2 by omega), hx, decide_eq_true hy.1, decide_eq_true hy.2]
        rfl) (by omega) h2
      rw [e, show p + w.length - p = w.length by omega]
      have cg : ∀ n, n ≤ w.length → bv (fun i => X.1 (p + i)) n = bv (fun i => w.getD i 0) n := by
        intro n
        induction n with
        | zero => intro _; rfl
        | succ n ih =>
          intro hn
          show 27 * bv (fun i => X.1 (p + i)) n + (X.1 (p + n) - 96) = 27 * bv (fun i => w.getD i 0) n + (w.getD n 0 - 96)
          rw [ih (by omega), h3 n (by omega)]
      exact cg w.length (Nat.le_refl _)
theorem wd_end (te : TE X) {p : Nat} {w : List Nat} (hw : wOK w) (h : wdB X p k w = true) : lE X p = p + w.length ∧ p + w.length ≤ X.2 := by
  unfold wdB at h
  simp only [Bool.and_eq_true, decide_eq_true_eq, Bool.not_eq_true', List.all_eq_true, List.mem_range] at h
  obtain ⟨-, h1, h2, h3⟩ := h
  refine ⟨?_, h1⟩
  exact lE_is te (i := p) (j := p + w.length) (fun m a1 a2 => by
    obtain ⟨t, rfl⟩ : ∃ t, m = p + t := ⟨m - p, by omega⟩
    have hx := h3 t (by omega)
    have hy := hw.2 t (by omega)
    unfold isL
    rw [decide_eq_true (show p + t < X.2 by omega), hx, decide_eq_true hy.1, decide_eq_true hy.2]
    rfl) (by omega) h2
theorem m_isWord (te : TE X) (h : MT X s q k pl) {w : List Nat} (hw : wOK w) {a b c d e f : Int32} (hs : fn_M_six a b c d e f = some (Int32.ofNat (bv (fun i => w.getD i 0) w.length))) : ∃ s' q', fn_M_isWord 52 a b c d e f s = some (bI (wdB X (sk X q) k w), s') ∧ MT X s' q' k pl ∧ MF s s' ∧ q' = if k = 0 then sk X q else q := by
  unfold fn_M_isWord
  simp only [e_jn]
  rw [h.1.2.2.1]
  by_cases c0 : k = 0
  · subst c0
    obtain ⟨s1, k1, k2, k3⟩ := m_here te h
    rw [if_pos (show Int32.ofNat 0 = 0 from rfl), k1, e_b2, hs, e_bd]
    have hiff := wd_iff te (sk_le te h.2.1) hw
    by_cases hb : wdB X (sk X q) 0 w = true
    · rw [if_pos (hiff.mpr hb), e_z1, hb]
      exact ⟨s1, _, rfl, k2, k3, rfl⟩
    · rw [if_neg (fun e => hb (hiff.mp e)), e_z0]
      rw [Bool.not_eq_true] at hb
      rw [hb]
      exact ⟨s1, _, rfl, k2, k3, rfl⟩
  · have hb : wdB X (sk X q) k w = false := by unfold wdB; rw [decide_eq_false c0, Bool.false_and]
    rw [if_neg (fun e => c0 ((k_0 h.2.2.1).mp e)), e_z0, hb]
    exact ⟨s, q, rfl, h, MF.refl, by rw [if_neg c0]⟩
theorem m_skip (te : TE X) (h : MT X s q k pl) : ∃ s', fn_M_skipWord 52 s = some s' ∧ MT X s' (lE X q) k pl ∧ MF s s' := by
  have h6 := te.1
  unfold fn_M_skipWord
  have hq := h.2.1
  have hle := lE_le te hq
  have hge : q ≤ lE X q := rn_ge _ 700 q
  have key : ∀ n i fu s, n + i = lE X q → q ≤ i → n < fu → MT X s i k pl → ∃ s', fn_M_skipWord_L0 52 (fun s => some s) fu s = some s' ∧ MT X s' (lE X q) k pl ∧ MF s s' := by
    intro n
    induction n with
    | zero =>
      intro i fu s hi hqi hf h
      obtain ⟨fu, rfl⟩ : ∃ f, fu = f + 1 := ⟨fu - 1, by omega⟩
      have hno : isL X i = false := by rw [show i = lE X q by omega]; exact lE_no te q
      refine ⟨s, ?_, by rw [← (show i = lE X q by omega)]; exact h, MF.refl⟩
      rw [fn_M_skipWord_L0, h.1.2.1, m_byte te h (by omega), e_bd, m_sma te, e_bd, hno, if_pos (show bI false = 0 from rfl)]
    | succ n ih =>
      intro i fu s hi hqi hf h
      obtain ⟨fu, rfl⟩ : ∃ f, fu = f + 1 := ⟨fu - 1, by omega⟩
      have hL : isL X i = true := lE_all (i := q) (j := i) hqi (by omega)
      have hlt := isL_lt hL
      obtain ⟨s', k1, k2, k3⟩ := ih (i + 1) fu (hp_s s 52 4 (Int32.ofNat (i + 1))) (by omega) (by omega) (by omega) (h.at (by omega))
      refine ⟨s', ?_, k2, (MF.put (Or.inl rfl)).trans k3⟩
      rw [fn_M_skipWord_L0, h.1.2.1, m_byte te h (by omega), e_bd, m_sma te, e_bd, hL, if_neg (show ¬ bI true = 0 from by decide), e_let, zi_succ]
      exact k1
  exact key (lE X q - q) q FU s (by omega) (Nat.le_refl _) (FU_gt (by omega)) h
end TW

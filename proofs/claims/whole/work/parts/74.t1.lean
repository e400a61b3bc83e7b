/-! TEXTS: the tape, abstractly -/
def rn (P : Nat → Bool) : Nat → Nat → Nat
  | 0, i => i
  | k + 1, i => if P i = true then rn P k (i + 1) else i
theorem rn_ge (P : Nat → Bool) : ∀ k i, i ≤ rn P k i := by
  intro k
  induction k with
  | zero => intro i; exact Nat.le_refl _
  | succ k ih =>
    intro i
    unfold rn
    split
    · have := ih (i + 1); omega
    · exact Nat.le_refl _
theorem rn_stop (P : Nat → Bool) (n : Nat) (hP : ∀ j, P j = true → j < n) : ∀ k i, n ≤ i + k → P (rn P k i) = false := by
  intro k
  induction k with
  | zero =>
    intro i hi
    show P i = false
    cases h : P i with
    | false => rfl
    | true => have := hP i h; omega
  | succ k ih =>
    intro i hi
    unfold rn
    by_cases h : P i = true
    · rw [if_pos h]; exact ih (i + 1) (by omega)
    · rw [if_neg h]; simpa using h
theorem rn_le (P : Nat → Bool) (n : Nat) (hP : ∀ j, P j = true → j < n) : ∀ k i, i ≤ n → rn P k i ≤ n := by
  intro k
  induction k with
  | zero => intro i hi; exact hi
  | succ k ih =>
    intro i hi
    unfold rn
    by_cases h : P i = true
    · rw [if_pos h]; exact ih (i + 1) (hP i h)
    · rw [if_neg h]; exact hi
theorem rn_all (P : Nat → Bool) : ∀ k i j, i ≤ j → j < rn P k i → P j = true := by
  intro k
  induction k with
  | zero => intro i j h1 h2; exact absurd h2 (by show ¬ j < i; omega)
  | succ k ih =>
    intro i j h1 h2
    unfold rn at h2
    by_cases h : P i = true
    · rw [if_pos h] at h2
      by_cases e : j = i
      · rw [e]; exact h
      · exact ih (i + 1) j (by omega) h2
    · rw [if_neg h] at h2; omega
theorem rn_id (P : Nat → Bool) (k i : Nat) (h : P i = false) : rn P k i = i := by
  cases k with
  | zero => rfl
  | succ k => unfold rn; rw [if_neg (by rw [h]; decide)]
theorem rn_step (P : Nat → Bool) (n : Nat) (hP : ∀ j, P j = true → j < n) : ∀ k i, n ≤ i + k → P i = true → rn P (k + 1) i = rn P (k + 1) (i + 1) := by
  intro k i hk h
  have h0 : rn P (k + 1) i = rn P k (i + 1) := by
    show (if P i = true then rn P k (i + 1) else i) = _
    rw [if_pos h]
  rw [h0]
  have key : ∀ k i, n ≤ i + k → rn P k i = rn P (k + 1) i := by
    intro k
    induction k with
    | zero =>
      intro i hi
      have hf : P i = false := by
        cases h : P i with
        | false => rfl
        | true => have := hP i h; omega
      rw [rn_id P 0 i hf, rn_id P 1 i hf]
    | succ k ih =>
      intro i hi
      show (if P i = true then rn P k (i + 1) else i) = if P i = true then rn P (k + 1) (i + 1) else i
      by_cases h : P i = true
      · rw [if_pos h, if_pos h]; exact ih (i + 1) (by omega)
      · rw [if_neg h, if_neg h]
  exact key k (i + 1) (by omega)
abbrev tx : Type := (Nat → Nat) × Nat
def isB (X : tx) (i : Nat) : Bool := decide (i < X.2) && decide (X.1 i = 32)
def isD (X : tx) (i : Nat) : Bool := decide (i < X.2) && (decide (48 ≤ X.1 i) && decide (X.1 i ≤ 57))
def isL (X : tx) (i : Nat) : Bool := decide (i < X.2) && (decide (97 ≤ X.1 i) && decide (X.1 i ≤ 122))
def TE (X : tx) : Prop := X.2 ≤ 600 ∧ ∀ i, i < X.2 → X.1 i < 256
theorem isB_lt {X : tx} {j : Nat} (h : isB X j = true) : j < X.2 := by unfold isB at h; simp at h; exact h.1
theorem isD_lt {X : tx} {j : Nat} (h : isD X j = true) : j < X.2 := by unfold isD at h; simp at h; exact h.1
theorem isL_lt {X : tx} {j : Nat} (h : isL X j = true) : j < X.2 := by unfold isL at h; simp at h; exact h.1
def sk (X : tx) (i : Nat) : Nat := rn (isB X) 700 i
def de (X : tx) (i : Nat) : Nat := rn (isD X) 700 i
def lE (X : tx) (i : Nat) : Nat := rn (isL X) 700 i
theorem sk_le {X : tx} (te : TE X) {i : Nat} (h : i ≤ X.2) : sk X i ≤ X.2 := rn_le _ X.2 (fun j hj => isB_lt hj) 700 i h
theorem sk_no {X : tx} (te : TE X) (i : Nat) : isB X (sk X i) = false := rn_stop _ X.2 (fun j hj => isB_lt hj) 700 i (by have := te.1; omega)
theorem sk_sk {X : tx} (te : TE X) (i : Nat) : sk X (sk X i) = sk X i := rn_id _ 700 _ (sk_no te i)
theorem sk_st {X : tx} (te : TE X) {i : Nat} (h : isB X i = true) : sk X i = sk X (i + 1) := rn_step _ X.2 (fun j hj => isB_lt hj) 699 i (by have := te.1; omega) h
/-- the value of digits -/
def dv (X : tx) : Nat → Nat → Nat → Nat
  | 0, _, v => v
  | k + 1, i, v => if isD X i = true then dv X k (i + 1) (min (10 * v + X.1 i - 48) 100000) else v
def nv (X : tx) (p : Nat) : Nat := dv X 700 p 0
theorem dv_le (X : tx) : ∀ k i v, v ≤ 100000 → dv X k i v ≤ 100000 := by
  intro k
  induction k with
  | zero => intro i v h; exact h
  | succ k ih =>
    intro i v h
    unfold dv
    split
    · exact ih _ _ (Nat.min_le_right _ _)
    · exact h
/-- class -/
def XT (X : tx) (s : hp_I) (p k : Nat) (pl : Int32) : Prop := (s 1 2 = Int32.ofNat X.2 ∧ s 1 3 = Int32.ofNat p ∧ s 1 4 = Int32.ofNat k ∧ s 1 5 = pl) ∧ p ≤ X.2 ∧ k < 10 ∧ ∀ i, i < X.2 → s 2 i = Int32.ofNat (X.1 i)
def XF (s s' : hp_I) : Prop := (∀ i, i ≠ 1 → s' i = s i) ∧ s' 1 1 = s 1 1
theorem XF.refl {s : hp_I} : XF s s := ⟨fun _ _ => rfl, rfl⟩
theorem XF.trans {a b c : hp_I} (h1 : XF a b) (h2 : XF b c) : XF a c := ⟨fun i hi => (h2.1 i hi).trans (h1.1 i hi), h2.2.trans h1.2⟩
theorem XF.put {s : hp_I} {k : Nat} {v : Int32} (h : k ≠ 1) : XF s (hp_s s 1 k v) := ⟨fun i hi => hp_s_n hi, by rw [hp_s_i, upd_n (by omega)]⟩
section TXX
variable {X : tx} {s : hp_I} {p k : Nat} {pl : Int32}
theorem c_byte (te : TE X) (h : XT X s p k pl) {i : Nat} (hi : i < X.2) : px_ald s 2 (Int32.ofNat i) = some (Int32.ofNat (X.1 i)) := by
  have := te.1
  rw [zi_ald (by rw [tn_2]; omega) (by omega), h.2.2.2 i hi]
theorem c_digit (te : TE X) (h : XT X s p k pl) {i : Nat} (hi : i ≤ X.2) : fn_Tape_isDigit 1 (Int32.ofNat i) s = some (bI (isD X i)) := by
  have h6 := te.1
  unfold fn_Tape_isDigit isD
  rw [e_jn, e_jn, h.1.1, tf_0]
  simp only [e_z0, e_z1]
  by_cases c : i < X.2
  · have hb := te.2 i c
    rw [if_pos (zl_lt c (by omega)), c_byte te h c, e_bd, e_bd, decide_eq_true c, Bool.true_and]
    by_cases c1 : 48 ≤ X.1 i
    · rw [if_pos (show (48 : Int32) ≤ Int32.ofNat (X.1 i) from zl_le (a := 48) c1 (by omega)), decide_eq_true c1, Bool.true_and]
      by_cases c2 : X.1 i ≤ 57
      · rw [if_pos (show Int32.ofNat (X.1 i) ≤ 57 from zl_le (b := 57) c2 (by decide)), decide_eq_true c2]; rfl
      · rw [if_neg (show ¬ Int32.ofNat (X.1 i) ≤ 57 from zl_nle (b := 57) (by omega) (by omega)), decide_eq_false c2]; rfl
    · rw [if_neg (show ¬ (48 : Int32) ≤ Int32.ofNat (X.1 i) from zl_nle (a := 48) (by omega) (by decide)), decide_eq_false c1, Bool.false_and]; rfl
  · rw [if_neg (zl_nlt (by omega) (by omega)), decide_eq_false c, Bool.false_and]; rfl
theorem c_small (te : TE X) (h : XT X s p k pl) {i : Nat} (hi : i ≤ X.2) : fn_Tape_isSmallLetter 1 (Int32.ofNat i) s = some (bI (isL X i)) := by
  have h6 := te.1
  unfold fn_Tape_isSmallLetter isL
  rw [e_jn, e_jn, h.1.1, tf_0]
  simp only [e_z0, e_z1]
  by_cases c : i < X.2
  · have hb := te.2 i c
    rw [if_pos (zl_lt c (by omega)), c_byte te h c, e_bd, e_bd, decide_eq_true c, Bool.true_and]
    by_cases c1 : 97 ≤ X.1 i
    · rw [if_pos (show (97 : Int32) ≤ Int32.ofNat (X.1 i) from zl_le (a := 97) c1 (by omega)), decide_eq_true c1, Bool.true_and]
      by_cases c2 : X.1 i ≤ 122
      · rw [if_pos (show Int32.ofNat (X.1 i) ≤ 122 from zl_le (b := 122) c2 (by decide)), decide_eq_true c2]; rfl
      · rw [if_neg (show ¬ Int32.ofNat (X.1 i) ≤ 122 from zl_nle (b := 122) (by omega) (by omega)), decide_eq_false c2]; rfl
    · rw [if_neg (show ¬ (97 : Int32) ≤ Int32.ofNat (X.1 i) from zl_nle (a := 97) (by omega) (by decide)), decide_eq_false c1, Bool.false_and]; rfl
  · rw [if_neg (zl_nlt (by omega) (by omega)), decide_eq_false c, Bool.false_and]; rfl
theorem XT.at {q : Nat} (h : XT X s p k pl) (hq : q ≤ X.2) : XT X (hp_s s 1 3 (Int32.ofNat q)) q k pl := by
  obtain ⟨⟨h1, h2, h3, h4⟩, h5, h6, h7⟩ := h
  refine ⟨⟨?_, ?_, ?_, ?_⟩, hq, h6, fun i hi => ?_⟩
  · rw [hp_s_i, upd_n (by decide)]; exact h1
  · rw [hp_s_i, upd_i]
  · rw [hp_s_i, upd_n (by decide)]; exact h3
  · rw [hp_s_i, upd_n (by decide)]; exact h4
  · rw [hp_s_n (by decide)]; exact h7 i hi
theorem c_move (te : TE X) (h : XT X s p k pl) {i : Nat} (hi : i ≤ X.2) : ∃ s', fn_Tape_moveTo 1 (Int32.ofNat i) s = some s' ∧ XT X s' (sk X i) k pl ∧ XF s s' ∧ s' 1 6 = s 1 6 := by
  have h6 := te.1
  unfold fn_Tape_moveTo
  rw [e_let]
  have key : ∀ n i fu s, n + i = X.2 → n < fu → XT X s i k pl → ∃ s', fn_Tape_moveTo_L5 1 (fun s => some s) fu s = some s' ∧ XT X s' (sk X i) k pl ∧ XF s s' ∧ s' 1 6 = s 1 6 := by
    intro n
    induction n with
    | zero =>
      intro i fu s hn hf h
      obtain ⟨fu, rfl⟩ : ∃ f, fu = f + 1 := ⟨fu - 1, by omega⟩
      have hb : isB X i = false := by
        cases hh : isB X i with
        | false => rfl
        | true => have := isB_lt hh; omega
      refine ⟨s, ?_, ?_, XF.refl, rfl⟩
      · rw [fn_Tape_moveTo_L5, h.1.1, h.1.2.1, if_neg (zl_nlt (by omega) (by omega))]
      · rw [show sk X i = i from rn_id _ 700 i hb]; exact h
    | succ n ih =>
      intro i fu s hn hf h
      obtain ⟨fu, rfl⟩ : ∃ f, fu = f + 1 := ⟨fu - 1, by omega⟩
      have hiX : i < X.2 := by omega
      have hb := te.2 i hiX
      rw [fn_Tape_moveTo_L5, h.1.1, h.1.2.1, if_pos (zl_lt hiX (by omega)), tf_0, c_byte te h hiX, e_bd]
      by_cases c : X.1 i = 32
      · have hB : isB X i = true := by unfold isB; rw [decide_eq_true hiX, decide_eq_true c]; rfl
        rw [if_pos (by rw [c]; rfl), e_let, zi_succ]
        obtain ⟨s', k1, k2, k3, k4⟩ := ih (i + 1) fu (hp_s s 1 3 (Int32.ofNat (i + 1))) (by omega) (by omega) (h.at (by omega))
        refine ⟨s', k1, ?_, (XF.put (by decide)).trans k3, ?_⟩
        · rw [sk_st te hB]; exact k2
        · rw [k4, hp_s_i, upd_n (by decide)]
      · have hB : isB X i = false := by unfold isB; rw [decide_eq_false c, Bool.and_false]
        rw [if_neg (show ¬ Int32.ofNat (X.1 i) = 32 from zl_ne (b := 32) c (by omega) (by decide))]
        refine ⟨s, rfl, ?_, XF.refl, rfl⟩
        rw [show sk X i = i from rn_id _ 700 i hB]; exact h
  obtain ⟨s', k1, k2, k3, k4⟩ := key (X.2 - i) i FU (hp_s s 1 3 (Int32.ofNat i)) (by omega) (FU_gt (by omega)) (h.at hi)
  exact ⟨s', k1, k2, (XF.put (by decide)).trans k3, by rw [k4, hp_s_i, upd_n (by decide)]⟩
def ovB (X : tx) (p k : Nat) : Bool := decide (k ≠ 0) || decide (X.2 ≤ p)
theorem c_over (te : TE X) (h : XT X s p k pl) : fn_Tape_isOver 1 s = some (bI (ovB X p k)) := by
  have h6 := te.1
  have hp := h.2.1
  have hk := h.2.2.1
  unfold fn_Tape_isOver ovB
  rw [e_jn, e_jn, h.1.1, h.1.2.1, h.1.2.2.1]
  simp only [e_z0, e_z1]
  by_cases c : k = 0
  · rw [if_pos (by rw [c]; rfl), decide_eq_false (by omega), Bool.false_or]
    by_cases c2 : X.2 ≤ p
    · rw [if_pos (zl_le c2 (by omega)), decide_eq_true c2]; rfl
    · rw [if_neg (zl_nle (by omega) (by omega)), decide_eq_false c2]; rfl
  · rw [if_neg (show ¬ Int32.ofNat k = 0 from zl_ne (b := 0) c (by omega) (by decide)), decide_eq_true c, Bool.true_or]; rfl
theorem c_failed (h : XT X s p k pl) : fn_Tape_failed 1 s = some (bI (decide (k ≠ 0))) := by
  have hk := h.2.2.1
  unfold fn_Tape_failed
  rw [e_jn, h.1.2.2.1]
  simp only [e_z0, e_z1]
  by_cases c : k = 0
  · rw [if_pos (by rw [c]; rfl), decide_eq_false (by omega)]; rfl
  · rw [if_neg (show ¬ Int32.ofNat k = 0 from zl_ne (b := 0) c (by omega) (by decide)), decide_eq_true c]; rfl
/-- what stands next: no byte is -1 -/
def pkI (X : tx) (p k : Nat) : Int32 := if ovB X p k = true then -1 else Int32.ofNat (X.1 p)
theorem c_peek (te : TE X) (h : XT X s p k pl) : fn_Tape_peek 1 s = some (pkI X p k) := by
  unfold fn_Tape_peek pkI
  rw [c_over te h, e_bd, e_jn, bI_if]
  by_cases c : ovB X p k = true
  · rw [if_pos c, if_pos c]
  · have hp : p < X.2 := by
      unfold ovB at c
      simp at c
      omega
    rw [if_neg c, if_neg c, tf_0, h.1.2.1, c_byte te h hp, e_bd]
/-- a sign -/
def sgB (X : tx) (p k c : Nat) : Bool := decide (k = 0) && (decide (p < X.2) && decide (X.1 p = c))
theorem pk_sg (te : TE X) {c : Nat} (hc : c < 256) (hp : p ≤ X.2) : (pkI X p k = Int32.ofNat c) ↔ sgB X p k c = true := by
  have h6 := te.1
  unfold pkI sgB ovB
  by_cases c1 : k = 0
  · by_cases c2 : X.2 ≤ p
    · rw [if_pos (by simp [c2])]
      constructor
      · intro e
        have h3 := oI_m (some c) (fun t' h' => by cases h'; omega)
        have e3 : oI (some c) = -1 := e.symm
        rw [h3] at e3
        cases e3
      · intro e; simp at e; omega
    · have hb := te.2 p (by omega)
      rw [if_neg (by simp [c1]; omega), zi_inj (by omega) (by omega)]
      simp [c1]
      omega
  · rw [if_pos (by simp [c1])]
    constructor
    · intro e
      have h3 := oI_m (some c) (fun t' h' => by cases h'; omega)
      have e3 : oI (some c) = -1 := e.symm
      rw [h3] at e3
      cases e3
    · intro e; simp [c1] at e
theorem c_sign (te : TE X) (h : XT X s p k pl) {c : Nat} (hc : c < 256) : ∃ s', fn_Tape_takesSign 1 (Int32.ofNat c) s = some (bI (sgB X p k c), s') ∧ XT X s' (if sgB X p k c = true then sk X (p + 1) else p) k pl ∧ XF s s' := by
  have h6 := te.1
  unfold fn_Tape_takesSign
  rw [c_peek te h, e_bd]
  by_cases b : sgB X p k c = true
  · have hp : p < X.2 := by unfold sgB at b; simp at b; exact b.2.1
    rw [if_pos ((pk_sg te hc h.2.1).mpr b), h.1.2.1, zi_succ]
    obtain ⟨s', k1, k2, k3, -⟩ := c_move te h (i := p + 1) (by omega)
    refine ⟨s', ?_, ?_, k3⟩
    · rw [k1, e_bd, e_z1, b]; rfl
    · rw [if_pos b]; exact k2
  · rw [if_neg (fun e => b ((pk_sg te hc h.2.1).mp e)), e_z0]
    refine ⟨s, ?_, ?_, XF.refl⟩
    · rw [Bool.not_eq_true] at b; rw [b]; rfl
    · rw [if_neg b]; exact h
theorem c_fail (h : XT X s p k pl) {kd : Nat} (hk : kd < 10) (q : Int32) : ∃ s', fn_Tape_fail 1 (Int32.ofNat kd) q s = some s' ∧ XT X s' p (if k = 0 then kd else k) (if k = 0 then q else pl) ∧ XF s s' ∧ s' 1 6 = s 1 6 := by
  obtain ⟨⟨h1, h2, h3, h4⟩, h5, h6, h7⟩ := h
  unfold fn_Tape_fail
  rw [e_jn, h3]
  by_cases c : k = 0
  · rw [if_pos (by rw [c]; rfl), if_pos c, if_pos c, e_let, e_let]
    refine ⟨_, rfl, ⟨⟨?_, ?_, ?_, ?_⟩, h5, hk, fun i hi => ?_⟩, (XF.put (by decide)).trans (XF.put (by decide)), ?_⟩
    · rw [hp_s_i, upd_n (by decide), hp_s_i, upd_n (by decide)]; exact h1
    · rw [hp_s_i, upd_n (by decide), hp_s_i, upd_n (by decide)]; exact h2
    · rw [hp_s_i, upd_n (by decide), hp_s_i, upd_i]
    · rw [hp_s_i, upd_i]
    · rw [hp_s_n (by decide), hp_s_n (by decide)]; exact h7 i hi
    · rw [hp_s_i, upd_n (by decide), hp_s_i, upd_n (by decide)]
  · rw [if_neg (show ¬ Int32.ofNat k = 0 from zl_ne (b := 0) c (by omega) (by decide)), if_neg c, if_neg c]
    exact ⟨s, rfl, ⟨⟨h1, h2, h3, h4⟩, h5, h6, h7⟩, XF.refl, rfl⟩
theorem c_expect (te : TE X) (h : XT X s p k pl) {c : Nat} (hc : c < 256) : ∃ s', fn_Tape_expect 1 (Int32.ofNat c) s = some s' ∧ XT X s' (if sgB X p k c = true then sk X (p + 1) else p) (if sgB X p k c = true then k else if k = 0 then 1 else k) (if sgB X p k c = true then pl else if k = 0 then Int32.ofNat p else pl) ∧ XF s s' := by
  unfold fn_Tape_expect
  obtain ⟨s1, k1, k2, k3⟩ := c_sign te h hc
  rw [k1, e_b2, e_jn, bI_if]
  by_cases b : sgB X p k c = true
  · rw [if_pos b] at k2
    simp only [if_pos b]
    exact ⟨s1, rfl, k2, k3⟩
  · rw [if_neg b] at k2
    simp only [if_neg b]
    rw [k2.1.2.1]
    obtain ⟨s2, m1, m2, m3, -⟩ := c_fail k2 (kd := 1) (by decide) (Int32.ofNat p)
    rw [show fn_Tape_fail 1 (1 : Int32) (Int32.ofNat p) s1 = some s2 from m1, e_bd]
    exact ⟨s2, rfl, m2, k3.trans m3⟩
end TXX

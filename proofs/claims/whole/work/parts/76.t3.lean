/-! TEXTS: the model -/
def MT (X : tx) (s : hp_I) (q k : Nat) (pl : Int32) : Prop := (s 52 2 = Int32.ofNat X.2 ∧ s 52 4 = Int32.ofNat q ∧ s 52 5 = Int32.ofNat k ∧ s 52 6 = pl) ∧ q ≤ X.2 ∧ k < 10 ∧ ∀ i, i < X.2 → s 53 i = Int32.ofNat (X.1 i)
def MF (s s' : hp_I) : Prop := (∀ i, i ≠ 52 → s' i = s i) ∧ ∀ j, j ≠ 4 → j ≠ 5 → j ≠ 6 → s' 52 j = s 52 j
theorem MF.refl {s : hp_I} : MF s s := ⟨fun _ _ => rfl, fun _ _ _ _ => rfl⟩
theorem MF.trans {a b c : hp_I} (h1 : MF a b) (h2 : MF b c) : MF a c := ⟨fun i hi => (h2.1 i hi).trans (h1.1 i hi), fun j a1 a2 a3 => (h2.2 j a1 a2 a3).trans (h1.2 j a1 a2 a3)⟩
theorem MF.put {s : hp_I} {k : Nat} {v : Int32} (h : k = 4 ∨ k = 5 ∨ k = 6) : MF s (hp_s s 52 k v) := ⟨fun i hi => hp_s_n hi, fun j a1 a2 a3 => by rw [hp_s_i, upd_n (by omega)]⟩
def byI (X : tx) (i : Nat) : Int32 := if i < X.2 then Int32.ofNat (X.1 i) else -1
section TM
variable {X : tx} {s : hp_I} {q k : Nat} {pl : Int32}
theorem m_byte (te : TE X) (h : MT X s q k pl) {i : Nat} (hi : i < 100000) : fn_M_byteAt 52 (Int32.ofNat i) s = some (byI X i) := by
  have h6 := te.1
  unfold fn_M_byteAt byI
  rw [e_jn, h.1.1]
  by_cases c : i < X.2
  · rw [if_neg (zl_nle (by omega) (by omega)), if_pos c, sm_9, zi_ald (by rw [tn_53]; omega) (by omega), e_bd, h.2.2.2 i c]
  · rw [if_pos (zl_le (by omega) (by omega)), if_neg c]
theorem neg_lt {b : Nat} (h : b < 256) : ¬ (-1 : Int32) = Int32.ofNat b := by
  intro e
  have h3 := oI_m (some b) (fun t' h' => by cases h'; omega)
  have e3 : oI (some b) = -1 := e.symm
  rw [h3] at e3
  cases e3
theorem m_dig (te : TE X) (i : Nat) : fn_M_isDigit (byI X i) = some (bI (isD X i)) := by
  unfold fn_M_isDigit byI isD
  rw [e_jn, e_jn]
  simp only [e_z0, e_z1]
  by_cases c : i < X.2
  · have hb := te.2 i c
    rw [if_pos c, decide_eq_true c, Bool.true_and]
    by_cases c1 : 48 ≤ X.1 i
    · rw [if_pos (show (48 : Int32) ≤ Int32.ofNat (X.1 i) from zl_le (a := 48) c1 (by omega)), decide_eq_true c1, Bool.true_and]
      by_cases c2 : X.1 i ≤ 57
      · rw [if_pos (show Int32.ofNat (X.1 i) ≤ 57 from zl_le (b := 57) c2 (by decide)), decide_eq_true c2]; rfl
      · rw [if_neg (show ¬ Int32.ofNat (X.1 i) ≤ 57 from zl_nle (b := 57) (by omega) (by omega)), decide_eq_false c2]; rfl
    · rw [if_neg (show ¬ (48 : Int32) ≤ Int32.ofNat (X.1 i) from zl_nle (a := 48) (by omega) (by decide)), decide_eq_false c1, Bool.false_and]; rfl
  · rw [if_neg c, if_neg (by decide), decide_eq_false c, Bool.false_and]; rfl
theorem m_sma (te : TE X) (i : Nat) : fn_M_isSmall (byI X i) = some (bI (isL X i)) := by
  unfold fn_M_isSmall byI isL
  rw [e_jn, e_jn]
  simp only [e_z0, e_z1]
  by_cases c : i < X.2
  · have hb := te.2 i c
    rw [if_pos c, decide_eq_true c, Bool.true_and]
    by_cases c1 : 97 ≤ X.1 i
    · rw [if_pos (show (97 : Int32) ≤ Int32.ofNat (X.1 i) from zl_le (a := 97) c1 (by omega)), decide_eq_true c1, Bool.true_and]
      by_cases c2 : X.1 i ≤ 122
      · rw [if_pos (show Int32.ofNat (X.1 i) ≤ 122 from zl_le (b := 122) c2 (by decide)), decide_eq_true c2]; rfl
      · rw [if_neg (show ¬ Int32.ofNat (X.1 i) ≤ 122 from zl_nle (b := 122) (by omega) (by omega)), decide_eq_false c2]; rfl
    · rw [if_neg (show ¬ (97 : Int32) ≤ Int32.ofNat (X.1 i) from zl_nle (a := 97) (by omega) (by decide)), decide_eq_false c1, Bool.false_and]; rfl
  · rw [if_neg c, if_neg (by decide), decide_eq_false c, Bool.false_and]; rfl
theorem by_eq (te : TE X) {i c : Nat} (hc : c < 256) : (byI X i = Int32.ofNat c) ↔ (i < X.2 ∧ X.1 i = c) := by
  unfold byI
  by_cases h : i < X.2
  · have hb := te.2 i h
    rw [if_pos h, zi_inj (by omega) (by omega)]
    exact ⟨fun e => ⟨h, e⟩, fun e => e.2⟩
  · rw [if_neg h]
    exact ⟨fun e => absurd e (neg_lt hc), fun e => absurd e.1 h⟩
theorem MT.at {p : Nat} (h : MT X s q k pl) (hp : p ≤ X.2) : MT X (hp_s s 52 4 (Int32.ofNat p)) p k pl := by
  obtain ⟨⟨h1, h2, h3, h4⟩, h5, h6, h7⟩ := h
  refine ⟨⟨?_, ?_, ?_, ?_⟩, hp, h6, fun i hi => ?_⟩
  · rw [hp_s_i, upd_n (by decide)]; exact h1
  · rw [hp_s_i, upd_i]
  · rw [hp_s_i, upd_n (by decide)]; exact h3
  · rw [hp_s_i, upd_n (by decide)]; exact h4
  · rw [hp_s_n (by decide)]; exact h7 i hi
theorem m_blanks (te : TE X) (h : MT X s q k pl) : ∃ s', fn_M_blanks 52 s = some s' ∧ MT X s' (sk X q) k pl ∧ MF s s' := by
  have h6 := te.1
  unfold fn_M_blanks
  have key : ∀ n i fu s, n + i = X.2 → n < fu → MT X s i k pl → ∃ s', fn_M_blanks_L0 52 (fun s => some s) fu s = some s' ∧ MT X s' (sk X i) k pl ∧ MF s s' := by
    intro n
    induction n with
    | zero =>
      intro i fu s hn hf h
      obtain ⟨fu, rfl⟩ : ∃ f, fu = f + 1 := ⟨fu - 1, by omega⟩
      have hb : isB X i = false := by
        cases hh : isB X i with
        | false => rfl
        | true => have := isB_lt hh; omega
      refine ⟨s, ?_, ?_, MF.refl⟩
      · rw [fn_M_blanks_L0, h.1.2.1, m_byte te h (by omega), e_bd, if_neg (fun e => by have := (by_eq te (c := 32) (by decide)).mp e; omega)]
      · rw [show sk X i = i from rn_id _ 700 i hb]; exact h
    | succ n ih =>
      intro i fu s hn hf h
      obtain ⟨fu, rfl⟩ : ∃ f, fu = f + 1 := ⟨fu - 1, by omega⟩
      have hiX : i < X.2 := by omega
      rw [fn_M_blanks_L0, h.1.2.1, m_byte te h (by omega), e_bd]
      by_cases c : X.1 i = 32
      · have hB : isB X i = true := by unfold isB; rw [decide_eq_true hiX, decide_eq_true c]; rfl
        rw [if_pos (show byI X i = 32 from (by_eq te (c := 32) (by decide)).mpr ⟨hiX, c⟩), e_let, zi_succ]
        obtain ⟨s', k1, k2, k3⟩ := ih (i + 1) fu (hp_s s 52 4 (Int32.ofNat (i + 1))) (by omega) (by omega) (h.at (by omega))
        refine ⟨s', k1, ?_, (MF.put (Or.inl rfl)).trans k3⟩
        rw [sk_st te hB]; exact k2
      · have hB : isB X i = false := by unfold isB; rw [decide_eq_false c, Bool.and_false]
        rw [if_neg (show ¬ byI X i = 32 from fun e => c ((by_eq te (c := 32) (by decide)).mp e).2)]
        refine ⟨s, rfl, ?_, MF.refl⟩
        rw [show sk X i = i from rn_id _ 700 i hB]; exact h
  exact key (X.2 - q) q FU s (by have := h.2.1; omega) (FU_gt (by omega)) h
theorem m_wrong (h : MT X s q k pl) {kd : Nat} (hk : kd < 10) (z : Int32) : ∃ s', fn_M_wrong 52 (Int32.ofNat kd) z s = some s' ∧ MT X s' q (if k = 0 then kd else k) (if k = 0 then z else pl) ∧ MF s s' := by
  obtain ⟨⟨h1, h2, h3, h4⟩, h5, h6, h7⟩ := h
  unfold fn_M_wrong
  rw [e_jn, h3]
  by_cases c : k = 0
  · rw [if_pos (by rw [c]; rfl), if_pos c, if_pos c, e_let, e_let]
    refine ⟨_, rfl, ⟨⟨?_, ?_, ?_, ?_⟩, h5, hk, fun i hi => ?_⟩, (MF.put (by omega)).trans (MF.put (by omega))⟩
    · rw [hp_s_i, upd_n (by decide), hp_s_i, upd_n (by decide)]; exact h1
    · rw [hp_s_i, upd_n (by decide), hp_s_i, upd_n (by decide)]; exact h2
    · rw [hp_s_i, upd_n (by decide), hp_s_i, upd_i]
    · rw [hp_s_i, upd_i]
    · rw [hp_s_n (by decide), hp_s_n (by decide)]; exact h7 i hi
  · rw [if_neg (show ¬ Int32.ofNat k = 0 from zl_ne (b := 0) c (by omega) (by decide)), if_neg c, if_neg c]
    exact ⟨s, rfl, ⟨⟨h1, h2, h3, h4⟩, h5, h6, h7⟩, MF.refl⟩
theorem sg_by (te : TE X) {p c : Nat} (hc : c < 256) : (byI X p = Int32.ofNat c) ↔ sgB X p 0 c = true := by
  rw [by_eq te hc]
  unfold sgB
  simp
theorem k_0 {k : Nat} (hk : k < 10) : (Int32.ofNat k = 0) ↔ k = 0 := by
  have : (Int32.ofNat k = Int32.ofNat 0) = (k = 0) := zi_inj (by omega) (by decide)
  exact Iff.of_eq this
theorem m_sign (te : TE X) (h : MT X s q k pl) {c : Nat} (hc : c < 256) : ∃ s' q', fn_M_sign 52 (Int32.ofNat c) s = some s' ∧ MT X s' q' (if sgB X (sk X q) k c = true then k else if k = 0 then 1 else k) (if sgB X (sk X q) k c = true then pl else if k = 0 then Int32.ofNat (sk X q) else pl) ∧ MF s s' ∧ (sgB X (sk X q) k c = true → q' = sk X q + 1) := by
  have h6 := te.1
  unfold fn_M_sign
  rw [h.1.2.2.1]
  by_cases c0 : k = 0
  · subst c0
    rw [if_pos (show Int32.ofNat 0 = 0 from rfl)]
    obtain ⟨s1, k1, k2, k3⟩ := m_blanks te h
    have hsl := sk_le te h.2.1
    rw [k1, e_bd, k2.1.2.1, m_byte te k2 (by omega), e_bd, e_jn]
    by_cases b : sgB X (sk X q) 0 c = true
    · have hlt : sk X q < X.2 := by unfold sgB at b; simp at b; exact b.1
      rw [if_pos ((sg_by te hc).mpr b), e_let, zi_succ]
      refine ⟨_, sk X q + 1, rfl, ?_, k3.trans (MF.put (Or.inl rfl)), fun _ => rfl⟩
      simp only [if_pos b]
      exact k2.at (by omega)
    · rw [if_neg (fun e => b ((sg_by te hc).mp e))]
      obtain ⟨s2, m1, m2, m3⟩ := m_wrong k2 (kd := 1) (by decide) (Int32.ofNat (sk X q))
      rw [show fn_M_wrong 52 (1 : Int32) (Int32.ofNat (sk X q)) s1 = some s2 from m1, e_bd]
      refine ⟨s2, sk X q, rfl, ?_, k3.trans m3, fun hb => absurd hb b⟩
      simp only [if_neg b]
      exact m2
  · have hb : sgB X (sk X q) k c = false := by unfold sgB; rw [decide_eq_false c0, Bool.false_and]
    rw [if_neg (fun e => c0 ((k_0 h.2.2.1).mp e))]
    refine ⟨s, q, rfl, ?_, MF.refl, fun e => by rw [hb] at e; cases e⟩
    simp only [hb, if_neg c0, Bool.false_eq_true, if_false]
    exact h
theorem m_takes (te : TE X) (h : MT X s q k pl) {c : Nat} (hc : c < 256) : ∃ s' q', fn_M_takesSign 52 (Int32.ofNat c) s = some (bI (sgB X (sk X q) k c), s') ∧ MT X s' q' k pl ∧ MF s s' ∧ (k = 0 → q' = if sgB X (sk X q) k c = true then sk X q + 1 else sk X q) := by
  have h6 := te.1
  unfold fn_M_takesSign
  rw [h.1.2.2.1]
  by_cases c0 : k = 0
  · subst c0
    rw [if_pos (show Int32.ofNat 0 = 0 from rfl)]
    obtain ⟨s1, k1, k2, k3⟩ := m_blanks te h
    have hsl := sk_le te h.2.1
    rw [k1, e_bd, k2.1.2.1, m_byte te k2 (by omega), e_bd, e_jn]
    simp only [e_let, e_jn]
    by_cases b : sgB X (sk X q) 0 c = true
    · have hlt : sk X q < X.2 := by unfold sgB at b; simp at b; exact b.1
      rw [if_pos ((sg_by te hc).mpr b), if_neg (by decide), e_z1, zi_succ]
      refine ⟨_, sk X q + 1, by rw [b]; rfl, k2.at (by omega), k3.trans (MF.put (Or.inl rfl)), fun _ => by rw [if_pos b]⟩
    · rw [if_neg (fun e => b ((sg_by te hc).mp e)), if_pos trivial, e_z0]
      refine ⟨s1, sk X q, by rw [Bool.not_eq_true] at b; rw [b]; rfl, k2, k3, fun _ => by rw [if_neg b]⟩
  · have hb : sgB X (sk X q) k c = false := by unfold sgB; rw [decide_eq_false c0, Bool.false_and]
    rw [if_neg (fun e => c0 ((k_0 h.2.2.1).mp e)), e_z0, hb]
    exact ⟨s, q, rfl, h, MF.refl, fun e => absurd e c0⟩
theorem mstep {v b : Nat} (hv : v ≤ 100000) (h48 : 48 ≤ b) (hb : b ≤ 57) : (if (100000 : Int32) < ((10 : Int32) * Int32.ofNat v + Int32.ofNat b) - 48 then (100000 : Int32) else ((10 : Int32) * Int32.ofNat v + Int32.ofNat b) - 48) = Int32.ofNat (min (10 * v + b - 48) 100000) := by
  rw [show (10 : Int32) * Int32.ofNat v = Int32.ofNat (10 * v) from zi_mul 10 v, zi_add, show Int32.ofNat (10 * v + b) - 48 = Int32.ofNat (10 * v + b - 48) from zi_sub (b := 48) (by omega)]
  by_cases c : 100000 < 10 * v + b - 48
  · rw [if_pos (show (100000 : Int32) < Int32.ofNat (10 * v + b - 48) from zl_lt (a := 100000) c (by omega)), Nat.min_eq_right (by omega)]; rfl
  · rw [if_neg (show ¬ (100000 : Int32) < Int32.ofNat (10 * v + b - 48) from zl_nlt (a := 100000) (by omega) (by decide)), Nat.min_eq_left (by omega)]
theorem dv_st (te : TE X) {i : Nat} (v : Nat) (hD : isD X i = true) : dv X 700 i v = dv X 700 (i + 1) (min (10 * v + X.1 i - 48) 100000) := by
  have h6 := te.1
  have key : ∀ m i v, X.2 ≤ i + m → dv X m i v = dv X (m + 1) i v := by
    intro m
    induction m with
    | zero =>
      intro i v hi
      have : isD X i = false := by
        cases hh : isD X i with
        | false => rfl
        | true => have := isD_lt hh; omega
      show v = if isD X i = true then _ else v
      rw [this]; rfl
    | succ m ih =>
      intro i v hi
      show (if isD X i = true then dv X m (i + 1) _ else v) = if isD X i = true then dv X (m + 1) (i + 1) _ else v
      split
      · exact ih (i + 1) _ (by omega)
      · rfl
  have h1 : dv X 700 i v = dv X 699 (i + 1) (min (10 * v + X.1 i - 48) 100000) := by
    show (if isD X i = true then dv X 699 (i + 1) _ else v) = _
    rw [if_pos hD]
  rw [h1]
  exact key 699 (i + 1) _ (by omega)
theorem m_digits (te : TE X) {a1 a2 a3 : Int32} (K : Int32 → hp_I → Option (Int32 × hp_I)) : ∀ n i fu v s k, n + i = X.2 → n < fu → v ≤ 100000 → MT X s i k pl → ∃ s', fn_M_number_L44 52 a1 a2 a3 K fu (Int32.ofNat v) s = K (Int32.ofNat (dv X 700 i v)) s' ∧ MT X s' (de X i) k pl ∧ MF s s' := by
  have h6 := te.1
  intro n
  induction n with
  | zero =>
    intro i fu v s k hn hf hv h
    obtain ⟨fu, rfl⟩ : ∃ f, fu = f + 1 := ⟨fu - 1, by omega⟩
    have hb : isD X i = false := by
      cases hh : isD X i with
      | false => rfl
      | true => have := isD_lt hh; omega
    refine ⟨s, ?_, ?_, MF.refl⟩
    · rw [fn_M_number_L44, h.1.2.1, m_byte te h (by omega), e_bd, m_dig te, e_bd, hb, if_pos (show bI false = 0 from rfl)]
      show _ = K (Int32.ofNat (if isD X i = true then _ else v)) _
      rw [hb]; rfl
    · rw [show de X i = i from rn_id _ 700 i hb]; exact h
  | succ n ih =>
    intro i fu v s k hn hf hv h
    obtain ⟨fu, rfl⟩ : ∃ f, fu = f + 1 := ⟨fu - 1, by omega⟩
    have hiX : i < X.2 := by omega
    rw [fn_M_number_L44, h.1.2.1, m_byte te h (by omega), e_bd, m_dig te, e_bd, bI_if]
    by_cases hD : isD X i = true
    · have hd : 48 ≤ X.1 i ∧ X.1 i ≤ 57 := by unfold isD at hD; simp at hD; exact hD.2
      rw [if_pos hD, e_bd, e_let, e_jn, show byI X i = Int32.ofNat (X.1 i) from by unfold byI; rw [if_pos hiX]]
      obtain ⟨s', k1, k2, k3⟩ := ih (i + 1) fu (min (10 * v + X.1 i - 48) 100000) (hp_s s 52 4 (Int32.ofNat (i + 1))) k (by omega) (by omega) (Nat.min_le_right _ _) (h.at (by omega))
      refine ⟨s', ?_, ?_, (MF.put (Or.inl rfl)).trans k3⟩
      · rw [dv_st te v hD, ← k1, ← mstep hv hd.1 hd.2, zi_succ]
        simp only [e_let]
        split <;> rfl
      · rw [show de X i = de X (i + 1) from rn_step _ X.2 (fun j hj => isD_lt hj) 699 i (by omega) hD]; exact k2
    · refine ⟨s, ?_, ?_, MF.refl⟩
      · rw [if_neg hD]
        show _ = K (Int32.ofNat (if isD X i = true then _ else v)) _
        rw [if_neg hD]
      · rw [show de X i = i from rn_id _ 700 i (by simpa using hD)]; exact h
theorem nv_0 {p : Nat} (h : isD X p = false) : nv X p = 0 := by
  show (if isD X p = true then _ else 0) = 0
  rw [h]; rfl
theorem de_p (te : TE X) {p : Nat} : (de X p = p) ↔ isD X p = false := by
  constructor
  · intro e
    have := rn_stop (isD X) X.2 (fun j hj => isD_lt hj) 700 p (by have := te.1; omega)
    rw [show rn (isD X) 700 p = p from e] at this
    exact this
  · intro h; exact rn_id _ 700 p h
theorem m_num (te : TE X) (h : MT X s q k pl) (lo hi : Int32) : ∃ s' q', fn_M_number 52 lo hi s = some (if nmK X (sk X q) k lo hi = 0 then Int32.ofNat (nv X (sk X q)) else 0, s') ∧ MT X s' q' (nmK X (sk X q) k lo hi) (if nmK X (sk X q) k lo hi = k then pl else Int32.ofNat (sk X q)) ∧ MF s s' ∧ (k = 0 → q' = de X (sk X q)) := by
  have h6 := te.1
  unfold fn_M_number
  rw [h.1.2.2.1]
  by_cases c0 : k = 0
  · subst c0
    rw [if_pos (show Int32.ofNat 0 = 0 from rfl)]
    obtain ⟨s1, k1, k2, k3⟩ := m_blanks te h
    have hsl := sk_le te h.2.1
    generalize hp : sk X q = p at k2 hsl ⊢
    rw [k1, e_bd, k2.1.2.1, e_let, e_let, m_byte te k2 (by omega), e_bd, m_dig te, e_bd, e_jn, bI_if]
    have fin : ∀ {s2 : hp_I} {k2' : Nat} {pl2 : Int32}, MT X s2 p k2' pl2 → MF s s2 → nmK X p 0 lo hi = (if k2' = 0 then (if inB (Int32.ofNat (nv X p)) lo hi = true then 0 else 2) else k2') → (k2' = 0 → pl2 = pl) → (k2' ≠ 0 → pl2 = Int32.ofNat p) → ∃ s' q', fn_M_number_L44 52 lo hi (Int32.ofNat p) (fun y_16 s_17 => Option.bind (fn_M_in y_16 lo hi) fun z18 => px_jn (fun s19 => px_jn (fun t20 => some (t20, s19)) fun j21 => if s19 52 5 = 0 then j21 y_16 else j21 (0 : Int32)) fun j22 => if z18 = 0 then Option.bind (fn_M_wrong 52 (2 : Int32) (Int32.ofNat p) s_17) fun s24 => j22 s24 else j22 s_17) FU 0 s2 = some (if nmK X p 0 lo hi = 0 then Int32.ofNat (nv X p) else 0, s') ∧ MT X s' q' (nmK X p 0 lo hi) (if nmK X p 0 lo hi = 0 then pl else Int32.ofNat p) ∧ MF s s' ∧ ((0 : Nat) = 0 → q' = de X p) := by
      intro s2 k2' pl2 hm hf hnk hpl hpl2
      obtain ⟨s3, n1, n2, n3⟩ := m_digits te (pl := pl2) (fun y_16 s_17 => Option.bind (fn_M_in y_16 lo hi) fun z18 => px_jn (fun s19 => px_jn (fun t20 => some (t20, s19)) fun j21 => if s19 52 5 = 0 then j21 y_16 else j21 (0 : Int32)) fun j22 => if z18 = 0 then Option.bind (fn_M_wrong 52 (2 : Int32) (Int32.ofNat p) s_17) fun s24 => j22 s24 else j22 s_17) (X.2 - p) p FU 0 s2 k2' (by omega) (FU_gt (by omega)) (by decide) hm (a1 := lo) (a2 := hi) (a3 := Int32.ofNat p)
      have n1' : fn_M_number_L44 52 lo hi (Int32.ofNat p) (fun y_16 s_17 => Option.bind (fn_M_in y_16 lo hi) fun z18 => px_jn (fun s19 => px_jn (fun t20 => some (t20, s19)) fun j21 => if s19 52 5 = 0 then j21 y_16 else j21 (0 : Int32)) fun j22 => if z18 = 0 then Option.bind (fn_M_wrong 52 (2 : Int32) (Int32.ofNat p) s_17) fun s24 => j22 s24 else j22 s_17) FU 0 s2 = _ := n1
      rw [n1', show dv X 700 p 0 = nv X p from rfl, ms_in', e_bd]
      simp only [e_jn]
      rw [bI_if]
      obtain ⟨s4, m1, m2, m3⟩ := m_wrong n2 (kd := 2) (by decide) (Int32.ofNat p)
      rw [show fn_M_wrong 52 (2 : Int32) (Int32.ofNat p) s3 = some s4 from m1, e_bd, m2.1.2.2.1, n2.1.2.2.1]
      have hk2 := hm.2.2.1
      by_cases cz : k2' = 0
      · rw [if_pos cz] at hnk
        have hpl' := hpl cz
        subst cz
        by_cases ci : inB (Int32.ofNat (nv X p)) lo hi = true
        · rw [if_pos ci] at hnk
          rw [if_pos ci, if_pos (show Int32.ofNat 0 = 0 from rfl), hnk]
          simp only [if_true]
          exact ⟨s3, _, rfl, by rw [← hpl']; exact n2, hf.trans n3, fun _ => rfl⟩
        · rw [if_neg ci] at hnk
          have hne : ¬ Int32.ofNat (if (0 : Nat) = 0 then 2 else 0) = 0 := by decide
          rw [if_neg ci, if_neg hne, hnk]
          exact ⟨s4, _, rfl, m2, (hf.trans n3).trans m3, fun _ => rfl⟩
      · rw [if_neg cz] at hnk
        have hpl' := hpl2 cz
        have hkz : ¬ Int32.ofNat k2' = 0 := fun e => cz ((k_0 hk2).mp e)
        simp only [hnk, if_neg cz]
        rw [if_neg cz, if_neg cz] at m2
        by_cases ci : inB (Int32.ofNat (nv X p)) lo hi = true
        · rw [if_pos ci, if_neg hkz]
          exact ⟨s3, _, rfl, by rw [← hpl']; exact n2, hf.trans n3, fun _ => rfl⟩
        · rw [if_neg ci, if_neg hkz]
          exact ⟨s4, _, rfl, by rw [← hpl']; exact m2, (hf.trans n3).trans m3, fun _ => rfl⟩
    by_cases hD : isD X p = true
    · rw [if_pos hD]
      refine fin k2 k3 ?_ (fun _ => rfl) (fun e => absurd rfl e)
      unfold nmK
      rw [if_pos rfl, if_pos rfl, if_neg (fun e => by rw [(de_p te).mp e] at hD; cases hD)]
    · have hD2 : isD X p = false := by simpa using hD
      rw [if_neg hD]
      obtain ⟨s2, m1, m2, m3⟩ := m_wrong k2 (kd := 1) (by decide) (Int32.ofNat p)
      rw [show fn_M_wrong 52 (1 : Int32) (Int32.ofNat p) s1 = some s2 from m1, e_bd]
      refine fin m2 (k3.trans m3) ?_ (fun e => by cases e) (fun _ => rfl)
      unfold nmK
      rw [if_pos rfl, if_pos ((de_p te).mpr hD2)]
      rfl
  · rw [if_neg (fun e => c0 ((k_0 h.2.2.1).mp e))]
    have hk : nmK X (sk X q) k lo hi = k := by unfold nmK; rw [if_neg c0]
    rw [hk, if_neg c0, if_pos rfl]
    exact ⟨s, q, rfl, h, MF.refl, fun e => absurd e c0⟩
end TM

/-! TEXTS: numbers and words, class -/
/-- kind and place behind a number -/
def nmK (X : tx) (p k : Nat) (lo hi : Int32) : Nat := if k = 0 then (if de X p = p then 1 else if inB (Int32.ofNat (nv X p)) lo hi = true then 0 else 2) else k
section TXN
variable {X : tx} {s : hp_I} {p k : Nat} {pl : Int32}
theorem de_le (te : TE X) {i : Nat} (h : i ≤ X.2) : de X i ≤ X.2 := rn_le _ X.2 (fun j hj => isD_lt hj) 700 i h
theorem dstep {v b : Nat} (hv : v ≤ 100000) (h48 : 48 ≤ b) (hb : b ≤ 57) : px_min (((Int32.ofNat v * 10) + Int32.ofNat b) - 48) 100000 = Int32.ofNat (min (10 * v + b - 48) 100000) := by
  rw [show Int32.ofNat v * 10 = Int32.ofNat (v * 10) from zi_mul v 10, zi_add, show Int32.ofNat (v * 10 + b) - 48 = Int32.ofNat (v * 10 + b - 48) from zi_sub (b := 48) (by omega)]
  have h := min_nat (a := v * 10 + b - 48) (b := 100000) (by omega) (by decide)
  refine Eq.trans h ?_
  congr 2
  omega
theorem c_digits (te : TE X) (h : XT X s p k pl) {a1 a2 : Int32} (K : Int32 → Int32 → Option (Int32 × hp_I)) : ∀ n i fu v, n + i = X.2 → n < fu → v ≤ 100000 → fn_Tape_number_L16 1 a1 a2 s K fu (Int32.ofNat v) (Int32.ofNat i) = K (Int32.ofNat (dv X 700 i v)) (Int32.ofNat (de X i)) := by
  have h6 := te.1
  have stepd : ∀ i v, isD X i = true → dv X 700 i v = dv X 700 (i + 1) (min (10 * v + X.1 i - 48) 100000) := by
    intro i v hD
    have key : ∀ m i v, X.2 ≤ i + m → dv X m i v = dv X (m + 1) i v := by
      intro m
      induction m with
      | zero =>
        intro i v hi
        have : isD X i = false := by
          cases hh : isD X i with
          | false => rfl
          | true => have := isD_lt hh; omega
        show v = if isD X i = true then _ else v
        rw [this]; rfl
      | succ m ih =>
        intro i v hi
        show (if isD X i = true then dv X m (i + 1) _ else v) = if isD X i = true then dv X (m + 1) (i + 1) _ else v
        split
        · exact ih (i + 1) _ (by omega)
        · rfl
    have h1 : dv X 700 i v = dv X 699 (i + 1) (min (10 * v + X.1 i - 48) 100000) := by
      show (if isD X i = true then dv X 699 (i + 1) _ else v) = _
      rw [if_pos hD]
    rw [h1]
    exact key 699 (i + 1) _ (by omega)
  intro n
  induction n with
  | zero =>
    intro i fu v hn hf hv
    obtain ⟨fu, rfl⟩ : ∃ f, fu = f + 1 := ⟨fu - 1, by omega⟩
    have hb : isD X i = false := by
      cases hh : isD X i with
      | false => rfl
      | true => have := isD_lt hh; omega
    rw [fn_Tape_number_L16, h.1.1, if_neg (zl_nlt (by omega) (by omega)), show de X i = i from rn_id _ 700 i hb]
    show _ = K (Int32.ofNat (if isD X i = true then _ else v)) _
    rw [hb]; rfl
  | succ n ih =>
    intro i fu v hn hf hv
    obtain ⟨fu, rfl⟩ : ∃ f, fu = f + 1 := ⟨fu - 1, by omega⟩
    have hiX : i < X.2 := by omega
    rw [fn_Tape_number_L16, h.1.1, if_pos (zl_lt hiX (by omega)), c_digit te h (by omega), e_bd, bI_if]
    by_cases hD : isD X i = true
    · have hd : 48 ≤ X.1 i ∧ X.1 i ≤ 57 := by unfold isD at hD; simp at hD; exact hD.2
      rw [if_pos hD, tf_0, c_byte te h hiX, e_bd, dstep hv hd.1 hd.2, e_let, e_let, zi_succ, stepd i v hD, show de X i = de X (i + 1) from rn_step _ X.2 (fun j hj => isD_lt hj) 699 i (by omega) hD]
      exact ih (i + 1) fu _ (by omega) (by omega) (Nat.min_le_right _ _)
    · rw [if_neg hD, show de X i = i from rn_id _ 700 i (by simpa using hD)]
      show _ = K (Int32.ofNat (if isD X i = true then _ else v)) _
      rw [if_neg hD]
theorem XT.np {v : Int32} (h : XT X s p k pl) : XT X (hp_s s 1 6 v) p k pl := by
  obtain ⟨⟨h1, h2, h3, h4⟩, h5, h6, h7⟩ := h
  refine ⟨⟨?_, ?_, ?_, ?_⟩, h5, h6, fun i hi => ?_⟩
  · rw [hp_s_i, upd_n (by decide)]; exact h1
  · rw [hp_s_i, upd_n (by decide)]; exact h2
  · rw [hp_s_i, upd_n (by decide)]; exact h3
  · rw [hp_s_i, upd_n (by decide)]; exact h4
  · rw [hp_s_n (by decide)]; exact h7 i hi
theorem c_num (te : TE X) (h : XT X s p k pl) (lo hi : Int32) : ∃ s', fn_Tape_number 1 lo hi s = some (Int32.ofNat (nv X p), s') ∧ XT X s' (sk X (de X p)) (nmK X p k lo hi) (if nmK X p k lo hi = k then pl else Int32.ofNat p) ∧ XF s s' ∧ s' 1 6 = Int32.ofNat p := by
  have h6 := te.1
  have hp := h.2.1
  have hdl := de_le te hp
  unfold fn_Tape_number
  rw [e_let, e_let, e_let, h.1.2.1]
  have h1 := h.np (v := Int32.ofNat p)
  have e6 : hp_s s 1 6 (Int32.ofNat p) 1 6 = Int32.ofNat p := by rw [hp_s_i, upd_i]
  have f1 : XF s (hp_s s 1 6 (Int32.ofNat p)) := XF.put (by decide)
  generalize hp_s s 1 6 (Int32.ofNat p) = s1 at h1 e6 f1 ⊢
  rw [h1.1.2.1, e6]
  rw [show fn_Tape_number_L16 1 lo hi s1 _ FU 0 (Int32.ofNat p) = _ from c_digits te h1 _ (X.2 - p) p FU 0 (by omega) (FU_gt (by omega)) (by decide)]
  show ∃ s', (px_jn _ fun j13 => if Int32.ofNat (de X p) = Int32.ofNat p then _ else _) = some (Int32.ofNat (dv X 700 p 0), s') ∧ _
  rw [show dv X 700 p 0 = nv X p from rfl, e_jn]
  have mv : ∀ {s2 : hp_I} {k2 : Nat} {pl2 : Int32}, XT X s2 p k2 pl2 → ∃ s', (Option.bind (fn_Tape_moveTo 1 (Int32.ofNat (de X p)) s2) fun s12 => some (Int32.ofNat (nv X p), s12)) = some (Int32.ofNat (nv X p), s') ∧ XT X s' (sk X (de X p)) k2 pl2 ∧ XF s2 s' ∧ s' 1 6 = s2 1 6 := by
    intro s2 k2 pl2 hx
    obtain ⟨s3, m1, m2, m3, m4⟩ := c_move te hx hdl
    exact ⟨s3, by rw [m1, e_bd], m2, m3, m4⟩
  by_cases c1 : de X p = p
  · rw [if_pos (by rw [c1])]
    obtain ⟨s2, m1, m2, m3, m4⟩ := c_fail h1 (kd := 1) (by decide) (Int32.ofNat p)
    rw [show fn_Tape_fail 1 (1 : Int32) (Int32.ofNat p) s1 = some s2 from m1, e_bd]
    obtain ⟨s3, n1, n2, n3, n4⟩ := mv m2
    refine ⟨s3, n1, ?_, (f1.trans m3).trans n3, by rw [n4, m4, e6]⟩
    unfold nmK
    rw [if_pos c1]
    by_cases c0 : k = 0
    · rw [if_pos c0, if_pos c0] at n2
      rw [if_pos c0, if_neg (by omega)]
      exact n2
    · rw [if_neg c0, if_neg c0] at n2
      rw [if_neg c0, if_pos rfl]
      exact n2
  · rw [if_neg (zl_ne c1 (by omega) (by omega)), e_jn]
    have hval : (if lo ≤ Int32.ofNat (nv X p) then (if hi < Int32.ofNat (nv X p) then false else true) else false) = inB (Int32.ofNat (nv X p)) lo hi := by
      unfold inB
      by_cases a1 : lo ≤ Int32.ofNat (nv X p)
      · rw [if_pos a1, decide_eq_true a1, Bool.true_and]
        by_cases a2 : hi < Int32.ofNat (nv X p)
        · rw [if_pos a2, decide_eq_false (Int32.not_le.mpr a2)]
        · rw [if_neg a2, decide_eq_true (Int32.not_lt.mp a2)]
      · rw [if_neg a1, decide_eq_false a1, Bool.false_and]
    have hbr : ∀ {α : Type} (a b : α), (if lo ≤ Int32.ofNat (nv X p) then (if hi < Int32.ofNat (nv X p) then a else b) else a) = if inB (Int32.ofNat (nv X p)) lo hi = true then b else a := by
      intro α a b
      rw [← hval]
      split
      · split <;> rfl
      · rfl
    rw [hbr]
    by_cases c2 : inB (Int32.ofNat (nv X p)) lo hi = true
    · rw [if_pos c2]
      obtain ⟨s3, n1, n2, n3, n4⟩ := mv h1
      have hk0 : nmK X p k lo hi = k := by
        unfold nmK
        rw [if_neg c1, if_pos c2]
        split <;> omega
      refine ⟨s3, n1, ?_, f1.trans n3, by rw [n4, e6]⟩
      rw [hk0, if_pos rfl]
      exact n2
    · rw [if_neg c2]
      obtain ⟨s2, m1, m2, m3, m4⟩ := c_fail h1 (kd := 2) (by decide) (Int32.ofNat p)
      rw [show fn_Tape_fail 1 (2 : Int32) (Int32.ofNat p) s1 = some s2 from m1, e_bd]
      obtain ⟨s3, n1, n2, n3, n4⟩ := mv m2
      refine ⟨s3, n1, ?_, (f1.trans m3).trans n3, by rw [n4, m4, e6]⟩
      unfold nmK
      rw [if_neg c1, if_neg c2]
      by_cases c0 : k = 0
      · rw [if_pos c0, if_pos c0] at n2
        rw [if_pos c0, if_neg (by omega)]
        exact n2
      · rw [if_neg c0, if_neg c0] at n2
        rw [if_neg c0, if_pos rfl]
        exact n2
/-- the whole word that stands next -/
def wdB (X : tx) (p k : Nat) (w : List Nat) : Bool := decide (k = 0) && (decide (p + w.length ≤ X.2) && (!isL X (p + w.length) && (List.range w.length).all (fun i => decide (X.1 (p + i) = w.getD i 0))))
def wI (w : List Nat) : List Int32 := w.map Int32.ofNat
theorem c_word (te : TE X) (h : XT X s p k pl) {w : List Nat} (hw : w.length ≤ 6) (hw2 : ∀ i, i < w.length → w.getD i 0 < 256) (hlen : sx_len (wI w) = Int32.ofNat w.length) (hchr : ∀ i, i < w.length → sx_chr (wI w) (Int32.ofNat i) = some (Int32.ofNat (w.getD i 0))) : ∃ s', fn_Tape_takesWord 1 (wI w) s = some (bI (wdB X p k w), s') ∧ XT X s' (if wdB X p k w = true then sk X (p + w.length) else p) k pl ∧ XF s s' := by
  have h6 := te.1
  have hp := h.2.1
  have hk := h.2.2.1
  unfold fn_Tape_takesWord
  rw [e_let, hlen, h.1.2.1, zi_add, e_jn, h.1.2.2.1, h.1.1, e_z0]
  by_cases c0 : k = 0
  · rw [if_pos (by rw [c0]; rfl)]
    by_cases c1 : p + w.length ≤ X.2
    · rw [if_pos (zl_le c1 (by omega)), c_small te h c1, e_bd, bI_if]
      by_cases c2 : isL X (p + w.length) = true
      · rw [if_pos c2]
        have hb : wdB X p k w = false := by unfold wdB; rw [c2]; simp
        rw [hb, if_neg (by decide)]
        exact ⟨s, rfl, h, XF.refl⟩
      · rw [if_neg c2, e_let]
        have hwd : wdB X p k w = (List.range w.length).all (fun i => decide (X.1 (p + i) = w.getD i 0)) := by
          unfold wdB
          rw [decide_eq_true c0, decide_eq_true c1, show isL X (p + w.length) = false from by simpa using c2]
          simp
        obtain ⟨s1, m1, m2, m3, -⟩ := c_move te h c1
        rw [m1, e_bd, e_z1]
        have key : ∀ n i fu, i + n = w.length → n < fu → (∀ j, j < i → X.1 (p + j) = w.getD j 0) → fn_Tape_takesWord_L37 1 (wI w) (Int32.ofNat (p + w.length)) s (some (1, s1)) fu (Int32.ofNat i) = if wdB X p k w = true then some (1, s1) else some (0, s) := by
          intro n
          induction n with
          | zero =>
            intro i fu hi hf hj
            obtain ⟨fu, rfl⟩ : ∃ f, fu = f + 1 := ⟨fu - 1, by omega⟩
            rw [fn_Tape_takesWord_L37, hlen, if_neg (zl_nlt (by omega) (by omega)), if_pos]
            rw [hwd, List.all_eq_true]
            intro j hj2
            exact decide_eq_true (hj j (by have := List.mem_range.mp hj2; omega))
          | succ n ih =>
            intro i fu hi hf hj
            obtain ⟨fu, rfl⟩ : ∃ f, fu = f + 1 := ⟨fu - 1, by omega⟩
            have hb := te.2 (p + i) (by omega)
            rw [fn_Tape_takesWord_L37, hlen, if_pos (zl_lt (show i < w.length by omega) (by omega)), h.1.2.1, zi_add, tf_0, c_byte te h (show p + i < X.2 by omega), e_bd, hchr i (by omega), e_bd]
            by_cases c3 : X.1 (p + i) = w.getD i 0
            · rw [if_pos (by rw [c3]), e_let, zi_succ]
              exact ih (i + 1) fu (by omega) (by omega) (fun j hj2 => by
                by_cases e : j = i
                · rw [e]; exact c3
                · exact hj j (by omega))
            · rw [if_neg (zl_ne c3 (by omega) (by have := hw2 i (by omega); omega)), e_z0, if_neg]
              rw [hwd, List.all_eq_true]
              intro hall
              exact c3 (of_decide_eq_true (hall i (List.mem_range.mpr (by omega))))
        rw [show fn_Tape_takesWord_L37 1 (wI w) (Int32.ofNat (p + w.length)) s (some (1, s1)) FU 0 = _ from key w.length 0 FU (by omega) (FU_gt (by omega)) (fun j hj => absurd hj (Nat.not_lt_zero _))]
        by_cases c4 : wdB X p k w = true
        · simp only [if_pos c4]
          exact ⟨s1, by rw [c4]; rfl, m2, m3⟩
        · simp only [if_neg c4]
          exact ⟨s, by rw [Bool.not_eq_true] at c4; rw [c4]; rfl, h, XF.refl⟩
    · rw [if_neg (zl_nle (by omega) (by omega))]
      have hb : wdB X p k w = false := by unfold wdB; rw [decide_eq_false c1]; simp
      rw [hb, if_neg (by decide)]
      exact ⟨s, rfl, h, XF.refl⟩
  · rw [if_neg (show ¬ Int32.ofNat k = 0 from zl_ne (b := 0) c0 (by omega) (by decide))]
    have hb : wdB X p k w = false := by unfold wdB; rw [decide_eq_false c0]; simp
    rw [hb, if_neg (by decide)]
    exact ⟨s, rfl, h, XF.refl⟩
end TXN

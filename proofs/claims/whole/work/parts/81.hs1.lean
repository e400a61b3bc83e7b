/-! TEXTS: words, class and model side by side -/
def WD (W : List Int32) (w : List Nat) (a b c d e f : Int32) : Prop := W = wI w ∧ wOK w ∧ sx_len (wI w) = Int32.ofNat w.length ∧ (∀ i, i < w.length → sx_chr (wI w) (Int32.ofNat i) = some (Int32.ofNat (w.getD i 0))) ∧ fn_M_six a b c d e f = some (Int32.ofNat (bv (fun i => w.getD i 0) w.length)) ∧ 0 < w.length
theorem w_room : WD ww_room [114, 111, 111, 109] 18 15 15 13 0 0 := ⟨rfl, ⟨by decide, by decide⟩, by decide +kernel, by decide +kernel, by decide +kernel, by decide⟩
theorem w_way : WD ww_way [119, 97, 121] 23 1 25 0 0 0 := ⟨rfl, ⟨by decide, by decide⟩, by decide +kernel, by decide +kernel, by decide +kernel, by decide⟩
theorem w_scheme : WD ww_scheme [115, 99, 104, 101, 109, 101] 19 3 8 5 13 5 := ⟨rfl, ⟨by decide, by decide⟩, by decide +kernel, by decide +kernel, by decide +kernel, by decide⟩
theorem w_cat : WD ww_cat [99, 97, 116] 3 1 20 0 0 0 := ⟨rfl, ⟨by decide, by decide⟩, by decide +kernel, by decide +kernel, by decide +kernel, by decide⟩
theorem w_least : WD ww_least [108, 101, 97, 115, 116] 12 5 1 19 20 0 := ⟨rfl, ⟨by decide, by decide⟩, by decide +kernel, by decide +kernel, by decide +kernel, by decide⟩
theorem w_most : WD ww_most [109, 111, 115, 116] 13 15 19 20 0 0 := ⟨rfl, ⟨by decide, by decide⟩, by decide +kernel, by decide +kernel, by decide +kernel, by decide⟩
theorem w_size : WD ww_size [115, 105, 122, 101] 19 9 26 5 0 0 := ⟨rfl, ⟨by decide, by decide⟩, by decide +kernel, by decide +kernel, by decide +kernel, by decide⟩
theorem w_grow : WD ww_grow [103, 114, 111, 119] 7 18 15 23 0 0 := ⟨rfl, ⟨by decide, by decide⟩, by decide +kernel, by decide +kernel, by decide +kernel, by decide⟩
theorem w_hide : WD ww_hide [104, 105, 100, 101] 8 9 4 5 0 0 := ⟨rfl, ⟨by decide, by decide⟩, by decide +kernel, by decide +kernel, by decide +kernel, by decide⟩
theorem w_cats : WD ww_cats [99, 97, 116, 115] 3 1 20 19 0 0 := ⟨rfl, ⟨by decide, by decide⟩, by decide +kernel, by decide +kernel, by decide +kernel, by decide⟩
theorem w_night : WD ww_night [110, 105, 103, 104, 116] 14 9 7 8 20 0 := ⟨rfl, ⟨by decide, by decide⟩, by decide +kernel, by decide +kernel, by decide +kernel, by decide⟩
theorem w_mat : WD ww_mat [109, 97, 116] 13 1 20 0 0 0 := ⟨rfl, ⟨by decide, by decide⟩, by decide +kernel, by decide +kernel, by decide +kernel, by decide⟩
theorem w_call : WD ww_call [99, 97, 108, 108] 3 1 12 12 0 0 := ⟨rfl, ⟨by decide, by decide⟩, by decide +kernel, by decide +kernel, by decide +kernel, by decide⟩
theorem w_feed : WD ww_feed [102, 101, 101, 100] 6 5 5 4 0 0 := ⟨rfl, ⟨by decide, by decide⟩, by decide +kernel, by decide +kernel, by decide +kernel, by decide⟩
theorem w_join : WD ww_join [106, 111, 105, 110] 10 15 9 14 0 0 := ⟨rfl, ⟨by decide, by decide⟩, by decide +kernel, by decide +kernel, by decide +kernel, by decide⟩
theorem w_shut : WD ww_shut [115, 104, 117, 116] 19 8 21 20 0 0 := ⟨rfl, ⟨by decide, by decide⟩, by decide +kernel, by decide +kernel, by decide +kernel, by decide⟩
theorem w_again : WD ww_again [97, 103, 97, 105, 110] 1 7 1 9 14 0 := ⟨rfl, ⟨by decide, by decide⟩, by decide +kernel, by decide +kernel, by decide +kernel, by decide⟩
section TWD
variable {X : tx} {s t : hp_I} {p q k : Nat} {pl : Int32} {W : List Int32} {w : List Nat} {a b c d e f : Int32}
theorem wd_eq (h : JT X s t p q k pl) : wdB X (sk X q) k w = wdB X p k w := by
  by_cases e : k = 0
  · rw [h.2.2.1 e]
  · unfold wdB; rw [decide_eq_false e, Bool.false_and, Bool.false_and]
theorem wd_0 (h : wdB X p k w = true) : k = 0 := by unfold wdB at h; simp at h; exact h.1
theorem b_word (te : TE X) (h : JT X s t p q k pl) (hw : WD W w a b c d e f) : ∃ s' t' q', fn_Tape_takesWord 1 W s = some (bI (wdB X p k w), s') ∧ fn_M_isWord 52 a b c d e f t = some (bI (wdB X p k w), t') ∧ (wdB X p k w = false → JT X s' t' p q' k pl) ∧ (wdB X p k w = true → XT X s' (sk X (p + w.length)) k pl ∧ MT X t' p k pl) ∧ XF s s' ∧ MF t t' ∧ (k = 0 → q' = p) := by
  obtain ⟨hW, hok, hl, hc, hs, -⟩ := hw
  obtain ⟨s', a1, a2, a3⟩ := c_word te h.1 (w := w) hok.1 (fun i hi => by have := (hok.2 i hi).2; omega) hl hc
  obtain ⟨t', q', b1, b2, b3, b4⟩ := m_isWord te h.2.1 hok hs
  rw [wd_eq h] at b1
  refine ⟨s', t', q', by rw [hW]; exact a1, b1, fun g => ⟨?_, b2, fun h0 => ?_, h.2.2.2⟩, fun g => ⟨?_, ?_⟩, a3, b3, fun h0 => ?_⟩
  · rw [if_neg (by rw [g]; decide)] at a2; exact a2
  · rw [b4, if_pos h0, sk_sk te]; exact h.2.2.1 h0
  · rw [if_pos g] at a2; exact a2
  · rw [b4, if_pos (wd_0 g), h.2.2.1 (wd_0 g)] at b2; exact b2
  · rw [b4, if_pos h0]; exact h.2.2.1 h0
theorem b_skip (te : TE X) (hx : XT X s (sk X (p + w.length)) 0 (-1)) (h : MT X t p 0 (-1)) (hw : WD W w a b c d e f) (g : wdB X p k w = true) : ∃ t', fn_M_skipWord 52 t = some t' ∧ JT X s t' (sk X (p + w.length)) (p + w.length) 0 (-1) ∧ MF t t' ∧ p < sk X (p + w.length) := by
  obtain ⟨t', b1, b2, b3⟩ := m_skip te h
  rw [(wd_end te hw.2.1 g).1] at b2
  have h0 := hw.2.2.2.2.2
  exact ⟨t', b1, ⟨hx, b2, fun _ => rfl, fun _ => rfl⟩, b3, Nat.lt_of_lt_of_le (by omega) sk_ge⟩
/-- the class alone: no word while there is a fault -/
theorem c_noword (te : TE X) (h : XT X s p k pl) (hk : k ≠ 0) (hw : WD W w a b c d e f) : ∃ s', fn_Tape_takesWord 1 W s = some (0, s') ∧ XT X s' p k pl ∧ XF s s' := by
  obtain ⟨hW, hok, hl, hc, -, -⟩ := hw
  obtain ⟨s', a1, a2, a3⟩ := c_word te h (w := w) hok.1 (fun i hi => by have := (hok.2 i hi).2; omega) hl hc
  have g : wdB X p k w = false := by unfold wdB; rw [decide_eq_false hk, Bool.false_and]
  rw [g] at a1 a2
  exact ⟨s', by rw [hW]; exact a1, a2, a3⟩
end TWD
theorem hs_at {s : hp_I} {i k : Nat} {v : Int32} : hp_s s i k v i k = v := by rw [hp_s_i, upd_i]
theorem hs_ne {s : hp_I} {i k a b : Nat} {v : Int32} (h : a ≠ i ∨ b ≠ k) : hp_s s i k v a b = s a b := by
  by_cases e : a = i
  · subst e
    rw [hp_s_i, upd_n (by omega)]
  · rw [hp_s_n e]
section TNO
variable {X : tx} {s t : hp_I} {p q k : Nat} {pl : Int32}
theorem c_noexp (te : TE X) (h : XT X s p k pl) (hk : k ≠ 0) {c : Nat} (hc : c < 256) : ∃ s', fn_Tape_expect 1 (Int32.ofNat c) s = some s' ∧ XT X s' p k pl ∧ XF s s' := by
  obtain ⟨s', a1, a2, a3⟩ := c_expect te h hc
  have g : sgB X p k c = false := by unfold sgB; rw [decide_eq_false hk, Bool.false_and]
  simp only [g, Bool.false_eq_true, if_false, if_neg hk] at a2
  exact ⟨s', a1, a2, a3⟩
theorem c_fail0 (h : XT X s p 0 (-1)) {kd : Nat} (hk : kd < 10) (z : Int32) : ∃ s', fn_Tape_fail 1 (Int32.ofNat kd) z s = some s' ∧ XT X s' p kd z ∧ XF s s' := by
  obtain ⟨s', a1, a2, a3, -⟩ := c_fail h hk z
  rw [if_pos rfl, if_pos rfl] at a2
  exact ⟨s', a1, a2, a3⟩
theorem m_wrong0 (h : MT X t q 0 (-1)) {kd : Nat} (hk : kd < 10) (z : Int32) : ∃ t', fn_M_wrong 52 (Int32.ofNat kd) z t = some t' ∧ MT X t' q kd z ∧ MF t t' := by
  obtain ⟨t', b1, b2, b3⟩ := m_wrong h hk z
  rw [if_pos rfl, if_pos rfl] at b2
  exact ⟨t', b1, b2, b3⟩
end TNO

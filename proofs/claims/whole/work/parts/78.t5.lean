/-! TEXTS: class and model side by side -/
def JT (X : tx) (s t : hp_I) (p q k : Nat) (pl : Int32) : Prop := XT X s p k pl ∧ MT X t q k pl ∧ (k = 0 → sk X q = p) ∧ (k = 0 → pl = -1)
theorem sk_ge {X : tx} {i : Nat} : i ≤ sk X i := rn_ge _ 700 i
section TB
variable {X : tx} {s t : hp_I} {p q k : Nat} {pl : Int32}
theorem JT.le (h : JT X s t p q k pl) : p ≤ X.2 := h.1.2.1
theorem JT.skp (te : TE X) (h : JT X s t p q k pl) (h0 : k = 0) : sk X p = p := by rw [← h.2.2.1 h0]; exact sk_sk te q
theorem nm_eq (h : JT X s t p q k pl) (lo hi : Int32) : nmK X (sk X q) k lo hi = nmK X p k lo hi := by
  by_cases c : k = 0
  · rw [h.2.2.1 c]
  · unfold nmK; rw [if_neg c, if_neg c]
theorem nm_0 {lo hi : Int32} (h : nmK X p k lo hi = 0) : k = 0 ∧ de X p ≠ p ∧ inB (Int32.ofNat (nv X p)) lo hi = true := by
  unfold nmK at h
  by_cases c : k = 0
  · rw [if_pos c] at h
    by_cases d : de X p = p
    · rw [if_pos d] at h; cases h
    · rw [if_neg d] at h
      by_cases e : inB (Int32.ofNat (nv X p)) lo hi = true
      · exact ⟨c, d, e⟩
      · rw [if_neg e] at h; cases h
  · rw [if_neg c] at h; exact absurd h c
theorem nm_k {lo hi : Int32} (h : k ≠ 0) : nmK X p k lo hi = k := by unfold nmK; rw [if_neg h]
theorem de_gt (h : de X p ≠ p) : p < de X p := by
  have : p ≤ de X p := rn_ge _ 700 p
  omega
theorem b_num (te : TE X) (h : JT X s t p q k pl) (lo hi : Int32) : ∃ s' t' v p' q' k' pl', fn_Tape_number 1 lo hi s = some (Int32.ofNat v, s') ∧ fn_M_number 52 lo hi t = some (if k' = 0 then Int32.ofNat v else 0, t') ∧ JT X s' t' p' q' k' pl' ∧ XF s s' ∧ MF t t' ∧ s' 1 6 = Int32.ofNat p ∧ v ≤ 100000 ∧ (k' = 0 → k = 0 ∧ inB (Int32.ofNat v) lo hi = true ∧ p < p') ∧ (k ≠ 0 → k' = k ∧ pl' = pl) := by
  obtain ⟨s', a1, a2, a3, a4⟩ := c_num te h.1 lo hi
  obtain ⟨t', q', b1, b2, b3, b4⟩ := m_num te h.2.1 lo hi
  rw [nm_eq h] at b1 b2
  refine ⟨s', t', nv X p, sk X (de X p), q', nmK X p k lo hi, if nmK X p k lo hi = k then pl else Int32.ofNat p, a1, ?_, ⟨a2, ?_, fun h0 => ?_, fun h0 => ?_⟩, a3, b3, a4, dv_le X 700 p 0 (by decide), fun h0 => ?_, fun h0 => ?_⟩
  · rw [b1]
    by_cases c : nmK X p k lo hi = 0
    · rw [if_pos c, if_pos c, h.2.2.1 (nm_0 c).1]
    · rw [if_neg c, if_neg c]
  · by_cases c : nmK X p k lo hi = k
    · rw [if_pos c] at b2 ⊢
      exact b2
    · have hk : k = 0 := by
        by_cases e : k = 0
        · exact e
        · exact absurd (nm_k e) c
      rw [if_neg c] at b2 ⊢
      rw [h.2.2.1 hk] at b2
      exact b2
  · rw [b4 (nm_0 h0).1, h.2.2.1 (nm_0 h0).1]
  · rw [if_pos (by rw [h0, (nm_0 h0).1])]; exact h.2.2.2 (nm_0 h0).1
  · exact ⟨(nm_0 h0).1, (nm_0 h0).2.2, Nat.lt_of_lt_of_le (de_gt (nm_0 h0).2.1) sk_ge⟩
  · exact ⟨nm_k h0, by rw [if_pos (nm_k h0)]⟩
theorem sg_eq (h : JT X s t p q k pl) (c : Nat) : sgB X (sk X q) k c = sgB X p k c := by
  by_cases e : k = 0
  · rw [h.2.2.1 e]
  · unfold sgB; rw [decide_eq_false e, Bool.false_and, Bool.false_and]
theorem sg_0 {c : Nat} (h : sgB X p k c = true) : k = 0 ∧ p < X.2 ∧ X.1 p = c := by unfold sgB at h; simp at h; exact h
theorem b_sign (te : TE X) (h : JT X s t p q k pl) {c : Nat} (hc : c < 256) : ∃ s' t' p' q' k' pl', fn_Tape_expect 1 (Int32.ofNat c) s = some s' ∧ fn_M_sign 52 (Int32.ofNat c) t = some t' ∧ JT X s' t' p' q' k' pl' ∧ XF s s' ∧ MF t t' ∧ (k' = 0 → k = 0 ∧ p < p') ∧ (k ≠ 0 → k' = k ∧ pl' = pl) := by
  obtain ⟨s', a1, a2, a3⟩ := c_expect te h.1 hc
  obtain ⟨t', q', b1, b2, b3, b4⟩ := m_sign te h.2.1 hc
  rw [sg_eq h] at b2 b4
  by_cases g : sgB X p k c = true
  · simp only [if_pos g] at a2 b2
    refine ⟨s', t', _, q', k, pl, a1, b1, ⟨a2, b2, fun h0 => ?_, h.2.2.2⟩, a3, b3, fun h0 => ⟨h0, Nat.lt_of_lt_of_le (Nat.lt_succ_self p) sk_ge⟩, fun h0 => ⟨rfl, rfl⟩⟩
    rw [b4 g, h.2.2.1 h0]
  · simp only [if_neg g] at a2 b2
    by_cases c0 : k = 0
    · simp only [if_pos c0] at a2 b2
      rw [h.2.2.1 c0] at b2
      exact ⟨s', t', p, q', 1, Int32.ofNat p, a1, b1, ⟨a2, b2, fun h0 => (by cases h0), fun h0 => (by cases h0)⟩, a3, b3, fun h0 => (by cases h0), fun h0 => absurd c0 h0⟩
    · simp only [if_neg c0] at a2 b2
      exact ⟨s', t', p, q', k, pl, a1, b1, ⟨a2, b2, fun h0 => absurd h0 c0, h.2.2.2⟩, a3, b3, fun h0 => absurd h0 c0, fun h0 => ⟨rfl, rfl⟩⟩
theorem b_takes (te : TE X) (h : JT X s t p q k pl) {c : Nat} (hc : c < 256) : ∃ s' t' p' q', fn_Tape_takesSign 1 (Int32.ofNat c) s = some (bI (sgB X p k c), s') ∧ fn_M_takesSign 52 (Int32.ofNat c) t = some (bI (sgB X p k c), t') ∧ JT X s' t' p' q' k pl ∧ XF s s' ∧ MF t t' ∧ (sgB X p k c = true → k = 0 ∧ p < p') ∧ (sgB X p k c = false → p' = p) := by
  obtain ⟨s', a1, a2, a3⟩ := c_sign te h.1 hc
  obtain ⟨t', q', b1, b2, b3, b4⟩ := m_takes te h.2.1 hc
  rw [sg_eq h] at b1 b4
  refine ⟨s', t', _, q', a1, b1, ⟨a2, b2, fun h0 => ?_, h.2.2.2⟩, a3, b3, fun g => ⟨(sg_0 g).1, ?_⟩, fun g => ?_⟩
  · rw [b4 h0]
    by_cases g : sgB X p k c = true
    · rw [if_pos g, if_pos g, h.2.2.1 h0]
    · rw [if_neg g, if_neg g, sk_sk te, h.2.2.1 h0]
  · rw [if_pos g]; exact Nat.lt_of_lt_of_le (Nat.lt_succ_self p) sk_ge
  · rw [g]; rfl
theorem b_fail (h : JT X s t p q k pl) {kd : Nat} (hk : kd < 10) (h0 : 0 < kd) (z : Int32) : ∃ s' t', fn_Tape_fail 1 (Int32.ofNat kd) z s = some s' ∧ fn_M_wrong 52 (Int32.ofNat kd) z t = some t' ∧ JT X s' t' p q (if k = 0 then kd else k) (if k = 0 then z else pl) ∧ XF s s' ∧ MF t t' ∧ s' 1 6 = s 1 6 := by
  obtain ⟨s', a1, a2, a3, a4⟩ := c_fail h.1 hk z
  obtain ⟨t', b1, b2, b3⟩ := m_wrong h.2.1 hk z
  refine ⟨s', t', a1, b1, ⟨a2, b2, fun e => ?_, fun e => ?_⟩, a3, b3, a4⟩
  · by_cases c0 : k = 0
    · rw [if_pos c0] at e; omega
    · rw [if_neg c0] at e; exact absurd e c0
  · by_cases c0 : k = 0
    · rw [if_pos c0] at e; omega
    · rw [if_neg c0] at e; exact absurd e c0
/-- blanks: the model's own -/
theorem b_blanks (te : TE X) (h : JT X s t p q k pl) : ∃ t' q', fn_M_blanks 52 t = some t' ∧ JT X s t' p q' k pl ∧ MF t t' ∧ (k = 0 → q' = p) := by
  obtain ⟨t', b1, b2, b3⟩ := m_blanks te h.2.1
  exact ⟨t', sk X q, b1, ⟨h.1, b2, fun h0 => by rw [sk_sk te]; exact h.2.2.1 h0, h.2.2.2⟩, b3, fun h0 => h.2.2.1 h0⟩
/-- a number that is there twice -/
theorem b_dup {P : Prop} [Decidable P] {z x v : Int32} (h : JT X s t p q k pl) (h6 : s 1 6 = z) (hm : k = 0 → fn_M_has x v = some (bI (decide P))) : ∃ s' t' k' pl', (∀ {α : Type} (J : hp_I → Option α), (if bI (decide (k ≠ 0)) = 0 then (if P then Option.bind (fn_Tape_failLatestNumber 1 s) J else J s) else J s) = J s') ∧ (∀ {β : Type} (J' : hp_I → Option β), (if t 52 5 = 0 then (Option.bind (fn_M_has x v) fun z36 => if z36 = 0 then J' t else Option.bind (fn_M_wrong 52 (2 : Int32) z t) J') else J' t) = J' t') ∧ JT X s' t' p q k' pl' ∧ XF s s' ∧ MF t t' ∧ (k' = 0 → k = 0 ∧ ¬ P) ∧ (k ≠ 0 → k' = k ∧ pl' = pl) := by
  obtain ⟨s', t', a1, a2, a3, a4, a5, -⟩ := b_fail h (kd := 2) (by decide) (by decide) z
  rw [h.2.1.1.2.2.1]
  by_cases c0 : k = 0
  · rw [decide_eq_false (show ¬ k ≠ 0 from fun e => e c0), hm c0]
    have c1 : fn_Tape_failLatestNumber 1 s = some s' := by
      unfold fn_Tape_failLatestNumber
      rw [h6, show fn_Tape_fail 1 (2 : Int32) z s = some s' from a1, e_bd]
    by_cases hp : P
    · refine ⟨s', t', _, _, fun J => ?_, fun J' => ?_, a3, a4, a5, fun e => ?_, fun e => absurd c0 e⟩
      · rw [if_pos (show bI false = 0 from rfl), if_pos hp, c1, e_bd]
      · rw [if_pos ((k_0 h.2.1.2.2.1).mpr c0), e_bd, decide_eq_true hp, if_neg (show ¬ bI true = 0 from by decide), show fn_M_wrong 52 (2 : Int32) z t = some t' from a2, e_bd]
      · rw [if_pos c0] at e; cases e
    · refine ⟨s, t, k, pl, fun J => ?_, fun J' => ?_, h, XF.refl, MF.refl, fun e => ⟨e, hp⟩, fun e => ⟨rfl, rfl⟩⟩
      · rw [if_pos (show bI false = 0 from rfl), if_neg hp]
      · rw [if_pos ((k_0 h.2.1.2.2.1).mpr c0), e_bd, decide_eq_false hp, if_pos (show bI false = 0 from rfl)]
  · refine ⟨s, t, k, pl, fun J => ?_, fun J' => ?_, h, XF.refl, MF.refl, fun e => absurd e c0, fun e => ⟨rfl, rfl⟩⟩
    · rw [decide_eq_true (show k ≠ 0 from c0), if_neg (show ¬ bI true = 0 from by decide)]
    · rw [if_neg (fun e => c0 ((k_0 h.2.1.2.2.1).mp e))]
end TB
/-- frames: the model's cell 52, and what P names -/
def MG (P J : Nat → Prop) (t t' : hp_I) : Prop := (∀ i, i ≠ 52 → ¬ P i → t' i = t i) ∧ ∀ j, j ≠ 4 → j ≠ 5 → j ≠ 6 → ¬ J j → t' 52 j = t 52 j
theorem MG.refl {P J : Nat → Prop} {t : hp_I} : MG P J t t := ⟨fun _ _ _ => rfl, fun _ _ _ _ _ => rfl⟩
theorem MG.trans {P J : Nat → Prop} {a b c : hp_I} (h1 : MG P J a b) (h2 : MG P J b c) : MG P J a c := ⟨fun i hi hp => (h2.1 i hi hp).trans (h1.1 i hi hp), fun j a1 a2 a3 a4 => (h2.2 j a1 a2 a3 a4).trans (h1.2 j a1 a2 a3 a4)⟩
theorem MF.g {P J : Nat → Prop} {t t' : hp_I} (h : MF t t') : MG P J t t' := ⟨fun i hi _ => h.1 i hi, fun j a1 a2 a3 _ => h.2 j a1 a2 a3⟩
theorem MG.put {P J : Nat → Prop} {t : hp_I} {i k : Nat} {v : Int32} (h : P i) (h52 : i ≠ 52) : MG P J t (hp_s t i k v) := ⟨fun j _ hj => hp_s_n (fun e => hj (by rw [e]; exact h)), fun j _ _ _ _ => by rw [hp_s_n (show 52 ≠ i from fun e => h52 e.symm)]⟩
theorem MG.slot {P J : Nat → Prop} {t : hp_I} {k : Nat} {v : Int32} (h : J k) : MG P J t (hp_s t 52 k v) := ⟨fun j hj _ => hp_s_n hj, fun j _ _ _ a4 => by rw [hp_s_i, upd_n (fun e => a4 (by rw [e]; exact h))]⟩
def XG (P : Nat → Prop) (s s' : hp_I) : Prop := (∀ i, i ≠ 1 → ¬ P i → s' i = s i) ∧ s' 1 1 = s 1 1
theorem XG.refl {P : Nat → Prop} {s : hp_I} : XG P s s := ⟨fun _ _ _ => rfl, rfl⟩
theorem XG.trans {P : Nat → Prop} {a b c : hp_I} (h1 : XG P a b) (h2 : XG P b c) : XG P a c := ⟨fun i hi hp => (h2.1 i hi hp).trans (h1.1 i hi hp), h2.2.trans h1.2⟩
theorem XF.g {P : Nat → Prop} {s s' : hp_I} (h : XF s s') : XG P s s' := ⟨fun i hi _ => h.1 i hi, h.2⟩
theorem XG.put {P : Nat → Prop} {s : hp_I} {i k : Nat} {v : Int32} (h : P i) (h1 : i ≠ 1) : XG P s (hp_s s i k v) := ⟨fun j _ hj => hp_s_n (fun e => hj (by rw [e]; exact h)), by rw [hp_s_n (show 1 ≠ i from fun e => h1 e.symm)]⟩
theorem XT.put {X : tx} {s : hp_I} {p k i j : Nat} {pl v : Int32} (h : XT X s p k pl) (h1 : i ≠ 1) (h2 : i ≠ 2) : XT X (hp_s s i j v) p k pl := by
  unfold XT
  rw [hp_s_n (show 1 ≠ i from fun e => h1 e.symm), hp_s_n (show 2 ≠ i from fun e => h2 e.symm)]
  exact h
theorem MT.put {X : tx} {t : hp_I} {q k i j : Nat} {pl v : Int32} (h : MT X t q k pl) (h1 : i ≠ 52) (h2 : i ≠ 53) : MT X (hp_s t i j v) q k pl := by
  unfold MT
  rw [hp_s_n (show 52 ≠ i from fun e => h1 e.symm), hp_s_n (show 53 ≠ i from fun e => h2 e.symm)]
  exact h
theorem MT.slot {X : tx} {t : hp_I} {q k j : Nat} {pl v : Int32} (h : MT X t q k pl) (h2 : j ≠ 2) (h4 : j ≠ 4) (h5 : j ≠ 5) (h6 : j ≠ 6) : MT X (hp_s t 52 j v) q k pl := by
  unfold MT
  rw [hp_s_i, upd_n (fun e => h2 e.symm), upd_n (fun e => h4 e.symm), upd_n (fun e => h5 e.symm), upd_n (fun e => h6 e.symm), hp_s_n (show 53 ≠ 52 by decide)]
  exact h
/-! the text is opened -/
section TO
variable {X : tx} {σ : hp_I} {n m : Nat}
theorem c_open (te : TE X) (h1 : σ 1 1 = Int32.ofNat n) (hm : X.2 ≤ n) (hn : n ≤ 600) (hb : ∀ i, i < X.2 → σ 2 i = Int32.ofNat (X.1 i)) : ∃ s, fn_Tape_open 1 (Int32.ofNat X.2) σ = some s ∧ XT X s (sk X 0) 0 (-1) ∧ (∀ i, i ≠ 1 → s i = σ i) ∧ s 1 1 = 0 := by
  unfold fn_Tape_open
  have e1 : px_min (Int32.ofNat X.2) (σ 1 1) = Int32.ofNat X.2 := by
    rw [h1]
    unfold px_min
    rw [if_neg (zl_nlt hm (by omega))]
  rw [e1]
  simp only [e_let]
  have x1 : XT X (hp_s (hp_s (hp_s (hp_s (hp_s σ 1 2 (Int32.ofNat X.2)) 1 1 0) 1 4 0) 1 5 (-1)) 1 3 (Int32.ofNat 0)) 0 0 (-1) := by
    refine ⟨⟨?_, ?_, ?_, ?_⟩, Nat.zero_le _, by decide, fun i hi => ?_⟩
    · rw [hp_s_i, upd_n (by decide), hp_s_i, upd_n (by decide), hp_s_i, upd_n (by decide), hp_s_i, upd_n (by decide), hp_s_i, upd_i]
    · rw [hp_s_i, upd_i]
    · rw [hp_s_i, upd_n (by decide), hp_s_i, upd_n (by decide), hp_s_i, upd_i]; rfl
    · rw [hp_s_i, upd_n (by decide), hp_s_i, upd_i]
    · rw [hp_s_n (by decide), hp_s_n (by decide), hp_s_n (by decide), hp_s_n (by decide), hp_s_n (by decide)]; exact hb i hi
  obtain ⟨s, a1, a2, a3, a4⟩ := c_move te x1 (i := 0) (Nat.zero_le _)
  have f1 : ∀ (f : hp_I), fn_Tape_moveTo 1 (Int32.ofNat 0) (hp_s f 1 3 (Int32.ofNat 0)) = fn_Tape_moveTo 1 (Int32.ofNat 0) f := by
    intro f
    unfold fn_Tape_moveTo
    simp only [e_let]
    congr 1
    funext a
    unfold hp_s
    by_cases e : a = 1
    · simp only [e, if_true]
      funext b
      unfold upd
      split <;> rfl
    · simp only [e, if_false]
  rw [f1] at a1
  refine ⟨s, ?_, a2, fun i hi => ?_, ?_⟩
  · rw [show fn_Tape_moveTo 1 (0 : Int32) _ = some s from a1, e_bd]
  · rw [a3.1 i hi, hp_s_n hi, hp_s_n hi, hp_s_n hi, hp_s_n hi, hp_s_n hi]
  · rw [a3.2, hp_s_i, upd_n (by decide), hp_s_i, upd_n (by decide), hp_s_i, upd_n (by decide), hp_s_i, upd_i]
theorem m_starts (te : TE X) (hb : ∀ i, i < X.2 → σ 53 i = Int32.ofNat (X.1 i)) : ∃ s, fn_M_starts 52 (Int32.ofNat X.2) σ = some s ∧ MT X s (sk X 0) 0 (-1) ∧ (∀ i, i ≠ 52 → s i = σ i) ∧ s 52 1 = 0 ∧ s 52 7 = 0 ∧ s 52 8 = 0 ∧ ∀ j, j = 0 ∨ j = 3 ∨ 8 < j → s 52 j = σ 52 j := by
  unfold fn_M_starts
  simp only [e_let]
  have x1 : MT X (hp_s (hp_s (hp_s (hp_s (hp_s (hp_s (hp_s σ 52 1 0) 52 2 (Int32.ofNat X.2)) 52 4 0) 52 5 0) 52 6 (-1)) 52 7 0) 52 8 0) 0 0 (-1) := by
    refine ⟨⟨?_, ?_, ?_, ?_⟩, Nat.zero_le _, by decide, fun i hi => ?_⟩
    · rw [hp_s_i, upd_n (by decide), hp_s_i, upd_n (by decide), hp_s_i, upd_n (by decide), hp_s_i, upd_n (by decide), hp_s_i, upd_n (by decide), hp_s_i, upd_i]
    · rw [hp_s_i, upd_n (by decide), hp_s_i, upd_n (by decide), hp_s_i, upd_n (by decide), hp_s_i, upd_n (by decide), hp_s_i, upd_i]; rfl
    · rw [hp_s_i, upd_n (by decide), hp_s_i, upd_n (by decide), hp_s_i, upd_n (by decide), hp_s_i, upd_i]; rfl
    · rw [hp_s_i, upd_n (by decide), hp_s_i, upd_n (by decide), hp_s_i, upd_i]
    · rw [hp_s_n (by decide), hp_s_n (by decide), hp_s_n (by decide), hp_s_n (by decide), hp_s_n (by decide), hp_s_n (by decide), hp_s_n (by decide)]; exact hb i hi
  obtain ⟨s, a1, a2, a3⟩ := m_blanks te x1
  refine ⟨s, ?_, a2, fun i hi => ?_, ?_, ?_, ?_, fun j hj => ?_⟩
  · rw [a1, e_bd]
  · rw [a3.1 i hi, hp_s_n hi, hp_s_n hi, hp_s_n hi, hp_s_n hi, hp_s_n hi, hp_s_n hi, hp_s_n hi]
  · rw [a3.2 1 (by decide) (by decide) (by decide), hp_s_i, upd_n (by decide), hp_s_i, upd_n (by decide), hp_s_i, upd_n (by decide), hp_s_i, upd_n (by decide), hp_s_i, upd_n (by decide), hp_s_i, upd_n (by decide), hp_s_i, upd_i]
  · rw [a3.2 7 (by decide) (by decide) (by decide), hp_s_i, upd_n (by decide), hp_s_i, upd_i]
  · rw [a3.2 8 (by decide) (by decide) (by decide), hp_s_i, upd_i]
  · rw [a3.2 j (by omega) (by omega) (by omega), hp_s_i, upd_n (by omega), hp_s_i, upd_n (by omega), hp_s_i, upd_n (by omega), hp_s_i, upd_n (by omega), hp_s_i, upd_n (by omega), hp_s_i, upd_n (by omega), hp_s_i, upd_n (by omega)]
end TO
/-! a call that reads a text -/
theorem min_of {a b : Nat} (ha : a < 2147483648) (hb : b < 2147483648) : px_min (Int32.ofNat a) (Int32.ofNat b) = Int32.ofNat (min a b) := by
  unfold px_min
  by_cases h : b < a
  · rw [if_pos (zl_lt h ha), Nat.min_eq_right (by omega)]
  · rw [if_neg (zl_nlt (by omega) hb), Nat.min_eq_left (by omega)]
theorem in_min {v : Int32} {a b : Nat} (ha : a < 2147483648) (hb : b < 2147483648) : inB v 0 (Int32.ofNat (min a b)) = (inB v 0 (Int32.ofNat a) && !decide (Int32.ofNat b < v)) := by
  have e1 : inB v 0 (Int32.ofNat (min a b)) = true ↔ (inB v 0 (Int32.ofNat a) && !decide (Int32.ofNat b < v)) = true := by
    rw [Bool.and_eq_true, Bool.not_eq_true', decide_eq_false_iff_not, inB_t, inB_t]
    simp only [Int32.le_iff_toInt_le, Int32.lt_iff_toInt_lt, zi_toInt ha, zi_toInt hb, zi_toInt (show min a b < 2147483648 by omega)]
    omega
  exact Bool.eq_iff_iff.mpr e1
def txX (σ : hp_I) (m : Nat) : tx := (fun i => (σ 2 i).toNatClampNeg, m)
theorem x_open {σ : hp_I} {n most : Nat} {v : Int32} (hn : n ≤ 600) (t1 : σ 1 1 = Int32.ofNat n) (t3 : ∀ k, k < n → σ 53 k = σ 2 k ∧ zB (σ 2 k) 256) (hmost : most ≤ 600) : (inB v 0 (Int32.ofNat (min n most)) = false ∧ fn_X_openText 0 v (Int32.ofNat most) σ = some (.inl (1, hp_s σ 0 15 (σ 0 15 + 1)))) ∨ (inB v 0 (Int32.ofNat (min n most)) = true ∧ ∃ m s, m ≤ most ∧ m ≤ n ∧ v = Int32.ofNat m ∧ TE (txX σ m) ∧ (∀ i, i < m → σ 2 i = Int32.ofNat ((txX σ m).1 i) ∧ σ 53 i = Int32.ofNat ((txX σ m).1 i)) ∧ fn_X_openText 0 v (Int32.ofNat most) σ = some (.inr s) ∧ XT (txX σ m) s (sk (txX σ m) 0) 0 (-1) ∧ (∀ i, i ≠ 1 → s i = σ i) ∧ s 1 1 = 0) := by
  unfold fn_X_openText fn_Tape_bytesOnIt
  rw [xf_0, e_bd, t1, min_of (by omega) (by omega), xd_in']
  by_cases hv : inB v 0 (Int32.ofNat (min n most)) = true
  · right
    refine ⟨hv, ?_⟩
    obtain ⟨m, hm, rfl⟩ := zB_in (by omega) hv
    have hb : ∀ i, i < m → σ 2 i = Int32.ofNat ((txX σ m).1 i) ∧ (txX σ m).1 i < 256 := fun i hi => by
      obtain ⟨c1, c2⟩ := zB_nat (by decide) (t3 i (by omega)).2
      exact ⟨c2, c1⟩
    have te : TE (txX σ m) := ⟨show m ≤ 600 by omega, fun i hi => (hb i hi).2⟩
    obtain ⟨s, a1, a2, a3, a4⟩ := c_open (X := txX σ m) (σ := σ) (n := n) te t1 (show m ≤ n by omega) hn (fun i hi => (hb i hi).1)
    refine ⟨m, s, by omega, by omega, rfl, te, fun i hi => ⟨(hb i hi).1, by rw [(t3 i (by omega)).1]; exact (hb i hi).1⟩, ?_, a2, a3, a4⟩
    rw [if_pos hv, e_bxr, show fn_Tape_open 1 (Int32.ofNat m) σ = some s from a1, e_bd]
  · left
    rw [if_neg hv, e_bxl]
    exact ⟨by simpa using hv, rfl⟩
/-- the model's gate: within the tape, and not longer than so many -/
theorem m_gate {β : Type} {F : Int32 → Option β} {v : Int32} {n most : Nat} (hn : n < 2147483648) (hm : most < 2147483648) : (Option.bind (fn_M_in v 0 (Int32.ofNat n)) fun z2 => px_jn F fun j47 => px_jn (j47 (1 : Int32)) fun j48 => if z2 = 0 then j48 else (if Int32.ofNat most < v then j48 else j47 (0 : Int32))) = F (bI (!inB v 0 (Int32.ofNat (min n most)))) := by
  rw [ms_in', e_bd, e_jn, e_jn, in_min hn hm]
  by_cases h1 : inB v 0 (Int32.ofNat n) = true
  · rw [h1, if_neg (show ¬ bI true = 0 from by decide), Bool.true_and, Bool.not_not]
    by_cases h2 : Int32.ofNat most < v
    · rw [if_pos h2, decide_eq_true h2]; rfl
    · rw [if_neg h2, decide_eq_false h2]; rfl
  · rw [Bool.not_eq_true] at h1
    rw [h1, if_pos (show bI false = 0 from rfl)]; rfl
theorem ask_t {e : Option (px_X (Int32 × hp_I))} {m : hp_I → Option (Int32 × hp_I)} {v : Int32} {s1 s3 : hp_I} {τ : hp_L} {j : hp_I → hp_L → Option Int32} (he : e = some (.inr (v, s1))) (hm : m s1 = some (v, s3)) (h0 : s3 52 0 = 0) (r : REL s3) : ∃ s3 u3, (px_b3 (px_c1 e (fun s => some ((1 : Int32), s, τ)) (fun a => Option.bind (px_lst τ 601 (0 : Int32) a.1.toInt64) fun u2 => some ((0 : Int32), a.2, u2))) fun k s1 u => px_b2 (m s1) fun b s => ltail k b s u j) = j s3 u3 ∧ REL s3 := by
  refine ⟨s3, hp_t τ 601 0 v.toInt64, ?_, r⟩
  rw [he, e_c1r, tau_st, e_bd, e_b3, hm, e_b2]
  unfold ltail fn_M_thrown
  rw [e_bd, h0, if_pos rfl, if_pos rfl, tau_ld, e_bd, cmp_self, if_pos rfl]

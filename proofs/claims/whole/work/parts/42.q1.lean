/-! QUESTIONS -/
theorem xq_v {σ : hp_I} {v : Int32} {e : Option (px_X (Int32 × hp_I))} (h : e = some (.inr (v, σ))) : XQ σ e 0 v := Or.inl ⟨rfl, σ, h, Fc.refl⟩
theorem xq_f {σ σ' : hp_I} {v : Int32} {e : Option (px_X (Int32 × hp_I))} (h : e = some (.inr (v, σ'))) (f : Fc SXQ σ σ') : XQ σ e 0 v := Or.inl ⟨rfl, σ', h, f⟩
theorem xq_1 {σ : hp_I} {v : Int32} {e : Option (px_X (Int32 × hp_I))} (h : e = some (.inl (0, hp_s σ 0 14 (σ 0 14 + 1)))) : XQ σ e 1 v := Or.inr (Or.inl ⟨rfl, h⟩)
theorem xq_2 {σ : hp_I} {v : Int32} {e : Option (px_X (Int32 × hp_I))} (h : e = some (.inl (1, hp_s σ 0 15 (σ 0 15 + 1)))) : XQ σ e 2 v := Or.inr (Or.inr ⟨rfl, h⟩)
theorem fm_0 {σ : hp_I} : FM σ (hp_s σ 52 0 0) := ⟨Fc.put (by decide), fun k hk => by
  rw [hp_s_i, upd_n]
  intro e
  rw [e] at hk
  exact absurd hk (by decide)⟩
theorem FM.trans {a b c : hp_I} (h1 : FM a b) (h2 : FM b c) : FM a c := ⟨h1.1.trans h2.1, fun k hk => (h2.2 k hk).trans (h1.2 k hk)⟩
theorem fm_bad {σ : hp_I} {t : Int32} {r : Nat} : FM σ (mbad σ t r) := by
  unfold mbad
  refine ⟨(Fc.put (by decide)).trans (Fc.put (by decide)), fun k hk => ?_⟩
  rw [hp_s_n (show 52 ≠ 54 by decide), hp_s_i, upd_n]
  intro e
  rw [e] at hk
  exact absurd hk (by decide)
theorem fm_f {σ σ' : hp_I} (f : Fc [489, 490, 573, 574, 596, 597, 598, 599] σ σ') : FM σ σ' := ⟨f.mono (by intro i hi; revert hi; unfold SMQ; simp only [List.mem_cons, List.not_mem_nil, or_false]; omega), fun k _ => congrFun (f 52 (by decide)) k⟩
/-- what is left of an answer -/
theorem mq_v {σ σ' : hp_I} {v t2 : Int32} {e : Option (Int32 × hp_I)} (h : e = some (v, σ')) (f : FM (hp_s σ 52 0 0) σ') (h0 : σ' 52 0 = 0) (h54 : σ' 54 = σ 54) : MQs σ e 0 v t2 := ⟨v, σ', h, fm_0.trans f, fun _ => ⟨rfl, h0, h54⟩, fun h => absurd h (by decide), fun h => absurd h (by decide)⟩
theorem mq_v0 {σ : hp_I} {v t2 : Int32} {e : Option (Int32 × hp_I)} (h : e = some (v, hp_s σ 52 0 0)) : MQs σ e 0 v t2 := mq_v h ⟨Fc.refl, fun _ _ => rfl⟩ (by rw [hp_s_i, upd_i]) (hp_s_n (by decide))
theorem mq_1 {σ : hp_I} {v v' t2 : Int32} {e : Option (Int32 × hp_I)} (h : e = some (v', mbad (hp_s σ 52 0 0) 1 0)) : MQs σ e 1 v t2 := by
  refine ⟨v', _, h, fm_0.trans fm_bad, fun h => absurd h (by decide), fun _ => ⟨?_, ?_, ?_⟩, fun h => absurd h (by decide)⟩
  · unfold mbad; rw [hp_s_n (show 52 ≠ 54 by decide), hp_s_i, upd_i]
  · unfold mbad; rw [hp_s_i, upd_i, hp_s_n (show 54 ≠ 52 by decide)]
  · unfold mbad; rw [hp_s_i, upd_n (by decide), hp_s_n (show 54 ≠ 52 by decide), hp_s_n (show 54 ≠ 52 by decide)]
theorem mq_2 {σ : hp_I} {v v' t2 : Int32} {e : Option (Int32 × hp_I)} (h : e = some (v', mbad (hp_s σ 52 0 0) t2 1)) : MQs σ e 2 v t2 := by
  refine ⟨v', _, h, fm_0.trans fm_bad, fun h => absurd h (by decide), fun h => absurd h (by decide), fun _ => ⟨?_, ?_, ?_⟩⟩
  · unfold mbad; rw [hp_s_n (show 52 ≠ 54 by decide), hp_s_i, upd_i]
  · unfold mbad; rw [hp_s_i, upd_n (by decide), hp_s_n (show 54 ≠ 52 by decide), hp_s_n (show 54 ≠ 52 by decide)]
  · unfold mbad; rw [hp_s_i, upd_i, hp_s_n (show 54 ≠ 52 by decide)]
theorem s0_0 {σ : hp_I} : hp_s σ 52 0 0 52 0 = 0 := by rw [hp_s_i, upd_i]
theorem cm_0 {σ : hp_I} {A : ab_A} (ok : AOK A) (h : CM σ A) : CM (hp_s σ 52 0 0) A := h.m ok fm_0
/-- the model's two ways to refuse -/
theorem bI_if {b : Bool} {ρ : Type} {x y : ρ} : (if bI b = 0 then x else y) = if b = true then y else x := by cases b <;> rfl
theorem not_if {b : Bool} {ρ : Type} {f : Int32 → ρ} : (if b = true then f 0 else f 1) = f (bI (!b)) := by cases b <;> rfl
theorem md_bad1 {σ : hp_I} {b : Bool} (r : Nat) (h0 : σ 52 0 = 0) (hr : r < 2) : fn_M_bad 52 (bI b) 1 (Int32.ofNat r) σ = if b = true then some (1, mbad σ 1 r) else some (0, σ) := md_bad h0 (by decide) hr
theorem md_bad2 {σ : hp_I} {b : Bool} (r : Nat) (h0 : σ 52 0 = 0) (hr : r < 2) : fn_M_bad 52 (bI b) 2 (Int32.ofNat r) σ = if b = true then some (1, mbad σ 2 r) else some (0, σ) := md_bad h0 (by decide) hr
def inB (a lo hi : Int32) : Bool := decide (lo ≤ a) && decide (a ≤ hi)
theorem inB_t {a lo hi : Int32} : (inB a lo hi = true) = (lo ≤ a ∧ a ≤ hi) := by unfold inB; simp
theorem zB_in {a : Int32} {n : Nat} (hn : n < 2147483647) (h : inB a 0 (Int32.ofNat n) = true) : zB a (n + 1) := by
  rw [inB_t] at h
  refine zB_of (by omega) h.1 ?_
  have h2 := Int32.le_iff_toInt_le.mp h.2
  rw [zi_toInt (by omega)] at h2
  rw [Int32.lt_iff_toInt_lt, zi_toInt (by omega)]
  omega
/-- one of so many -/
def oneB (a : Int32) (n : Nat) : Bool := decide (0 ≤ a) && decide (a < Int32.ofNat n)
theorem oneB_t {a : Int32} {n : Nat} : (oneB a n = true) = (0 ≤ a ∧ a < Int32.ofNat n) := by unfold oneB; simp
theorem oneB_z {a : Int32} {n : Nat} (hn : n < 2147483648) (h : oneB a n = true) : zB a n := by
  rw [oneB_t] at h
  exact zB_of hn h.1 h.2
theorem md_thing' {σ : hp_I} {H : ab_H} (hm : HM σ H) {k n : Nat} (hk : k < 4) (hn : n < 2147483648) (e : σ 56 k = Int32.ofNat n) {p : Int32} : fn_M_isThing 52 (Int32.ofNat k) p σ = some (bI (oneB p n)) := by
  rw [md_thing hm hk, e]
  unfold oneB
  have := le_pred (p := p) hn
  by_cases h : 0 ≤ p ∧ p < Int32.ofNat n
  · have h2 := this.mpr h
    simp [h.1, h.2, h2.2]
  · by_cases h1 : 0 ≤ p
    · have h3 : ¬ p < Int32.ofNat n := fun q => h ⟨h1, q⟩
      have h4 : ¬ p ≤ Int32.ofNat n - 1 := fun q => h3 (this.mp ⟨h1, q⟩).2
      simp [h3, h4]
    · simp [h1]
theorem cnt_lt {H : ab_H} (ok : HOK H) : hR H < 100 ∧ hW H < 100 ∧ hS H < 100 ∧ hC H < 100 := by
  obtain ⟨a, b, c, d, -⟩ := ok
  omega
theorem xd_in' {a b c : Int32} {σ : hp_I} : fn_X_demandWithin 0 a b c σ = if inB a b c = true then some (.inr σ) else some (.inl (1, hp_s σ 0 15 (σ 0 15 + 1))) := by rw [xd_in]; simp only [inB_t]
theorem xd_one' {a : Int32} {n : Nat} {σ : hp_I} : fn_X_demandOneOf 0 a (Int32.ofNat n) σ = if oneB a n = true then some (.inr σ) else some (.inl (0, hp_s σ 0 14 (σ 0 14 + 1))) := by rw [xd_one]; simp only [oneB_t]
theorem ms_in' {a b d : Int32} : fn_M_in a b d = some (bI (inB a b d)) := ms_in a b d


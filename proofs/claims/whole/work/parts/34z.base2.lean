/-! unfolding, by equations (never by computing) -/
theorem e_let {α β : Type} {x : α} {f : α → β} : px_let x f = f x := Eq.trans rfl rfl
theorem e_jn {α β : Type} {x : α} {f : α → β} : px_jn x f = f x := Eq.trans rfl rfl
theorem e_bd {α β : Type} {x : α} {f : α → Option β} : Option.bind (some x) f = f x := Eq.trans rfl rfl
theorem e_b2 {ρ : Type} {x : Int32} {s : hp_I} {f : Int32 → hp_I → Option ρ} : px_b2 (some (x, s)) f = f x s := Eq.trans rfl rfl
theorem e_z1 {ρ : Type} {r : ρ} : px_z 1 r = some r := Eq.trans rfl rfl
theorem e_z0 {ρ : Type} {r : ρ} : px_z 0 r = some r := Eq.trans rfl rfl
/-- all cells but these are as they were -/
def Fc (S : List Nat) (σ σ' : hp_I) : Prop := ∀ i, i ∉ S → σ' i = σ i
theorem Fc.refl {S : List Nat} {σ : hp_I} : Fc S σ σ := fun _ _ => rfl
theorem Fc.trans {S : List Nat} {a b c : hp_I} (h1 : Fc S a b) (h2 : Fc S b c) : Fc S a c := fun i hi => (h2 i hi).trans (h1 i hi)
theorem Fc.mono {S T : List Nat} {a b : hp_I} (h : Fc S a b) (hs : ∀ i, i ∈ S → i ∈ T) : Fc T a b := fun i hi => h i (fun q => hi (hs i q))
theorem Fc.put {S : List Nat} {σ : hp_I} {i k : Nat} {v : Int32} (h : i ∈ S) : Fc S σ (hp_s σ i k v) := fun j hj => hp_s_n (fun e => hj (by rw [e]; exact h))
theorem Fc.fill {S : List Nat} {σ : hp_I} {i : Nat} {f : Nat → Int32} (h : i ∈ S) : Fc S σ (hp_f σ i f) := fun j hj => hp_f_n (fun e => hj (by rw [e]; exact h))
theorem HX.fr {σ σ' : hp_I} {H : ab_H} (h : HX σ H) (e : ∀ i, 3 ≤ i → i ≤ 11 → σ' i = σ i) : HX σ' H := by
  have e3 := e 3 (by decide) (by decide)
  have e4 := e 4 (by decide) (by decide)
  have e5 := e 5 (by decide) (by decide)
  have e6 := e 6 (by decide) (by decide)
  have e7 := e 7 (by decide) (by decide)
  have e8 := e 8 (by decide) (by decide)
  have e9 := e 9 (by decide) (by decide)
  have e10 := e 10 (by decide) (by decide)
  have e11 := e 11 (by decide) (by decide)
  unfold HX
  rw [e3, e4, e5, e6, e7, e8, e9, e10, e11]
  exact h
theorem RX.fr {σ σ' : hp_I} {r : Nat} {H : ab_H} {ρ : Nat → Int32} (h : RX σ r H ρ) (e : σ' r = σ r) : RX σ' r H ρ := by unfold RX; rw [e]; exact h
theorem RM.fr {σ σ' : hp_I} {r : Nat} {H : ab_H} {ρ : Nat → Int32} (h : RM σ r H ρ) (e : σ' r = σ r) : RM σ' r H ρ := by unfold RM; rw [e]; exact h
theorem HM.fr {σ σ' : hp_I} {H : ab_H} (h : HM σ H) (ok : HOK H) (e56 : σ' 56 = σ 56) (e : ∀ a, a < 48 → σ' (107 + a) = σ (107 + a)) : HM σ' H := by
  obtain ⟨h0, h1, h2, h3, h4⟩ := h
  obtain ⟨o1, o2, o3, o4, -⟩ := ok
  refine ⟨by rw [e56]; exact h0, fun r hr => by rw [e r (by omega)]; exact h1 r hr, fun w hw => by rw [e (12 + w) (by omega)]; exact h2 w hw, fun s hs => by rw [e (24 + s) (by omega)]; exact h3 s hs, fun c hc => by rw [e (36 + c) (by omega)]; exact h4 c hc⟩
theorem RX.put {σ : hp_I} {r k : Nat} {H : ab_H} {ρ : Nat → Int32} {v : Int32} (h : RX σ r H ρ) : RX (hp_s σ r k v) r H (upd ρ k v) := by
  refine ⟨h.1, fun j hj => ?_⟩
  rw [hp_s_i]
  unfold upd
  by_cases e : j = k
  · simp [e]
  · simp only [e, if_false]; exact h.2 j hj
theorem mp_inj {a b : Nat} (ha : a < 47) (hb : b < 47) (h : mp a = mp b) : a = b := by
  unfold mp at h
  split at h <;> split at h <;> (try split at h) <;> (try split at h) <;> omega
theorem vk_lt {H : ab_H} (ok : HOK H) {k : Nat} (h : vk H k) : k < 47 := by
  obtain ⟨-, -, o3, o4, -⟩ := ok
  unfold vk at h
  omega
theorem RM.put {σ : hp_I} {r k : Nat} {H : ab_H} {ρ : Nat → Int32} {v : Int32} (h : RM σ r H ρ) (ok : HOK H) (hk : k < 47) : RM (hp_s σ r (mp k) v) r H (upd ρ k v) := by
  refine ⟨h.1, fun j hj => ?_⟩
  rw [hp_s_i]
  unfold upd
  by_cases e : j = k
  · simp [e]
  · have : ¬ mp j = mp k := fun q => e (mp_inj (vk_lt ok hj) hk q)
    simp only [e, this, if_false]; exact h.2 j hj
/-- a loop that goes with a simpler one -/
theorem zL_R {α β ρ : Type} {L : Nat → α → Int32 → Option ρ} {k : α → Option ρ} {N : Nat} (f : Nat → β → β) (R : Nat → α → β → Prop)
    (hend : ∀ fu a b, R N a b → L (fu + 1) a (Int32.ofNat N) = k a)
    (hstep : ∀ fu i a b, i < N → R i a b → ∃ a', L (fu + 1) a (Int32.ofNat i) = L fu a' (Int32.ofNat (i + 1)) ∧ R (i + 1) a' (f i b)) :
    ∀ (n i fu : Nat) (a : α) (b : β), i + n = N → n < fu → R i a b → ∃ a', L fu a (Int32.ofNat i) = k a' ∧ R N a' (zF f n i b) := by
  intro n
  induction n with
  | zero =>
    intro i fu a b hi hf ha
    have e : i = N := by omega
    subst e
    cases fu with
    | zero => omega
    | succ fu => exact ⟨a, hend fu a b ha, ha⟩
  | succ n ih =>
    intro i fu a b hi hf ha
    cases fu with
    | zero => omega
    | succ fu =>
      obtain ⟨a', h1, h2⟩ := hstep fu i a b (by omega) ha
      obtain ⟨a2, h3, h4⟩ := ih (i + 1) fu a' (f i b) (by omega) (by omega) h2
      exact ⟨a2, h1.trans h3, h4⟩
theorem zL_R0 {α β ρ : Type} {L : Nat → α → Int32 → Option ρ} {k : α → Option ρ} {N : Nat} (f : Nat → β → β) (R : Nat → α → β → Prop) (hN : N < 100000)
    (hend : ∀ fu a b, R N a b → L (fu + 1) a (Int32.ofNat N) = k a)
    (hstep : ∀ fu i a b, i < N → R i a b → ∃ a', L (fu + 1) a (Int32.ofNat i) = L fu a' (Int32.ofNat (i + 1)) ∧ R (i + 1) a' (f i b)) (a : α) (b : β) (h0 : R 0 a b) : ∃ a', L FU a 0 = k a' ∧ R N a' (zF f N 0 b) :=
  zL_R f R hend hstep N 0 FU a b (by omega) hN h0
/-! small numbers and their bits -/
theorem zB_mono {v : Int32} {n m : Nat} (h : zB v n) (hm : n ≤ m) : zB v m := by
  obtain ⟨k, hk, e⟩ := h
  exact ⟨k, by omega, e⟩
theorem zB_iff {v : Int32} {n : Nat} (hn : n ≤ 2147483648) : zB v n ↔ v.toBitVec.toNat < n := by
  constructor
  · rintro ⟨k, hk, rfl⟩
    show (BitVec.ofNat 32 k).toNat < n
    rw [BitVec.toNat_ofNat, Nat.mod_eq_of_lt (by omega)]
    exact hk
  · intro h
    refine ⟨v.toBitVec.toNat, h, ?_⟩
    apply Int32.toBitVec.inj
    show v.toBitVec = BitVec.ofNat 32 v.toBitVec.toNat
    rw [BitVec.ofNat_toNat]
    simp
theorem zB_and {v w : Int32} {n : Nat} (hn : n ≤ 2147483648) (h : zB v n) : zB (v &&& w) n := by
  rw [zB_iff hn] at h ⊢
  show (v.toBitVec &&& w.toBitVec).toNat < n
  rw [BitVec.toNat_and]
  exact Nat.lt_of_le_of_lt Nat.and_le_left h
theorem zB_or {v w : Int32} {k : Nat} (hk : k ≤ 31) (h : zB v (2 ^ k)) (h2 : zB w (2 ^ k)) : zB (v ||| w) (2 ^ k) := by
  have hn : 2 ^ k ≤ 2147483648 := Nat.pow_le_pow_right (by decide) hk
  rw [zB_iff hn] at h h2 ⊢
  show (v.toBitVec ||| w.toBitVec).toNat < _
  rw [BitVec.toNat_or]
  exact Nat.or_lt_two_pow h h2
theorem zB_bit {t k : Nat} (h : t < k) (hk : k ≤ 8) : zB (bitI t) (2 ^ k) := by
  have key : ∀ t, t < 8 → bitI t = Int32.ofNat (2 ^ t) := by decide +kernel
  exact ⟨2 ^ t, Nat.pow_lt_pow_right (by decide) h, key t (by omega)⟩
/-- bits gathered one by one -/
theorem zF_bits (f : Nat → Int32 → Int32) (hf : ∀ i a, f i a = a ∨ f i a = a ||| bitI i) (N : Nat) (hN : N ≤ 8) : zB (zF f N 0 0) (2 ^ N) := by
  have key : ∀ n i a, i + n = N → zB a (2 ^ N) → zB (zF f n i a) (2 ^ N) := by
    intro n
    induction n with
    | zero => intro i a _ ha; exact ha
    | succ n ih =>
      intro i a hi ha
      refine ih (i + 1) (f i a) (by omega) ?_
      rcases hf i a with e | e <;> rw [e]
      · exact ha
      · exact zB_or (by omega) ha (zB_bit (by omega) hN)
  exact key N 0 0 (by omega) ⟨0, Nat.two_pow_pos N, rfl⟩
theorem zF_id {α : Type} (f : Nat → α → α) (N : Nat) (a : α) (h : ∀ i, i < N → f i a = a) : ∀ n i, i + n ≤ N → zF f n i a = a := by
  intro n
  induction n with
  | zero => intro i _; rfl
  | succ n ih =>
    intro i hi
    unfold zF
    rw [h i (by omega)]
    exact ih (i + 1) (by omega)

/-! THE WHOLE STATE: house, row, law, book (cat, kind), works, images -/
abbrev ab_B : Type := List (Nat × Int32)
abbrev ab_R : Type := Nat → Int32
abbrev ab_A : Type := ab_H × ab_R × ab_L × ab_B × List ab_R × List (List ab_R × ab_R)
abbrev aH (A : ab_A) : ab_H := A.1
abbrev aR (A : ab_A) : ab_R := A.2.1
abbrev aL (A : ab_A) : ab_L := A.2.2.1
abbrev aB (A : ab_A) : ab_B := A.2.2.2.1
abbrev aW (A : ab_A) : List ab_R := A.2.2.2.2.1
abbrev aI (A : ab_A) : List (List ab_R × ab_R) := A.2.2.2.2.2
def bk_in : ab_B → Int32
  | [] => 0
  | q :: t => bk_in t ||| bitI q.1
def bk_tk : ab_B → Int32
  | [] => 0
  | q :: t => bk_tk t ||| (q.2 <<< (Int32.ofNat q.1 &&& 31))
def BOK (H : ab_H) (bk : ab_B) : Prop := (∀ q ∈ bk, q.1 < hC H ∧ (q.2 = 0 ∨ q.2 = 1)) ∧ (bk.map Prod.fst).Nodup
def BX (σ : hp_I) (bk : ab_B) : Prop := σ 26 0 = bk_in bk ∧ σ 26 1 = bk_tk bk
def BM (σ : hp_I) (bk : ab_B) : Prop := σ 52 30 = Int32.ofNat bk.length ∧ ∀ k (h : k < bk.length), σ (478 + k) 0 = Int32.ofNat bk[k].1 ∧ σ (478 + k) 1 = bk[k].2
def PX (σ : hp_I) (H : ab_H) (ws : List ab_R) : Prop := σ 38 0 = Int32.ofNat ws.length ∧ ∀ j (h : j < ws.length) k, vk H k → σ 39 (47 * j + k) = ws[j] k
def PM (σ : hp_I) (H : ab_H) (ws : List ab_R) : Prop := σ 52 31 = Int32.ofNat ws.length ∧ ∀ j (h : j < ws.length) k, vk H k → σ (576 + j) (mp k) = ws[j] k
def IX (σ : hp_I) (H : ab_H) (im : List (List ab_R × ab_R)) : Prop := σ 38 1 = Int32.ofNat im.length ∧ ∀ i (h : i < im.length), σ 41 i = Int32.ofNat im[i].1.length ∧ (∀ j (hj : j < im[i].1.length) k, vk H k → σ 40 (799 * i + 47 * j + k) = im[i].1[j] k) ∧ ∀ k, vk H k → σ 40 (799 * i + 752 + k) = im[i].2 k
def IM (σ : hp_I) (H : ab_H) (im : List (List ab_R × ab_R)) : Prop := σ 52 33 = Int32.ofNat im.length ∧ ∀ i (h : i < im.length), σ (593 + i) 0 = Int32.ofNat im[i].1.length ∧ (∀ j (hj : j < im[i].1.length) k, vk H k → σ (593 + i) (48 + 47 * j + mp k) = im[i].1[j] k) ∧ ∀ k, vk H k → σ (593 + i) (1 + mp k) = im[i].2 k
def AOK (A : ab_A) : Prop := HOK (aH A) ∧ ROK (aH A) (aR A) ∧ LOK (aL A) ∧ BOK (aH A) (aB A) ∧ ((aW A).length ≤ 16 ∧ ∀ w ∈ aW A, ROK (aH A) w) ∧ (aI A).length ≤ 3 ∧ ∀ q ∈ aI A, q.1.length ≤ 16 ∧ (∀ w ∈ q.1, ROK (aH A) w) ∧ ROK (aH A) q.2
def CX (σ : hp_I) (A : ab_A) : Prop := HX σ (aH A) ∧ RX σ 33 (aH A) (aR A) ∧ LX σ (aL A) ∧ BX σ (aB A) ∧ PX σ (aH A) (aW A) ∧ IX σ (aH A) (aI A)
def CM (σ : hp_I) (A : ab_A) : Prop := HM σ (aH A) ∧ RM σ 572 (aH A) (aR A) ∧ LM σ (aL A) ∧ BM σ (aB A) ∧ PM σ (aH A) (aW A) ∧ IM σ (aH A) (aI A)
/-- the pairs of slips: none outside the words from the first to the last -/
def SLI (σ : hp_I) : Prop := ∃ f l : Nat, (f ≤ 32 ∧ l ≤ 32) ∧ (σ 42 7 = Int32.ofNat f ∧ σ 42 8 = Int32.ofNat l - 1) ∧ ∀ r w, r < 8 → w < 32 → ¬ (f ≤ w ∧ w < l) → σ 43 (r * 32 + w) = 0
theorem SLI.fr {σ σ' : hp_I} (h : SLI σ) (e1 : σ' 42 = σ 42) (e2 : σ' 43 = σ 43) : SLI σ' := by
  unfold SLI
  rw [e1, e2]
  exact h
def TP (σ : hp_I) : Prop := (∃ n : Nat, n ≤ 600 ∧ σ 1 1 = Int32.ofNat n ∧ σ 52 1 = Int32.ofNat n ∧ ∀ k, k < n → σ 53 k = σ 2 k ∧ zB (σ 2 k) 256) ∧ σ 52 3 = σ 1 5 ∧ SLI σ
def CT (σ : hp_I) : Prop := σ 52 32 = σ 0 13 ∧ σ 54 0 = σ 0 14 ∧ σ 54 1 = σ 0 15
def REL (σ : hp_I) : Prop := ∃ A, AOK A ∧ CX σ A ∧ CM σ A ∧ TP σ ∧ CT σ
def KXL : List Nat := [3, 4, 5, 6, 7, 8, 9, 10, 11, 21, 22, 26, 33, 38, 39, 40, 41]
theorem CX.fr {σ σ' : hp_I} {A : ab_A} (h : CX σ A) (e : ∀ i, i ∈ KXL → σ' i = σ i) : CX σ' A := by
  obtain ⟨h1, h2, h3, h4, h5, h6⟩ := h
  refine ⟨h1.fr (fun i a b => e i (by unfold KXL; simp only [List.mem_cons, List.not_mem_nil, or_false]; omega)), h2.fr (e 33 (by decide)), h3.fr (e 21 (by decide)) (e 22 (by decide)), ?_, ?_, ?_⟩
  · unfold BX; rw [e 26 (by decide)]; exact h4
  · unfold PX; rw [e 38 (by decide), e 39 (by decide)]; exact h5
  · unfold IX; rw [e 38 (by decide), e 40 (by decide), e 41 (by decide)]; exact h6
def KM (i : Nat) : Prop := i = 56 ∨ (107 ≤ i ∧ i < 155) ∨ (156 ≤ i ∧ i < 316) ∨ (478 ≤ i ∧ i < 483) ∨ i = 572 ∨ (576 ≤ i ∧ i < 592) ∨ (593 ≤ i ∧ i < 596)
theorem nodup_le : ∀ (n : Nat) (l : List Nat), l.Nodup → (∀ x ∈ l, x < n) → l.length ≤ n
  | 0, l, _, h => by
    cases l with
    | nil => simp
    | cons a t => exact absurd (h a List.mem_cons_self) (Nat.not_lt_zero _)
  | n + 1, l, hn, h => by
    by_cases hm : n ∈ l
    · have h3 := nodup_le n (l.erase n) (hn.erase n) (fun x hx => by
        have h1 := h x (List.mem_of_mem_erase hx)
        have h2 := ((List.Nodup.mem_erase_iff hn).mp hx).1
        omega)
      rw [List.length_erase_of_mem hm] at h3
      omega
    · have h3 := nodup_le n l hn (fun x hx => by
        have h1 := h x hx
        have h2 : x ≠ n := fun e => hm (by rw [← e]; exact hx)
        omega)
      omega
theorem BOK.len {H : ab_H} {bk : ab_B} (ok : HOK H) (h : BOK H bk) : bk.length ≤ 5 := by
  have h1 := nodup_le (hC H) (bk.map Prod.fst) h.2 (fun x hx => by
    obtain ⟨q, hq, rfl⟩ := List.mem_map.mp hx
    exact (h.1 q hq).1)
  rw [List.length_map] at h1
  have := ok.2.2.2.1
  omega
theorem CM.fr {σ σ' : hp_I} {A : ab_A} (ok : AOK A) (h : CM σ A) (e : ∀ i, KM i → σ' i = σ i) (e52 : ∀ k, k ∈ [15, 30, 31, 33] → σ' 52 k = σ 52 k) : CM σ' A := by
  obtain ⟨h1, h2, h3, h4, h5, h6⟩ := h
  obtain ⟨o1, o2, o3, o4, o5, o6, o7⟩ := ok
  refine ⟨h1.fr o1 (e 56 (Or.inl rfl)) (fun a ha => e _ (by unfold KM; omega)), h2.fr (e 572 (by unfold KM; omega)), h3.fr o3.1 (e52 15 (by decide)) (fun a ha => e _ (by unfold KM; omega)), ?_, ?_, ?_⟩
  · have := o4.len o1
    refine ⟨(e52 30 (by decide)).trans h4.1, fun k hk => ?_⟩
    rw [e (478 + k) (by unfold KM; omega)]
    exact h4.2 k hk
  · refine ⟨(e52 31 (by decide)).trans h5.1, fun j hj k hk => ?_⟩
    have := o5.1
    rw [e (576 + j) (by unfold KM; omega)]
    exact h5.2 j hj k hk
  · refine ⟨(e52 33 (by decide)).trans h6.1, fun i hi => ?_⟩
    rw [e (593 + i) (by unfold KM; omega)]
    exact h6.2 i hi
/-! asking: what the class gives, what the model gives -/
def SXQ : List Nat := [24, 25, 34, 36, 37, 45, 46, 47, 48, 49, 50, 51]
def XQ (σ : hp_I) (e : Option (px_X (Int32 × hp_I))) (q : Nat) (v : Int32) : Prop :=
  (q = 0 ∧ ∃ σ', e = some (.inr (v, σ')) ∧ Fc SXQ σ σ') ∨ (q = 1 ∧ e = some (.inl (0, hp_s σ 0 14 (σ 0 14 + 1)))) ∨ (q = 2 ∧ e = some (.inl (1, hp_s σ 0 15 (σ 0 15 + 1))))
def SMQ : List Nat := [52, 54, 489, 490, 573, 574, 596, 597, 598, 599]
def FM (σ σ' : hp_I) : Prop := Fc SMQ σ σ' ∧ ∀ k, k ∈ [1, 3, 15, 30, 31, 32, 33] → σ' 52 k = σ 52 k
def MQs (σ : hp_I) (e : Option (Int32 × hp_I)) (q : Nat) (v t2 : Int32) : Prop := ∃ v' σ', e = some (v', σ') ∧ FM σ σ' ∧ (q = 0 → v' = v ∧ σ' 52 0 = 0 ∧ σ' 54 = σ 54) ∧ (q = 1 → σ' 52 0 = 1 ∧ σ' 54 0 = σ 54 0 + 1 ∧ σ' 54 1 = σ 54 1) ∧ (q = 2 → σ' 52 0 = t2 ∧ σ' 54 0 = σ 54 0 ∧ σ' 54 1 = σ 54 1 + 1)
theorem CX.x {σ σ' : hp_I} {A : ab_A} (h : CX σ A) (f : Fc SXQ σ σ') : CX σ' A := h.fr (fun i hi => f i (by
  revert hi
  unfold KXL SXQ
  simp only [List.mem_cons, List.not_mem_nil, or_false]
  omega))
theorem CM.hi {σ σ' : hp_I} {A : ab_A} (ok : AOK A) (h : CM σ A) (f : ∀ i, 52 ≤ i → σ' i = σ i) : CM σ' A := h.fr ok (fun i hi => f i (by unfold KM at hi; omega)) (fun k _ => congrFun (f 52 (by decide)) k)
theorem CX.lo {σ σ' : hp_I} {A : ab_A} (h : CX σ A) (f : ∀ i, i < 52 → σ' i = σ i) : CX σ' A := h.fr (fun i hi => f i (by
  revert hi
  unfold KXL
  simp only [List.mem_cons, List.not_mem_nil, or_false]
  omega))
theorem FM.lo {σ σ' : hp_I} (h : FM σ σ') : ∀ i, i < 52 → σ' i = σ i := fun i hi => h.1 i (by unfold SMQ; simp only [List.mem_cons, List.not_mem_nil, or_false]; omega)
theorem CM.m {σ σ' : hp_I} {A : ab_A} (ok : AOK A) (h : CM σ A) (f : FM σ σ') : CM σ' A := h.fr ok (fun i hi => f.1 i (by unfold SMQ; simp only [List.mem_cons, List.not_mem_nil, or_false]; unfold KM at hi; omega)) (fun k hk => f.2 k (by revert hk; simp only [List.mem_cons, List.not_mem_nil, or_false]; omega))
theorem SXQ_hi {i : Nat} (h : 52 ≤ i) : i ∉ SXQ := by unfold SXQ; simp only [List.mem_cons, List.not_mem_nil, or_false]; omega
/-- demands -/
theorem xd_in {a b c : Int32} {σ : hp_I} : fn_X_demandWithin 0 a b c σ = if b ≤ a ∧ a ≤ c then some (.inr σ) else some (.inl (1, hp_s σ 0 15 (σ 0 15 + 1))) := by
  unfold fn_X_demandWithin
  simp only [e_jn, e_let]
  by_cases h1 : b ≤ a
  · by_cases h2 : c < a
    · rw [if_pos h1, if_pos h2, if_neg (fun h => absurd h.2 (Int32.not_le.mpr h2))]
    · rw [if_pos h1, if_neg h2, if_pos ⟨h1, Int32.not_lt.mp h2⟩]
  · rw [if_neg h1, if_neg (fun h => h1 h.1)]
theorem xd_one {a c : Int32} {σ : hp_I} : fn_X_demandOneOf 0 a c σ = if 0 ≤ a ∧ a < c then some (.inr σ) else some (.inl (0, hp_s σ 0 14 (σ 0 14 + 1))) := by
  unfold fn_X_demandOneOf
  simp only [e_jn, e_let]
  by_cases h1 : 0 ≤ a
  · by_cases h2 : c ≤ a
    · rw [if_pos h1, if_pos h2, if_neg (fun h => absurd h.2 (Int32.not_lt.mpr h2))]
    · rw [if_pos h1, if_neg h2, if_pos ⟨h1, Int32.not_le.mp h2⟩]
  · rw [if_neg h1, if_neg (fun h => h1 h.1)]
theorem e_bxr {α ρ : Type} {a : α} {f : α → Option (px_X ρ)} : px_bx (some (.inr a)) f = f a := Eq.trans rfl rfl
theorem e_bxl {α ρ : Type} {x : Nat × hp_I} {f : α → Option (px_X ρ)} : px_bx (some (.inl x)) f = some (.inl x) := Eq.trans rfl rfl
theorem e_swc {ρ : Type} {x v : Int32} {e e0 : Option ρ} {r : List (Int32 × Option ρ)} : px_sw x ((v, e) :: r) e0 = if x = v then e else px_sw x r e0 := Eq.trans rfl rfl
theorem e_swn {ρ : Type} {x : Int32} {e0 : Option ρ} : px_sw x [] e0 = e0 := Eq.trans rfl rfl
theorem xf_1 : sh_rf 0 1 = 3 := by decide +kernel
theorem xf_3 : sh_rf 0 3 = 21 := by decide +kernel
theorem xf_4 : sh_rf 0 4 = 26 := by decide +kernel
theorem xf_5 : sh_rf 0 5 = 27 := by decide +kernel
theorem xf_0 : sh_rf 0 0 = 1 := by decide +kernel
theorem xf_2 : sh_rf 0 2 = 12 := by decide +kernel
theorem xf_6 : sh_rf 0 6 = 32 := by decide +kernel
theorem xf_7 : sh_rf 0 7 = 35 := by decide +kernel
theorem xf_8 : sh_rf 0 8 = 38 := by decide +kernel
theorem xf_9 : sh_rf 0 9 = 42 := by decide +kernel
theorem xf_10 : sh_rf 0 10 = 45 := by decide +kernel
theorem xf_11 : sh_rf 0 11 = 49 := by decide +kernel
theorem xf_12 : sh_rf 0 12 = 51 := by decide +kernel
/-- the model's refusals -/
def mbad (σ : hp_I) (t : Int32) (r : Nat) : hp_I := hp_s (hp_s σ 52 0 t) 54 r (σ 54 r + 1)
theorem md_bad {σ : hp_I} {b : Bool} {t : Int32} {r : Nat} (h0 : σ 52 0 = 0) (ht : t ≠ 0) (hr : r < 2) : fn_M_bad 52 (bI b) t (Int32.ofNat r) σ = if b = true then some (1, mbad σ t r) else some (0, σ) := by
  unfold fn_M_bad
  cases b with
  | false => simp only [e_jn, bI_0, if_true, h0, e_z0, Bool.false_eq_true, if_false]
  | true =>
    have e1 : px_ald (hp_s σ 52 0 t) 54 (Int32.ofNat r) = some (σ 54 r) := by rw [zi_ald (by rw [sn_54]; exact hr) (by omega), hp_s_n (show 54 ≠ 52 by decide)]
    have e2 : px_ast (hp_s σ 52 0 t) 54 (Int32.ofNat r) (σ 54 r + 1) = some (mbad σ t r) := by rw [zi_ast (by rw [sn_54]; exact hr) (by omega)]; rfl
    have e3 : mbad σ t r 52 0 = t := by unfold mbad; rw [hp_s_n (show 52 ≠ 54 by decide), hp_s_i, upd_i]
    simp only [e_jn, e_let, bI_0, Bool.true_eq_false, if_false, h0, if_true, sm_10, e1, e_bd, e2, e3, ht, e_z1]
theorem md_thing {σ : hp_I} {H : ab_H} (hm : HM σ H) {k : Nat} (hk : k < 4) {p : Int32} : fn_M_isThing 52 (Int32.ofNat k) p σ = some (bI (decide (0 ≤ p) && decide (p ≤ σ 56 k - 1))) := by
  unfold fn_M_isThing
  rw [sm_12, zi_ald (by rw [sn_56]; exact hk) (by omega), e_bd, ms_in, e_bd, bI_z]
theorem le_pred {p : Int32} {n : Nat} (hn : n < 2147483648) : (0 ≤ p ∧ p ≤ Int32.ofNat n - 1) ↔ (0 ≤ p ∧ p < Int32.ofNat n) := by
  have h1 : ((1 : Int32)).toInt = 1 := by decide
  have h0 : ((0 : Int32)).toInt = 0 := by decide
  have h2 : (Int32.ofNat n - 1).toInt = (n : Int) - 1 := by
    rw [Int32.toInt_sub, zi_toInt hn, h1]
    rw [Int.bmod_eq_of_le (by omega) (by omega)]
  rw [Int32.le_iff_toInt_le, Int32.le_iff_toInt_le, Int32.lt_iff_toInt_lt, zi_toInt hn, h2, h0]
  omega

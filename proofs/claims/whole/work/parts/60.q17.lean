/-! BOAT: class and model -/
theorem yL_0 {α ρ : Type} {L : Nat → α → Int32 → Option ρ} {k : α → Option ρ} {N : Nat} (f : Nat → α → α) (hN : N < 100000)
    (hend : ∀ fu a, L (fu + 1) a (Int32.ofNat N) = k a)
    (hstep : ∀ fu i a, i < N → L (fu + 1) a (Int32.ofNat i) = L fu (f i a) (Int32.ofNat (i + 1))) (a : α) : L FU a 0 = k (zF f N 0 a) := zL_0 f hN hend hstep a
theorem xs_power {b e : Nat} (hb : b < 100) (he : e < 100) : fn_X_power (Int32.ofNat b) (Int32.ofNat e) = some (Int64.ofNat (b ^ e)) := by
  unfold fn_X_power
  rw [e_let, e_let]
  refine Exists.elim (zL_R0 (L := fun fu (a : Int64) i => fn_X_power_L5 (Int32.ofNat b) (Int32.ofNat e) (fun y => some y) fu a i) (k := fun y => some y) (N := e) (fun _ (u : Unit) => u) (fun i a _ => a = Int64.ofNat (b ^ i)) (by omega) (fun fu a u h => ?_) (fun fu i a u hi h => ?_) 1 () (by rw [Nat.pow_zero]; rfl)) (fun a h => ?_)
  · try dsimp only
    rw [fn_X_power_L5, if_neg Int32.lt_irrefl]
  · try dsimp only
    refine ⟨Int64.ofNat (b ^ (i + 1)), ?_, rfl⟩
    rw [fn_X_power_L5, if_pos (zl_lt hi (by omega)), e_let, e_let, zi_succ, h, yi_of (by omega), yi_mul, Nat.pow_succ]
  · rw [h.1, h.2]
theorem xs_gcd {a b : Nat} (ha : a < 281474976710657) (hb : b < 281474976710657) : fn_X_commonDivisor (Int64.ofNat a) (Int64.ofNat b) = some (Int64.ofNat (Nat.gcd a b)) := by
  unfold fn_X_commonDivisor
  rw [e_let, e_let, e_let]
  have key : ∀ n i fu a b, i + n = 100 → n < fu → a < 281474976710657 → b < 281474976710657 → fn_X_commonDivisor_L9 (fun y => some y) fu (Int64.ofNat a) (Int64.ofNat b) (Int32.ofNat i) = some (Int64.ofNat (gN n a b)) := by
    intro n
    induction n with
    | zero =>
      intro i fu a b hi hf ha hb
      obtain ⟨fu, rfl⟩ : ∃ f, fu = f + 1 := ⟨fu - 1, by omega⟩
      rw [fn_X_commonDivisor_L9, if_neg (show ¬ Int32.ofNat i < 100 from zl_nlt (b := 100) (by omega) (by omega))]
      rfl
    | succ n ih =>
      intro i fu a b hi hf ha hb
      obtain ⟨fu, rfl⟩ : ∃ f, fu = f + 1 := ⟨fu - 1, by omega⟩
      rw [fn_X_commonDivisor_L9, if_pos (show Int32.ofNat i < 100 from zl_lt (b := 100) (by omega) (by decide))]
      unfold gN
      by_cases h0 : b = 0
      · rw [if_pos (by rw [yi_cmp (by omega)]; exact h0), if_pos h0]
      · have hr := Nat.mod_lt a (show b > 0 by omega)
        rw [if_neg (by rw [yi_cmp (by omega)]; exact h0), if_neg h0, yi_lrm (by omega) (by omega) h0, e_bd, e_let, e_let, e_let, e_let, zi_succ]
        exact ih (i + 1) fu b (a % b) (by omega) (by omega) hb (by omega)
  refine (key 100 0 FU a b (by decide) (FU_gt (by decide)) ha hb).trans ?_
  rw [gN_ok 49 100 a b (by omega) (by decide)]
def bo_v (q n k : Nat) (part : Int32) : Int64 := if part = 0 then Int64.ofNat (upN q n k / Nat.gcd (16 ^ n) (upN q n k)) else Int64.ofNat (16 ^ n / Nat.gcd (16 ^ n) (upN q n k))
theorem gcd_pos {q n k : Nat} (hq : q < 17) (hn : n < 13) (hk : k < 14) : Nat.gcd (16 ^ n) (upN q n k) ≠ 0 ∧ Nat.gcd (16 ^ n) (upN q n k) < 281474976710657 := by
  have h := pw_lt n hn
  have h1 := Nat.gcd_pos_of_pos_left (upN q n k) h.2
  have h2 := Nat.gcd_le_left (upN q n k) h.2
  omega
theorem xs_boat {σ : hp_I} {q n k : Nat} {p : Int32} (hq : q < 17) (hn : n < 13) (hk : k < 14) (K : Int64 → Option (px_X (Int64 × hp_I))) : fn_X_boat_L41 (Int32.ofNat n) (Int32.ofNat k) (Int32.ofNat q) p σ K FU 0 1 0 = K (Int64.ofNat (upN q n k)) := by
  rw [← up_n q hq n hn k hk]
  refine Exists.elim (zL_R0 (L := fun fu (a : Int64 × Int64) i => fn_X_boat_L41 (Int32.ofNat n) (Int32.ofNat k) (Int32.ofNat q) p σ K fu a.1 a.2 i) (k := fun a : Int64 × Int64 => K a.1) (N := n + 1) (fun i a => if k ≤ i then a + tN q n i else a) (fun i a b => a.1 = Int64.ofNat b ∧ (i ≤ n → a.2 = Int64.ofNat (chs n i))) (by omega) (fun fu a b h => ?_) (fun fu i a b hi h => ?_) (0, 1) 0 ⟨rfl, fun _ => ?_⟩) (fun a h => ?_)
  · try dsimp only
    rw [fn_X_boat_L41, if_neg (zl_nle (by omega) (by omega))]
  · obtain ⟨a1, a2⟩ := a
    dsimp only at h ⊢
    have h2 := h.2 (by omega)
    have hcl := ch_lt n hn i (by omega)
    refine ⟨(Int64.ofNat (if k ≤ i then b + tN q n i else b), Int64.ofNat (chs n (i + 1))), ?_, rfl, fun _ => rfl⟩
    have h16 : (16 : Int32) - Int32.ofNat q = Int32.ofNat (16 - q) := zi_sub (a := 16) (by omega)
    have hdv : px_ldv (a2 * (Int32.ofNat n - Int32.ofNat i).toInt64) ((Int32.ofNat i + 1).toInt64) = some (Int64.ofNat (chs n (i + 1))) := by
      have hm : chs n i * (n - i) < 1000 * 100 := Nat.mul_lt_mul_of_lt_of_le hcl (by omega) (by decide)
      rw [h2, zi_sub (by omega), yi_of (by omega), yi_mul, zi_succ, yi_of (by omega), yi_ldv (by omega) (by omega) (by omega), ch_s n hn i (by omega)]
    rw [fn_X_boat_L41, if_pos (zl_le (show i ≤ n by omega) (by omega)), e_jn, h16, xs_power (by omega) (by omega), e_bd, zi_sub (show i ≤ n by omega), xs_power (by omega) (by omega), e_bd, e_let]
    rw [zi_sub (show i ≤ n by omega), zi_succ] at hdv
    simp only [zi_succ, hdv, e_bd, e_let]
    by_cases c : k ≤ i
    · rw [if_pos (zl_le c (by omega)), if_pos c, h.1, h2, yi_mul, yi_mul, yi_add]
      rfl
    · rw [if_neg (zl_nle (by omega) (by omega)), if_neg c, h.1]
  · show (1 : Int64) = Int64.ofNat (chs n 0)
    cases n <;> rfl
  · refine h.1.trans ?_
    rw [h.2.1]
theorem xv_boat {σ : hp_I} {q n k : Nat} {p : Int32} (hq : q < 17) (hn : n < 13) (hk : k < 14) (h1 : inB (Int32.ofNat n) 0 12 = true) (h2 : inB (Int32.ofNat k) 0 13 = true) (h3 : inB (Int32.ofNat q) 0 16 = true) (h4 : inB p 0 1 = true) : fn_X_boat 0 (Int32.ofNat n) (Int32.ofNat k) (Int32.ofNat q) p σ = some (.inr (bo_v q n k p, σ)) := by
  unfold fn_X_boat
  rw [xd_in', if_pos h1, e_bxr, xd_in', if_pos h2, e_bxr, xd_in', if_pos h3, e_bxr, xd_in', if_pos h4, e_bxr]
  simp only [e_let]
  rw [xs_boat hq hn hk]
  have hp := pw_lt n hn
  have hu := up_lt q hq n hn k hk
  have hg := gcd_pos hq hn hk
  rw [show fn_X_power (16 : Int32) (Int32.ofNat n) = some (Int64.ofNat (16 ^ n)) from xs_power (b := 16) (by decide) (by omega), e_bd, xs_gcd hp.1 hu, e_bd, if_neg (by rw [yi_cmp (by omega)]; exact hg.1)]
  rw [e_jn]
  simp only [yi_ldv (show upN q n k < 9223372036854775808 by omega) (show Nat.gcd (16 ^ n) (upN q n k) < 9223372036854775808 by omega) hg.1, yi_ldv (show 16 ^ n < 9223372036854775808 by omega) (show Nat.gcd (16 ^ n) (upN q n k) < 9223372036854775808 by omega) hg.1, e_bd]
  unfold bo_v
  by_cases c : p = 0
  · rw [if_pos c, if_pos c]
  · rw [if_neg c, if_neg c]
/- the model -/
theorem sn_600 : sh_ln 600 = 14 := by decide +kernel
theorem yi_lld {τ : hp_L} {a : Nat} (h : a < 14) : px_lld τ 600 (Int32.ofNat a) = some (τ 600 a) := by
  unfold px_lld
  rw [zi_in (by omega), sn_600, decide_eq_true h, if_pos rfl, zi_nat (by omega)]
theorem yi_lst {τ : hp_L} {a : Nat} {v : Int64} (h : a < 14) : px_lst τ 600 (Int32.ofNat a) v = some (hp_t τ 600 a v) := by
  unfold px_lst
  rw [zi_in (by omega), sn_600, decide_eq_true h, if_pos rfl, zi_nat (by omega)]
theorem updL_i {f : Nat → Int64} {k : Nat} {v : Int64} : vp_updL f k v k = v := by unfold vp_updL; rw [if_pos rfl]
theorem updL_n {f : Nat → Int64} {k j : Nat} {v : Int64} (h : j ≠ k) : vp_updL f k v j = f j := by unfold vp_updL; rw [if_neg h]
def BT (τ u : hp_L) (q e : Nat) : Prop := u 601 = τ 601 ∧ ∀ i, i < 14 → u 600 i = Int64.ofNat (tN q e i)
section BM
variable {σ : hp_I} {τ : hp_L} {a1 a2 a4 a5 : Int32}
theorem mb_L64 {q : Nat} (hq : q < 17) (K : hp_L → Option (Int64 × hp_I × hp_L)) : ∃ u, fn_M_boat_L64 52 a1 a2 (Int32.ofNat q) a4 σ K FU 0 τ = K u ∧ BT τ u q 0 := by
  refine Exists.elim (zL_R0 (L := fun fu (u : hp_L) i => fn_M_boat_L64 52 a1 a2 (Int32.ofNat q) a4 σ K fu i u) (k := K) (N := 14) (fun _ (u : Unit) => u) (fun i u _ => u 601 = τ 601 ∧ ∀ k, k < i → u 600 k = Int64.ofNat (tN q 0 k)) (by decide) (fun fu a u h => ?_) (fun fu i u _ hi h => ?_) τ () ⟨rfl, fun k hk => absurd hk (Nat.not_lt_zero _)⟩) (fun u h => ⟨u, h.1, h.2.1, h.2.2⟩)
  · try dsimp only
    rw [fn_M_boat_L64, if_neg (by decide)]
  · try dsimp only
    refine ⟨hp_t u 600 i (Int64.ofNat (tN q 0 i)), ?_, ?_, fun k hk => ?_⟩
    · rw [fn_M_boat_L64, if_pos (show Int32.ofNat i < 14 from zl_lt (b := 14) hi (by decide)), e_jn, sm_43, tN_0 q hq i hi]
      simp only [yi_lst hi, e_bd, e_let, zi_succ]
      by_cases c : i = 0
      · rw [if_pos c, if_pos (by rw [c]; rfl)]; rfl
      · rw [if_neg c, if_neg (show ¬ Int32.ofNat i = 0 from zl_ne (b := 0) c (by omega) (by decide))]; rfl
    · rw [hp_t_n (by decide)]; exact h.1
    · rw [hp_t_i]
      by_cases c : k = i
      · rw [c, updL_i]
      · rw [updL_n c]; exact h.2 k (by omega)
theorem mb_L107 {q e : Nat} (hq : q < 17) (he : e < 12) (K : hp_L → Option (Int64 × hp_I × hp_L)) (h0 : BT τ τ q e) : ∃ u, fn_M_boat_L107 52 a1 a2 (Int32.ofNat q) a4 a5 σ K FU 13 τ = K u ∧ BT τ u q (e + 1) := by
  have key : ∀ n fu u, n ≤ 14 → n < fu → u 601 = τ 601 → (∀ i, i < 14 → u 600 i = if i < n then Int64.ofNat (tN q e i) else Int64.ofNat (tN q (e + 1) i)) → ∃ u', fn_M_boat_L107 52 a1 a2 (Int32.ofNat q) a4 a5 σ K fu (Int32.ofNat n - 1) u = K u' ∧ BT τ u' q (e + 1) := by
    intro n
    induction n with
    | zero =>
      intro fu u _ hf h1 h2
      obtain ⟨fu, rfl⟩ : ∃ f, fu = f + 1 := ⟨fu - 1, by omega⟩
      refine ⟨u, ?_, h1, fun i hi => ?_⟩
      · rw [fn_M_boat_L107, if_neg (by decide)]
      · rw [h2 i hi, if_neg (Nat.not_lt_zero _)]
    | succ n ih =>
      intro fu u hn hf h1 h2
      obtain ⟨fu, rfl⟩ : ∃ f, fu = f + 1 := ⟨fu - 1, by omega⟩
      have hcur : u 600 n = Int64.ofNat (tN q e n) := by rw [h2 n (by omega), if_pos (by omega)]
      obtain ⟨u', k1, k2⟩ := ih fu (hp_t u 600 n (Int64.ofNat (tN q (e + 1) n))) (by omega) (by omega) (by rw [hp_t_n (by decide)]; exact h1) (fun i hi => by
        rw [hp_t_i]
        by_cases c : i = n
        · rw [c, updL_i, if_neg (by omega)]
        · rw [updL_n c, h2 i hi]
          by_cases c2 : i < n
          · rw [if_pos c2, if_pos (by omega)]
          · rw [if_neg c2, if_neg (by omega)])
      refine ⟨u', ?_, k2⟩
      rw [← k1, zi_sub1 (by omega), Nat.add_sub_cancel, fn_M_boat_L107, if_pos (show (0 : Int32) ≤ Int32.ofNat n from zi_pos (by omega)), sm_43, yi_lld (by omega), e_bd, e_jn, hcur]
      rw [yi_of (show q < 2147483648 by omega), yi_mul, show (16 : Int32) - Int32.ofNat q = Int32.ofNat (16 - q) from zi_sub (a := 16) (by omega), yi_of (show 16 - q < 2147483648 by omega)]
      simp only [yi_lst (show n < 14 by omega), e_bd, e_let]
      rw [show Int32.ofNat n + (-1) = Int32.ofNat n - 1 from by rw [Int32.sub_eq_add_neg]]
      rw [tN_s q hq e he n (by omega)]
      by_cases c : 0 < n
      · have hprev : u 600 (n - 1) = Int64.ofNat (tN q e (n - 1)) := by rw [h2 (n - 1) (by omega), if_pos (by omega)]
        rw [if_pos (show (0 : Int32) < Int32.ofNat n from zl_lt (a := 0) c (by omega)), if_pos c, zi_sub1 (by omega), yi_lld (by omega), e_bd, hprev, yi_mul, yi_add]
      · rw [if_neg (show ¬ (0 : Int32) < Int32.ofNat n from zl_nlt (a := 0) (by omega) (by decide)), if_neg c, show (0 : Int64) = Int64.ofNat 0 from rfl, yi_add]
  exact key 14 FU τ (by decide) (FU_gt (by decide)) rfl (fun i hi => by rw [if_pos hi]; exact h0.2 i hi)
theorem mb_L97 {q n : Nat} (hq : q < 17) (hn : n < 13) (K : hp_L → Option (Int64 × hp_I × hp_L)) {u0 : hp_L} (h0 : BT τ u0 q 0) : ∃ u, fn_M_boat_L97 52 (Int32.ofNat n) a2 (Int32.ofNat q) a4 σ K FU 0 u0 = K u ∧ BT τ u q n := by
  refine Exists.elim (zL_R0 (L := fun fu (u : hp_L) i => fn_M_boat_L97 52 (Int32.ofNat n) a2 (Int32.ofNat q) a4 σ K fu i u) (k := K) (N := n) (fun _ (u : Unit) => u) (fun i u _ => BT τ u q i) (by omega) (fun fu a u h => ?_) (fun fu i u _ hi h => ?_) u0 () h0) (fun u h => ⟨u, h.1, h.2⟩)
  · try dsimp only
    rw [fn_M_boat_L97, if_neg Int32.lt_irrefl]
  · try dsimp only
    obtain ⟨u', k1, k2⟩ := mb_L107 (τ := u) (σ := σ) (a1 := Int32.ofNat n) (a2 := a2) (a4 := a4) (a5 := Int32.ofNat i) hq (show i < 12 by omega) (fun u_20 => fn_M_boat_L97 52 (Int32.ofNat n) a2 (Int32.ofNat q) a4 σ K fu (Int32.ofNat (i + 1)) u_20) ⟨rfl, h.2⟩
    refine ⟨u', ?_, k2.1.trans h.1, k2.2⟩
    rw [fn_M_boat_L97, if_pos (zl_lt hi (by omega)), e_let]
    simp only [e_let, zi_succ]
    exact k1
theorem mb_L179 {q n k : Nat} {a7 : Int64} (hk : k < 14) (K : Int64 → Option (Int64 × hp_I × hp_L)) {u : hp_L} (h : BT τ u q n) : fn_M_boat_L179 52 a4 a7 σ u K FU 0 (Int32.ofNat k) = K (Int64.ofNat (upN q n k)) := by
  have key : ∀ m i fu a, i + m = 14 → m < fu → fn_M_boat_L179 52 a4 a7 σ u K fu (Int64.ofNat a) (Int32.ofNat i) = K (Int64.ofNat (zF (fun j a => a + tN q n j) m i a)) := by
    intro m
    induction m with
    | zero =>
      intro i fu a hi hf
      obtain ⟨fu, rfl⟩ : ∃ f, fu = f + 1 := ⟨fu - 1, by omega⟩
      rw [fn_M_boat_L179, show i = 14 by omega, if_neg (by decide)]
      rfl
    | succ m ih =>
      intro i fu a hi hf
      obtain ⟨fu, rfl⟩ : ∃ f, fu = f + 1 := ⟨fu - 1, by omega⟩
      rw [fn_M_boat_L179, if_pos (show Int32.ofNat i < 14 from zl_lt (b := 14) (by omega) (by decide)), sm_43, yi_lld (by omega), e_bd, e_let, e_let, h.2 i (by omega), yi_add, zi_succ]
      exact ih (i + 1) fu _ (by omega) (by omega)
  refine (key (14 - k) k FU 0 (by omega) (FU_gt (by omega))).trans ?_
  congr 2
  have h1 : ∀ m i a, k ≤ i → zF (fun i a => if k ≤ i then a + tN q n i else a) m i a = zF (fun j a => a + tN q n j) m i a := by
    intro m
    induction m with
    | zero => intro i a _; rfl
    | succ m ih =>
      intro i a hi
      show zF _ m (i + 1) (if k ≤ i then a + tN q n i else a) = zF _ m (i + 1) (a + tN q n i)
      rw [if_pos hi]
      exact ih (i + 1) _ (by omega)
  have h2 : ∀ m i, i + m ≤ k → ∀ r, zF (fun i a => if k ≤ i then a + tN q n i else a) (m + r) i 0 = zF (fun i a => if k ≤ i then a + tN q n i else a) r (i + m) 0 := by
    intro m
    induction m with
    | zero => intro i _ r; rw [Nat.zero_add, Nat.add_zero]
    | succ m ih =>
      intro i hi r
      rw [show m + 1 + r = (m + r) + 1 by omega]
      show zF _ (m + r) (i + 1) (if k ≤ i then 0 + tN q n i else 0) = _
      rw [if_neg (by omega), ih (i + 1) (by omega) r, show i + 1 + m = i + (m + 1) by omega]
  unfold upN
  have h3 := h2 k 0 (by omega) (14 - k)
  rw [show k + (14 - k) = 14 by omega, Nat.zero_add] at h3
  rw [h3, h1 _ _ _ (Nat.le_refl _)]
theorem mb_L212 {a7 y : Int64} (K : Int64 → Option (Int64 × hp_I × hp_L)) {a b : Nat} (ha : a < 281474976710657) (hb : b < 281474976710657) : fn_M_boat_L212 a4 y a7 σ τ K FU (Int64.ofNat a) (Int64.ofNat b) = K (Int64.ofNat (Nat.gcd a b)) := by
  have key : ∀ m fu a b, 2 * m < fu → b < 2 ^ m → a < 281474976710657 → b < 281474976710657 → fn_M_boat_L212 a4 y a7 σ τ K fu (Int64.ofNat a) (Int64.ofNat b) = K (Int64.ofNat (Nat.gcd a b)) := by
    intro m
    induction m with
    | zero =>
      intro fu a b hf hb ha hb2
      obtain ⟨fu, rfl⟩ : ∃ f, fu = f + 1 := ⟨fu - 1, by omega⟩
      have hb0 : b = 0 := by simp only [Nat.pow_zero] at hb; omega
      rw [fn_M_boat_L212, if_pos (by rw [yi_cmp (by omega)]; exact hb0), hb0, Nat.gcd_zero_right]
    | succ m ih =>
      intro fu a b hf hb ha hb2
      obtain ⟨fu, rfl⟩ : ∃ f, fu = f + 2 := ⟨fu - 2, by omega⟩
      rw [fn_M_boat_L212]
      by_cases h0 : b = 0
      · rw [if_pos (by rw [yi_cmp (by omega)]; exact h0), h0, Nat.gcd_zero_right]
      · have hr : a % b < b := Nat.mod_lt _ (by omega)
        have e1 : Nat.gcd a b = Nat.gcd b (a % b) := by rw [Nat.gcd_comm a b, Nat.gcd_rec b a, Nat.gcd_comm]
        rw [if_neg (by rw [yi_cmp (by omega)]; exact h0), yi_lrm (by omega) (by omega) h0, e_bd, e_let, e_let, e_let, fn_M_boat_L212]
        by_cases h1 : a % b = 0
        · rw [if_pos (by rw [yi_cmp (by omega)]; exact h1), e1, h1, Nat.gcd_zero_right]
        · have e2 : Nat.gcd b (a % b) = Nat.gcd (a % b) (b % (a % b)) := by rw [Nat.gcd_comm b, Nat.gcd_rec (a % b) b, Nat.gcd_comm]
          have h2 : b % (a % b) < a % b := Nat.mod_lt _ (by omega)
          rw [if_neg (by rw [yi_cmp (by omega)]; exact h1), yi_lrm (by omega) (by omega) h1, e_bd, e_let, e_let, e_let, e1, e2]
          refine ih fu _ _ (by omega) ?_ (by omega) (by omega)
          have h3 : 2 ^ (m + 1) = 2 ^ m + 2 ^ m := by rw [Nat.pow_succ]; omega
          by_cases h4 : a % b ≤ 2 ^ m
          · omega
          · have h5 : b % (a % b) = b - a % b := by
              rw [Nat.mod_eq_sub_mod (by omega), Nat.mod_eq_of_lt (by omega)]
            omega
  exact key 49 FU a b (FU_gt (by decide)) (by omega) ha hb
theorem mv_boat {q n k : Nat} {p : Int32} {s : hp_I} (hq : q < 17) (hn : n < 13) (hk : k < 14) (h1 : inB (Int32.ofNat n) 0 12 = true) (h2 : inB (Int32.ofNat k) 0 13 = true) (h3 : inB (Int32.ofNat q) 0 16 = true) (h4 : inB p 0 1 = true) : ∃ u, fn_M_boat 52 (Int32.ofNat n) (Int32.ofNat k) (Int32.ofNat q) p s τ = some (bo_v q n k p, hp_s s 52 0 0, u) ∧ u 601 = τ 601 := by
  unfold fn_M_boat
  simp only [e_let, e_jn]
  rw [ms_in', e_bd, bI_if, if_pos h1, ms_in', e_bd, bI_if, if_pos h2, ms_in', e_bd, bI_if, if_pos h3, ms_in', e_bd, bI_if, if_pos h4]
  rw [show fn_M_bad 52 (0 : Int32) (1 : Int32) (1 : Int32) (hp_s s 52 0 0) = some ((0 : Int32), hp_s s 52 0 0) from mb_0 1 s0_0 (by decide) (by decide), e_b2, if_pos rfl]
  obtain ⟨u1, k1, b1⟩ := mb_L64 (τ := τ) (σ := hp_s s 52 0 0) (a1 := Int32.ofNat n) (a2 := Int32.ofNat k) (a4 := p) hq _
  obtain ⟨u2, k2, b2⟩ := mb_L97 (τ := τ) (σ := hp_s s 52 0 0) (a2 := Int32.ofNat k) (a4 := p) hq hn _ b1
  refine ⟨u2, ?_, b2.1⟩
  refine k1.trans (k2.trans ?_)
  have hp := pw_lt n hn
  have hu := up_lt q hq n hn k hk
  have hg := gcd_pos hq hn hk
  rw [mb_L179 hk _ b2, wh_eq n hn, mb_L212 _ hp.1 hu]
  rw [yi_ldv (show upN q n k < 9223372036854775808 by omega) (show Nat.gcd (16 ^ n) (upN q n k) < 9223372036854775808 by omega) hg.1, yi_ldv (show 16 ^ n < 9223372036854775808 by omega) (show Nat.gcd (16 ^ n) (upN q n k) < 9223372036854775808 by omega) hg.1, e_bd, e_bd]
  unfold bo_v
  by_cases c : p = 0
  · rw [if_pos c, if_pos c]
  · rw [if_neg c, if_neg c]
theorem mv_bad {a b c d : Int32} {s : hp_I} (h : ¬ (inB a 0 12 = true ∧ inB b 0 13 = true ∧ inB c 0 16 = true ∧ inB d 0 1 = true)) : fn_M_boat 52 a b c d s τ = some ((0 : Int64), mbad (hp_s s 52 0 0) 1 1, τ) := by
  unfold fn_M_boat
  simp only [e_let, e_jn]
  rw [ms_in', e_bd, bI_if, ms_in', e_bd, bI_if, ms_in', e_bd, bI_if, ms_in', e_bd, bI_if]
  rw [show fn_M_bad 52 (1 : Int32) (1 : Int32) (1 : Int32) (hp_s s 52 0 0) = some ((1 : Int32), mbad (hp_s s 52 0 0) 1 1) from mb_1 1 s0_0 (by decide) (by decide), e_b2, if_neg (show ¬ (1 : Int32) = 0 from by decide)]
  by_cases h1 : inB a 0 12 = true
  · rw [if_pos h1]
    by_cases h2 : inB b 0 13 = true
    · rw [if_pos h2]
      by_cases h3 : inB c 0 16 = true
      · rw [if_pos h3, if_neg (fun h4 => h ⟨h1, h2, h3, h4⟩)]
      · rw [if_neg h3]
    · rw [if_neg h2]
  · rw [if_neg h1]
theorem xv_bad {a b c d : Int32} (h : ¬ (inB a 0 12 = true ∧ inB b 0 13 = true ∧ inB c 0 16 = true ∧ inB d 0 1 = true)) : fn_X_boat 0 a b c d σ = some (.inl (1, hp_s σ 0 15 (σ 0 15 + 1))) := by
  unfold fn_X_boat
  rw [xd_in']
  by_cases h1 : inB a 0 12 = true
  · rw [if_pos h1, e_bxr, xd_in']
    by_cases h2 : inB b 0 13 = true
    · rw [if_pos h2, e_bxr, xd_in']
      by_cases h3 : inB c 0 16 = true
      · rw [if_pos h3, e_bxr, xd_in', if_neg (fun h4 => h ⟨h1, h2, h3, h4⟩), e_bxl]
      · rw [if_neg h3, e_bxl]
    · rw [if_neg h2, e_bxl]
  · rw [if_neg h1, e_bxl]
end BM
theorem e_b3l {ρ : Type} {x : Int64} {s : hp_I} {u : hp_L} {f : Int64 → hp_I → hp_L → Option ρ} : px_b3 (some (x, s, u)) f = f x s u := Eq.trans rfl rfl
theorem rel_q {s1 s3 : hp_I} {A : ab_A} (ok : AOK A) (cx : CX s1 A) (cm : CM s1 A) (tp : TP s1) (g : FM s1 s3) (ct : CT s3) : REL s3 := ⟨A, ok, cx.lo g.lo, cm.m ok g, tp_m tp g, ct⟩
theorem lk_24 {L : Nat} {xs y : Nat → Int32} {i : Int32} {s0 : hp_I} {u0 : hp_L} {j : hp_I → hp_L → Option Int32} (hy : SL L xs i y) (r : REL s0) : ∃ s3 u3, lc_24 L xs j i s0 u0 = j s3 u3 ∧ REL s3 := by
  obtain ⟨A, ok, cx, cm, tp, ct⟩ := r
  unfold lc_24 fn_L_boat
  simp only [e_let, e_bd, sl_1 hy, sl_2 hy, sl_3 hy, sl_4 hy]
  clear hy
  generalize y 1 = a
  generalize y 2 = b
  generalize y 3 = c
  generalize y 4 = d
  by_cases h : inB a 0 12 = true ∧ inB b 0 13 = true ∧ inB c 0 16 = true ∧ inB d 0 1 = true
  · obtain ⟨h1, h2, h3, h4⟩ := h
    obtain ⟨n, hn, rfl⟩ := zB_in (n := 12) (by decide) h1
    obtain ⟨k, hk, rfl⟩ := zB_in (n := 13) (by decide) h2
    obtain ⟨q, hq, rfl⟩ := zB_in (n := 16) (by decide) h3
    rw [xv_boat (by omega) (by omega) (by omega) h1 h2 h3 h4, e_c1r, tau_st, e_bd, e_b3]
    obtain ⟨u, k1, k2⟩ := mv_boat (τ := hp_t u0 601 0 (bo_v q n k d)) (s := s0) (q := q) (n := n) (k := k) (p := d) (by omega) (by omega) (by omega) h1 h2 h3 h4
    rw [k1, e_b3l]
    unfold fn_M_thrown
    refine ⟨hp_s s0 52 0 0, u, ?_, rel_q ok cx cm tp fm_0 ?_⟩
    · have e1 : px_lld u 601 (0 : Int32) = some (bo_v q n k d) := by
        rw [← tau_ld u0 (bo_v q n k d)]
        unfold px_lld
        rw [k2]
      rw [e_bd, s0_0, if_pos rfl, if_pos rfl, e1, e_bd, cmp_self, if_pos rfl]
    · unfold CT
      rw [hp_s_i, upd_n (by decide), hp_s_n (show 54 ≠ 52 by decide), hp_s_n (show 0 ≠ 52 by decide)]
      exact ct
  · rw [xv_bad h, e_c1l, e_b3, mv_bad h, e_b3l]
    unfold fn_M_thrown
    have hx1 : CX (hp_s s0 0 15 (s0 0 15 + 1)) A := cx.fr (fun i hi => hp_s_n (fun e0 => by rw [e0] at hi; exact absurd hi (by decide)))
    have hm1 : CM (hp_s s0 0 15 (s0 0 15 + 1)) A := cm.hi ok (fun i hi => hp_s_n (by omega))
    have ht1 : TP (hp_s s0 0 15 (s0 0 15 + 1)) := tp
    refine ⟨mbad (hp_s (hp_s s0 0 15 (s0 0 15 + 1)) 52 0 0) 1 1, u0, ?_, rel_q ok hx1 hm1 ht1 (fm_0.trans fm_bad) ?_⟩
    · have e3 : mbad (hp_s (hp_s s0 0 15 (s0 0 15 + 1)) 52 0 0) 1 1 52 0 = 1 := by unfold mbad; rw [hp_s_n (show 52 ≠ 54 by decide), hp_s_i, upd_i]
      rw [e_bd, e3, if_pos rfl, if_neg (by decide)]
    · unfold CT mbad
      rw [hp_s_n (show 52 ≠ 54 by decide), hp_s_i, upd_n (by decide), hp_s_i, upd_n (by decide), hp_s_i, upd_n (by decide), upd_i, hp_s_n (show 0 ≠ 54 by decide), hp_s_n (show 0 ≠ 52 by decide), hp_s_n (show 0 ≠ 52 by decide), hp_s_n (show 54 ≠ 52 by decide), hp_s_n (show 54 ≠ 52 by decide), hp_s_n (show 54 ≠ 0 by decide), hp_s_n (show 52 ≠ 0 by decide), hp_s_i, upd_n (by decide), upd_n (by decide), upd_i]
      exact ⟨ct.1, ct.2.1, by rw [ct.2.2]⟩

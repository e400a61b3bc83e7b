/-! THE LAW: a list of (kind, value): 0 a number, 1 a variable, 2 to 8 what joins two -/
abbrev ab_L : Type := List (Nat × Int32)
def lcode (q : Nat × Int32) : Int32 := if q.1 = 0 then q.2 else if q.1 = 1 then 1000 + q.2 else Int32.ofNat (1008 + q.1)
def okl : ab_L → Nat → Prop
  | [], n => n = 1
  | q :: t, n => if q.1 < 2 then (q.1 = 0 → zB q.2 1000) ∧ (q.1 = 1 → zB q.2 7) ∧ n < 32 ∧ okl t (n + 1) else q.1 ≤ 8 ∧ 2 ≤ n ∧ okl t (n - 1)
def LOK (lw : ab_L) : Prop := lw.length ≤ 150 ∧ (lw = [] ∨ okl lw 0)
def jn (k : Nat) (a b : Int32) : Int32 := if k = 2 then a + b else if k = 3 then a - b else if k = 4 then a * b else if k = 5 then (if b = 0 then 0 else a / b) else if k = 6 then (if b = 0 then 0 else a - a / b * b) else if k = 7 then (if a < b then a else b) else (if b < a then a else b)
def sv (kn : Nat → Int32) : ab_L → Nat × (Nat → Int32) → Nat × (Nat → Int32)
  | [], a => a
  | q :: t, a => sv kn t (if q.1 < 2 then (a.1 + 1, upd a.2 a.1 (if q.1 = 0 then q.2 else kn q.2.toNatClampNeg)) else (a.1 - 1, upd a.2 (a.1 - 2) (jn q.1 (a.2 (a.1 - 2)) (a.2 (a.1 - 1)))))
def sp_gr (lw : ab_L) (kn : Nat → Int32) : Int32 := px_max 0 (px_min 60 (if lw = [] then kn 1 else (sv kn lw (0, fun _ => 0)).2 0))
def LX (σ : hp_I) (lw : ab_L) : Prop := σ 21 1 = Int32.ofNat lw.length ∧ ∀ k (h : k < lw.length), σ 22 k = lcode lw[k]
def LM (σ : hp_I) (lw : ab_L) : Prop := σ 52 15 = Int32.ofNat lw.length ∧ ∀ k (h : k < lw.length), σ (156 + k) 0 = Int32.ofNat lw[k].1 ∧ σ (156 + k) 1 = lw[k].2
theorem sv_ind (kn : Nat → Int32) : ∀ (t : ab_L) (n : Nat) (a b : Nat → Int32), okl t n → (∀ j, j < n → a j = b j) → (sv kn t (n, a)).1 = 1 ∧ (sv kn t (n, b)).1 = 1 ∧ (sv kn t (n, a)).2 0 = (sv kn t (n, b)).2 0 := by
  intro t
  induction t with
  | nil =>
    intro n a b h hab
    have hn : n = 1 := h
    subst hn
    exact ⟨rfl, rfl, hab 0 (by decide)⟩
  | cons q t ih =>
    intro n a b h hab
    unfold okl at h
    unfold sv
    by_cases hq : q.1 < 2
    · rw [if_pos hq] at h
      simp only [hq, if_true]
      refine ih (n + 1) _ _ h.2.2.2 (fun j hj => ?_)
      by_cases e : j = n
      · subst e; simp [upd]
      · simp only [upd, e, if_false]; exact hab j (by omega)
    · rw [if_neg hq] at h
      simp only [hq, if_false]
      refine ih (n - 1) _ _ h.2.2 (fun j hj => ?_)
      rw [hab (n - 2) (by omega), hab (n - 1) (by omega)]
      by_cases e : j = n - 2
      · subst e; simp [upd]
      · simp only [upd, e, if_false]; exact hab j (by omega)
theorem i32_divm (a : Int32) : a / (-1) = -a := by
  apply Int32.toInt.inj
  have h : ((-1 : Int32)).toInt = -1 := by decide
  rw [Int32.toInt_div, h, Int32.toInt_neg, Int.tdiv_neg, Int.tdiv_one]
theorem i32_remm (a : Int32) : a - a / (-1) * (-1) = 0 := by
  rw [i32_divm, Int32.mul_neg, Int32.mul_one, Int32.neg_neg, Int32.sub_self]
theorem law_join (k : Nat) (h1 : 2 ≤ k) (h2 : k ≤ 8) (a b : Int32) : fn_Law_joined (Int32.ofNat (1008 + k)) a b = some (jn k a b) := by
  have hk : k = 2 ∨ k = 3 ∨ k = 4 ∨ k = 5 ∨ k = 6 ∨ k = 7 ∨ k = 8 := by omega
  rcases hk with rfl | rfl | rfl | rfl | rfl | rfl | rfl
  · rfl
  · rfl
  · rfl
  · show (if b = 0 then some 0 else Option.bind (px_div a b) fun z => some z) = some (if b = 0 then 0 else a / b)
    unfold px_div; split <;> rfl
  · show (if b = 0 then some 0 else Option.bind (px_rem a b) fun z => some z) = some (if b = 0 then 0 else a - a / b * b)
    unfold px_rem; split <;> rfl
  · show (if a < b then some a else some b) = some (if a < b then a else b)
    split <;> rfl
  · show (if b < a then some a else some b) = some (if b < a then a else b)
    split <;> rfl
theorem law_by (k : Nat) (h1 : 2 ≤ k) (h2 : k ≤ 8) (a b : Int32) : fn_M_by (Int32.ofNat k) a b = some (jn k a b) := by
  have hk : k = 2 ∨ k = 3 ∨ k = 4 ∨ k = 5 ∨ k = 6 ∨ k = 7 ∨ k = 8 := by omega
  rcases hk with rfl | rfl | rfl | rfl | rfl | rfl | rfl
  · rfl
  · rfl
  · rfl
  · show (if b = 0 then some 0 else if b = -1 then some (-a) else Option.bind (px_div a b) fun z => some z) = some (if b = 0 then 0 else a / b)
    unfold px_div
    by_cases h : b = 0
    · simp only [h, if_true]
    · by_cases h2 : b = -1
      · subst h2; rw [if_neg h, if_pos rfl, if_neg h, i32_divm]
      · simp only [h, h2, if_false]; rfl
  · show (if b = 0 then some 0 else if b = -1 then some 0 else Option.bind (px_rem a b) fun z => some z) = some (if b = 0 then 0 else a - a / b * b)
    unfold px_rem
    by_cases h : b = 0
    · simp only [h, if_true]
    · by_cases h2 : b = -1
      · subst h2; rw [if_neg h, if_pos rfl, if_neg h, i32_remm]
      · simp only [h, h2, if_false]; rfl
  · show (Option.bind (fn_M_less a b) fun z => some z) = some (if a < b then a else b)
    rw [ms_less]; rfl
  · show (Option.bind (fn_M_more2 a b) fun z => some z) = some (if b < a then a else b)
    rw [ms_more2]; rfl
theorem hp_ff {σ : hp_I} {i : Nat} {f g : Nat → Int32} : hp_f (hp_f σ i f) i g = hp_f σ i g := by
  funext a; unfold hp_f; by_cases h : a = i <;> simp [h]
theorem hp_s_f {σ : hp_I} {i k : Nat} {v : Int32} : hp_s σ i k v = hp_f σ i (upd (σ i) k v) := rfl
theorem hp_fs {σ : hp_I} {i : Nat} : hp_f σ i (σ i) = σ := by
  funext a; unfold hp_f; by_cases h : a = i <;> simp [h]
theorem lf_0 : sh_rf 21 0 = 22 := by decide +kernel
theorem lf_4 : sh_rf 21 4 = 24 := by decide +kernel
theorem lf_5 : sh_rf 21 5 = 25 := by decide +kernel
theorem ln_22 : sh_ln 22 = 150 := by decide +kernel
theorem ln_24 : sh_ln 24 = 7 := by decide +kernel
theorem ln_25 : sh_ln 25 = 32 := by decide +kernel
theorem zi_sub {a b : Nat} (h : b ≤ a) : Int32.ofNat a - Int32.ofNat b = Int32.ofNat (a - b) := (Int32.ofNat_sub a b h).symm
theorem zi_pred {a : Nat} (h : 1 ≤ a) : Int32.ofNat a + (-1) = Int32.ofNat (a - 1) := by
  rw [← zi_sub h]
  rw [Int32.sub_eq_add_neg]
  rfl
theorem zi_sub1 {a : Nat} (h : 1 ≤ a) : Int32.ofNat a - 1 = Int32.ofNat (a - 1) := zi_sub h
theorem zl_le {a b : Nat} (h : a ≤ b) (hb : b < 2147483648) : Int32.ofNat a ≤ Int32.ofNat b := by rw [zi_le (by omega) hb]; exact h
theorem zl_nle {a b : Nat} (h : b < a) (ha : a < 2147483648) : ¬ Int32.ofNat a ≤ Int32.ofNat b := by rw [zi_le ha (by omega)]; omega
theorem zl_lt {a b : Nat} (h : a < b) (hb : b < 2147483648) : Int32.ofNat a < Int32.ofNat b := by rw [zi_lt (by omega) hb]; exact h
theorem zl_nlt {a b : Nat} (h : b ≤ a) (ha : a < 2147483648) : ¬ Int32.ofNat a < Int32.ofNat b := by rw [zi_lt ha (by omega)]; omega
theorem zl_ne {a b : Nat} (h : a ≠ b) (ha : a < 2147483648) (hb : b < 2147483648) : ¬ Int32.ofNat a = Int32.ofNat b := by rw [zi_inj ha hb]; exact h
theorem drop_get {α : Type} {l t : List α} {i : Nat} {q : α} (h : l.drop i = q :: t) : ∃ hi : i < l.length, l[i] = q ∧ l.drop (i + 1) = t := by
  have hi : i < l.length := by
    by_cases hi : i < l.length
    · exact hi
    · rw [List.drop_eq_nil_iff.mpr (by omega)] at h; cases h
  rw [List.drop_eq_getElem_cons hi] at h
  exact ⟨hi, (List.cons.inj h).1, (List.cons.inj h).2⟩
theorem LX_25 {s : hp_I} {lw : ab_L} {f : Nat → Int32} (h : LX s lw) : LX (hp_f s 25 f) lw := h
theorem LX_24 {s : hp_I} {lw : ab_L} {f : Nat → Int32} (h : LX s lw) : LX (hp_f s 24 f) lw := h
theorem law_end {lw : ab_L} {s : hp_I} {k : hp_I → Option (Int32 × hp_I)} {fu n : Nat} (hl : lw.length ≤ 150) (hx : LX s lw) : fn_Law_value_L4 21 k (fu + 1) (Int32.ofNat n) (Int32.ofNat lw.length) s = k s := by
  rw [fn_Law_value_L4, hx.1, if_neg (Int32.lt_irrefl)]
theorem law_head {lw : ab_L} {s : hp_I} {i : Nat} (hl : lw.length ≤ 150) (hx : LX s lw) (hi : i < lw.length) : (Int32.ofNat i < s 21 1) ∧ px_ald s (sh_rf 21 0) (Int32.ofNat i) = some (lcode lw[i]) := by
  rw [hx.1, lf_0, zi_ald (by rw [ln_22]; omega) (by omega), hx.2 i hi]
  exact ⟨zl_lt hi (by omega), rfl⟩
theorem law_num {lw : ab_L} {s : hp_I} {k : hp_I → Option (Int32 × hp_I)} {fu n i v : Nat} (hl : lw.length ≤ 150) (hx : LX s lw) (hi : i < lw.length) (hc : lcode lw[i] = Int32.ofNat v) (hv : v < 1000) (hn : n < 32) : fn_Law_value_L4 21 k (fu + 1) (Int32.ofNat n) (Int32.ofNat i) s = fn_Law_value_L4 21 k fu (Int32.ofNat (n + 1)) (Int32.ofNat (i + 1)) (hp_s s 25 n (Int32.ofNat v)) := by
  obtain ⟨h1, h2⟩ := law_head hl hx hi
  have e1 : ¬ (1010 : Int32) ≤ Int32.ofNat v := zl_nle (a := 1010) (by omega) (by decide)
  have e2 : Int32.ofNat n < (32 : Int32) := zl_lt (b := 32) hn (by decide)
  have e3 : Int32.ofNat v < (1000 : Int32) := zl_lt (b := 1000) hv (by decide)
  rw [fn_Law_value_L4, if_pos h1, h2, Option.bind_some, hc]
  simp only [e_let, e_jn, zi_succ, lf_5, e1, e2, e3, if_true, if_false]
  rw [zi_ast (by rw [ln_25]; exact hn) (by omega), Option.bind_some]
theorem law_var0 {s : hp_I} {v : Nat} (hv : v < 7) : fn_Law_variable 21 (Int32.ofNat (1000 + v) - 1000) s = some (s 24 v) := by
  have e1 : Int32.ofNat (1000 + v) - Int32.ofNat 1000 = Int32.ofNat v := by rw [zi_sub (by omega), Nat.add_sub_cancel_left]
  have e2 : Int32.ofNat (1000 + v) - 1000 = Int32.ofNat v := e1
  rw [e2]
  unfold fn_Law_variable
  simp only [e_jn, lf_4]
  rw [if_pos (zi_pos (by omega)), if_pos (show Int32.ofNat v < (7 : Int32) from zl_lt (b := 7) hv (by decide)), zi_ald (by rw [ln_24]; exact hv) (by omega)]
  rfl
theorem law_var {lw : ab_L} {s : hp_I} {k : hp_I → Option (Int32 × hp_I)} {fu n i v : Nat} (hl : lw.length ≤ 150) (hx : LX s lw) (hi : i < lw.length) (hc : lcode lw[i] = Int32.ofNat (1000 + v)) (hv : v < 7) (hn : n < 32) : fn_Law_value_L4 21 k (fu + 1) (Int32.ofNat n) (Int32.ofNat i) s = fn_Law_value_L4 21 k fu (Int32.ofNat (n + 1)) (Int32.ofNat (i + 1)) (hp_s s 25 n (s 24 v)) := by
  obtain ⟨h1, h2⟩ := law_head hl hx hi
  have e1 : ¬ (1010 : Int32) ≤ Int32.ofNat (1000 + v) := zl_nle (a := 1010) (by omega) (by decide)
  have e2 : Int32.ofNat n < (32 : Int32) := zl_lt (b := 32) hn (by decide)
  have e3 : ¬ Int32.ofNat (1000 + v) < (1000 : Int32) := zl_nlt (b := 1000) (by omega) (by omega)
  rw [fn_Law_value_L4, if_pos h1, h2, Option.bind_some, hc]
  simp only [e_let, e_jn, zi_succ, lf_5, e1, e2, e3, if_true, if_false, law_var0 hv, e_bd]
  rw [zi_ast (by rw [ln_25]; exact hn) (by omega), Option.bind_some]
theorem law_op {lw : ab_L} {s : hp_I} {k : hp_I → Option (Int32 × hp_I)} {fu n i c : Nat} (hl : lw.length ≤ 150) (hx : LX s lw) (hi : i < lw.length) (hc : lcode lw[i] = Int32.ofNat (1008 + c)) (h2 : 2 ≤ c) (h8 : c ≤ 8) (hn : 2 ≤ n) (hn2 : n ≤ 32) : fn_Law_value_L4 21 k (fu + 1) (Int32.ofNat n) (Int32.ofNat i) s = fn_Law_value_L4 21 k fu (Int32.ofNat (n - 1)) (Int32.ofNat (i + 1)) (hp_s s 25 (n - 2) (jn c (s 25 (n - 2)) (s 25 (n - 1)))) := by
  obtain ⟨h1, h3⟩ := law_head hl hx hi
  have e1 : (1010 : Int32) ≤ Int32.ofNat (1008 + c) := zl_le (a := 1010) (by omega) (by omega)
  have e2 : (2 : Int32) ≤ Int32.ofNat n := zl_le (a := 2) hn (by omega)
  have e4 : n - 1 - 1 = n - 2 := by omega
  rw [fn_Law_value_L4, if_pos h1, h3, Option.bind_some, hc]
  simp only [e_let, e_jn, zi_succ, lf_5, e1, e2, if_true]
  rw [zi_pred (by omega), zi_sub1 (by omega), zi_ald (by rw [ln_25]; omega) (by omega), Option.bind_some, zi_ald (by rw [ln_25]; omega) (by omega), Option.bind_some, law_join _ h2 h8, Option.bind_some, zi_ast (by rw [ln_25]; omega) (by omega), Option.bind_some, e4]
theorem law_value (lw : ab_L) (hl : lw.length ≤ 150) (kn : Nat → Int32) (k : hp_I → Option (Int32 × hp_I)) : ∀ (t : ab_L) (i fu n : Nat) (s : hp_I), lw.drop i = t → i + t.length = lw.length → t.length < fu → okl t n → LX s lw → s 24 = kn → n ≤ 32 →
    fn_Law_value_L4 21 k fu (Int32.ofNat n) (Int32.ofNat i) s = k (hp_f s 25 (sv kn t (n, s 25)).2) := by
  intro t
  induction t with
  | nil =>
    intro i fu n s ht hi hf _ hx _ _
    have e : i = lw.length := hi
    subst e
    cases fu with
    | zero => exact absurd hf (Nat.not_lt_zero _)
    | succ fu => rw [law_end hl hx, sv, hp_fs]
  | cons q t ih =>
    intro i fu n s ht hi hf hok hx hkn hn
    obtain ⟨hlt, hq, hd⟩ := drop_get ht
    have hi' : i + 1 + t.length = lw.length := by rw [List.length_cons] at hi; omega
    rw [List.length_cons] at hf
    unfold okl at hok
    unfold sv
    cases fu with
    | zero => exact absurd hf (Nat.not_lt_zero _)
    | succ fu =>
      by_cases h2 : q.1 < 2
      · rw [if_pos h2] at hok
        obtain ⟨o1, o2, o3, o4⟩ := hok
        by_cases h0 : q.1 = 0
        · obtain ⟨v, hv, e⟩ := o1 h0
          rw [law_num hl hx hlt (by rw [hq]; unfold lcode; rw [if_pos h0, e]) hv o3, hp_s_f, ih (i + 1) fu (n + 1) _ hd hi' (by omega) o4 (LX_25 hx) hkn (by omega), hp_ff, hp_f_i, if_pos h2, if_pos h0, e]
        · obtain ⟨v, hv, e⟩ := o2 (by omega)
          rw [law_var hl hx hlt (by rw [hq]; unfold lcode; rw [if_neg h0, if_pos (by omega), e, ← zi_add]; rfl) hv o3, hp_s_f, ih (i + 1) fu (n + 1) _ hd hi' (by omega) o4 (LX_25 hx) hkn (by omega), hp_ff, hp_f_i, if_pos h2, if_neg h0, e, zi_nat (by omega), hkn]
      · rw [if_neg h2] at hok
        obtain ⟨o1, o2, o3⟩ := hok
        rw [law_op hl hx hlt (by rw [hq]; unfold lcode; rw [if_neg (by omega), if_neg (by omega)]) (by omega) o1 o2 hn, hp_s_f, ih (i + 1) fu (n - 1) _ hd hi' (by omega) o3 (LX_25 hx) hkn (by omega), hp_ff, hp_f_i, if_neg h2]
/-- the class's MORE -/
def kn7 (a b c d e f g : Int32) : Nat → Int32 := fun i => if i = 0 then a else if i = 1 then b else if i = 2 then c else if i = 3 then d else if i = 4 then e else if i = 5 then f else g
theorem kn7_eq (f0 : Nat → Int32) (a b c d e f g : Int32) : ∀ i, i < 7 → (upd (upd (upd (upd (upd (upd (upd f0 0 a) 1 b) 2 c) 3 d) 4 e) 5 f) 6 g) i = kn7 a b c d e f g i := by
  intro i hi
  have : i = 0 ∨ i = 1 ∨ i = 2 ∨ i = 3 ∨ i = 4 ∨ i = 5 ∨ i = 6 := by omega
  rcases this with rfl | rfl | rfl | rfl | rfl | rfl | rfl <;> rfl
theorem sv_kn (k1 k2 : Nat → Int32) (h : ∀ i, i < 7 → k1 i = k2 i) : ∀ (t : ab_L) (n : Nat) (a : Nat → Int32), okl t n → sv k1 t (n, a) = sv k2 t (n, a) := by
  intro t
  induction t with
  | nil => intro n a _; rfl
  | cons q t ih =>
    intro n a hok
    unfold okl at hok
    unfold sv
    by_cases h2 : q.1 < 2
    · rw [if_pos h2] at hok
      simp only [h2, if_true]
      have e : (if q.1 = 0 then q.2 else k1 q.2.toNatClampNeg) = (if q.1 = 0 then q.2 else k2 q.2.toNatClampNeg) := by
        by_cases h0 : q.1 = 0
        · simp only [h0, if_true]
        · simp only [h0, if_false]
          exact h _ (zB_nat (by decide) (hok.2.1 (by omega))).1
      rw [e]
      exact ih _ _ hok.2.2.2
    · rw [if_neg h2] at hok
      simp only [h2, if_false]
      exact ih _ _ hok.2.2
theorem law_growth {σ : hp_I} {lw : ab_L} (hx : LX σ lw) (ok : LOK lw) (a b c d e f g : Int32) : ∃ σ', fn_Law_growth 21 a b c d e f g σ = some (sp_gr lw (kn7 a b c d e f g), σ') ∧ Fc [24, 25] σ σ' := by
  have w : ∀ (s : hp_I) (i : Nat) (v : Int32), i < 7 → px_ast s 24 (Int32.ofNat i) v = some (hp_f s 24 (upd (s 24) i v)) := fun s i v hi => zi_ast (by rw [ln_24]; exact hi) (by omega)
  unfold fn_Law_growth
  simp only [lf_4]
  rw [show px_ast σ 24 0 a = _ from w σ 0 a (by decide), Option.bind_some]
  rw [show px_ast _ 24 1 b = _ from w _ 1 b (by decide), Option.bind_some, hp_ff, hp_f_i]
  rw [show px_ast _ 24 2 c = _ from w _ 2 c (by decide), Option.bind_some, hp_ff, hp_f_i]
  rw [show px_ast _ 24 3 d = _ from w _ 3 d (by decide), Option.bind_some, hp_ff, hp_f_i]
  rw [show px_ast _ 24 4 e = _ from w _ 4 e (by decide), Option.bind_some, hp_ff, hp_f_i]
  rw [show px_ast _ 24 5 f = _ from w _ 5 f (by decide), Option.bind_some, hp_ff, hp_f_i]
  rw [show px_ast _ 24 6 g = _ from w _ 6 g (by decide), Option.bind_some, hp_ff, hp_f_i]
  generalize hG : upd (upd (upd (upd (upd (upd (upd (σ 24) 0 a) 1 b) 2 c) 3 d) 4 e) 5 f) 6 g = G0
  have hk : ∀ i, i < 7 → G0 i = kn7 a b c d e f g i := fun i hi => by rw [← hG]; exact kn7_eq _ a b c d e f g i hi
  have hx' : LX (hp_f σ 24 G0) lw := LX_24 hx
  have hlen : (hp_f σ 24 G0) 21 1 = Int32.ofNat lw.length := hx'.1
  have hl := ok.1
  simp only [e_jn, e_let]
  rw [hlen]
  unfold sp_gr
  by_cases hn : lw = []
  · subst hn
    refine ⟨hp_f σ 24 G0, by rw [if_pos (show Int32.ofNat ([] : ab_L).length = 0 from rfl)]; rfl, fun i hi => hp_f_n (fun e => hi (by rw [e]; decide))⟩
  · have h1 : 0 < lw.length := List.length_pos_iff.mpr hn
    have hokl : okl lw 0 := ok.2.resolve_left hn
    rw [if_neg (show ¬ Int32.ofNat lw.length = 0 from zl_ne (b := 0) (by omega) (by omega) (by decide)), if_neg hn]
    unfold fn_Law_value
    simp only [e_let, lf_5]
    generalize hF : FU = F
    have hF2 : F = 100000 := hF.symm
    have hv := law_value lw hl G0 (fun s => Option.bind (px_ald s 25 0) fun z => some (z, s)) lw 0 F 0 (hp_f σ 24 G0) rfl (by omega) (by omega) hokl hx' hp_f_i (by decide)
    rw [show (fn_Law_value_L4 21 (fun s => Option.bind (px_ald s 25 0) fun z => some (z, s)) F 0 0 (hp_f σ 24 G0)) = _ from hv]
    rw [show px_ald _ 25 0 = _ from zi_ald (a := 0) (by rw [ln_25]; decide) (by decide), Option.bind_some, hp_f_i]
    have e1 := (sv_ind G0 lw 0 ((hp_f σ 24 G0) 25) (fun _ => 0) hokl (fun j hj => absurd hj (Nat.not_lt_zero _))).2.2
    rw [e1, sv_kn G0 _ hk lw 0 _ hokl]
    refine ⟨_, rfl, fun i hi => ?_⟩
    show hp_f (hp_f σ 24 G0) 25 _ i = _
    rw [hp_f_n (fun e => hi (by rw [e]; decide)), hp_f_n (fun e => hi (by rw [e]; decide))]

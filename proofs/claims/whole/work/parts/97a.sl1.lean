/-! SLIPS: one scheme put into a row; its night -/
theorem zF_add {α : Type} (f : Nat → α → α) : ∀ (n m i : Nat) (a : α), zF f (n + m) i a = zF f m (i + n) (zF f n i a) := by
  intro n
  induction n with
  | zero => intro m i a; rw [Nat.zero_add]; rfl
  | succ n ih =>
    intro m i a
    rw [show n + 1 + m = (n + m) + 1 by omega]
    show zF f (n + m) (i + 1) (f i a) = zF f m (i + (n + 1)) (zF f n (i + 1) (f i a))
    rw [ih, show i + 1 + n = i + (n + 1) by omega]
def ins (s : Nat) (e y : Int32) (ρ : ab_R) : ab_R := upd (upd (upd ρ 1 (ρ 1 ||| bitI s)) (5 + s) e) (13 + s) y
section INS
variable {s q c : Nat} {e y z : Int32} {ρ ρ' : ab_R} {H : ab_H} {lw : ab_L}
theorem ins_1 : ins s e y ρ 1 = ρ 1 ||| bitI s := by unfold ins; rw [upd_n (by omega), upd_n (by omega), upd_i]
theorem ins_r : s < 8 → ins s e y ρ (5 + s) = e := fun h => by unfold ins; rw [upd_n (by omega), upd_i]
theorem ins_z : ins s e y ρ (13 + s) = y := by unfold ins; rw [upd_i]
theorem ins_n {k : Nat} (h1 : k ≠ 1) (h2 : k ≠ 5 + s) (h3 : k ≠ 13 + s) : ins s e y ρ k = ρ k := by unfold ins; rw [upd_n h3, upd_n h2, upd_n h1]
theorem ins_ext (h8 : s < 8) (h1 : ρ' 1 = ρ 1 ||| bitI s) (h2 : ρ' (5 + s) = e) (h3 : ρ' (13 + s) = y) (hn : ∀ k, k ≠ 1 → k ≠ 5 + s → k ≠ 13 + s → ρ' k = ρ k) : ρ' = ins s e y ρ := by
  funext k
  by_cases c1 : k = 1
  · rw [c1, ins_1]; exact h1
  · by_cases c2 : k = 5 + s
    · rw [c2, ins_r h8]; exact h2
    · by_cases c3 : k = 13 + s
      · rw [c3, ins_z]; exact h3
      · rw [ins_n c1 c2 c3]; exact hn k c1 c2 c3
theorem ins_upd {k : Nat} {v : Int32} (h8 : s < 8) (h1 : k ≠ 1) (h2 : k ≠ 5 + s) (h3 : k ≠ 13 + s) : upd (ins s e y ρ) k v = ins s e y (upd ρ k v) := by
  refine ins_ext h8 ?_ ?_ ?_ (fun j c1 c2 c3 => ?_)
  · rw [upd_n (fun q => h1 q.symm), ins_1, upd_n (fun q => h1 q.symm)]
  · rw [upd_n (fun q => h2 q.symm), ins_r h8]
  · rw [upd_n (fun q => h3 q.symm), ins_z]
  · by_cases cj : j = k
    · rw [cj, upd_i, upd_i]
    · rw [upd_n cj, upd_n cj, ins_n c1 c2 c3]
theorem ins_live {w : Int32} (h8 : s < 8) : upd (ins s e y ρ) 1 (w ||| bitI s) = ins s e y (upd ρ 1 w) := by
  refine ins_ext h8 ?_ ?_ ?_ (fun j c1 c2 c3 => ?_)
  · rw [upd_i, upd_i]
  · rw [upd_n (by omega), ins_r h8]
  · rw [upd_n (by omega), ins_z]
  · rw [upd_n c1, upd_n c1, ins_n c1 c2 c3]
theorem ins_size {v : Int32} (h8 : s < 8) : upd (ins s e y ρ) (13 + s) v = ins s e v ρ := by
  refine ins_ext h8 ?_ ?_ ?_ (fun j c1 c2 c3 => ?_)
  · rw [upd_n (by omega), ins_1]
  · rw [upd_n (by omega), ins_r h8]
  · rw [upd_i]
  · rw [upd_n c3, ins_n c1 c2 c3]
theorem cin_ext {v : Int32} (h : ∀ c, c < hC H → ρ' (37 + c) = ρ (37 + c)) : sp_cin H ρ' v = sp_cin H ρ v := zF_ext _ _ (hC H) (fun i a hi => by rw [h i hi]) (hC H) 0 0 (by omega)
theorem cin_ins {v : Int32} (h8 : s < 8) : sp_cin H (ins s e y ρ) v = sp_cin H ρ v := cin_ext (fun c _ => ins_n (by omega) (by omega) (by omega))
theorem more_ins (h8 : s < 8) (hq : q < 8) (hn : q ≠ s) : sp_more H lw (ins s e y ρ) q = sp_more H lw ρ q := by
  unfold sp_more
  rw [ins_n (show 13 + q ≠ 1 by omega) (by omega) (by omega), ins_n (show 5 + q ≠ 1 by omega) (by omega) (by omega), cin_ins h8, ins_n (show 0 ≠ 1 by omega) (by omega) (by omega), ins_n (show 2 ≠ 1 by omega) (by omega) (by omega)]
/-- its size behind the growth -/
def gz (H : ab_H) (lw : ab_L) (ρ : ab_R) (s : Nat) (e z : Int32) : Int32 := px_min 999 (z + sp_gr lw (kn7 z (hV H 5 s) (hV H 0 e.toNatClampNeg) (bc (sp_cin H ρ e)) (ρ 0) (bc (ρ 2)) (Int32.ofNat s)))
theorem gz_ext (h0 : ρ' 0 = ρ 0) (h2 : ρ' 2 = ρ 2) (h : ∀ c, c < hC H → ρ' (37 + c) = ρ (37 + c)) : gz H lw ρ' s e z = gz H lw ρ s e z := by
  unfold gz
  rw [h0, h2, cin_ext h]
theorem gstep_n (h8 : s < 8) (hq : q < 8) (hn : q ≠ s) : gstep H lw q (ins s e y ρ) = ins s e y (gstep H lw q ρ) := by
  unfold gstep
  rw [ins_1, hasB_or (by omega), hasB_bit (by omega) (by omega), decide_eq_false (fun e => hn e.symm), Bool.or_false]
  split
  · rw [ins_n (show 13 + q ≠ 1 by omega) (by omega) (by omega), more_ins h8 hq hn, ins_upd h8 (by omega) (by omega) (by omega)]
  · rfl
theorem gstep_s (h8 : s < 8) : gstep H lw s (ins s e z ρ) = ins s e (gz H lw ρ s e z) ρ := by
  unfold gstep
  rw [ins_1, hasB_or (by omega), hasB_bit (by omega) (by omega), decide_eq_true rfl, Bool.or_true, if_pos rfl, ins_z, ins_size h8]
  unfold sp_more gz
  rw [ins_z, ins_r h8, cin_ins h8, ins_n (show 0 ≠ 1 by omega) (by omega) (by omega), ins_n (show 2 ≠ 1 by omega) (by omega) (by omega)]
theorem gstep_k {k : Nat} (hk : k ≠ 13 + q) : gstep H lw q ρ k = ρ k := by
  unfold gstep
  split
  · exact upd_n hk
  · rfl
theorem grow_k {k : Nat} (hk : k < 13 ∨ 21 ≤ k) : ∀ n i ρ, i + n ≤ 8 → zF (gstep H lw) n i ρ k = ρ k := by
  intro n
  induction n with
  | zero => intro i ρ _; rfl
  | succ n ih =>
    intro i ρ hi
    show zF (gstep H lw) n (i + 1) (gstep H lw i ρ) k = ρ k
    rw [ih (i + 1) _ (by omega), gstep_k (by omega)]
theorem grow_ins (h8 : s < 8) : ∀ n i ρ, i + n ≤ 8 → (s < i ∨ i + n ≤ s) → zF (gstep H lw) n i (ins s e y ρ) = ins s e y (zF (gstep H lw) n i ρ) := by
  intro n
  induction n with
  | zero => intro i ρ _ _; rfl
  | succ n ih =>
    intro i ρ hi hs
    show zF (gstep H lw) n (i + 1) (gstep H lw i (ins s e y ρ)) = ins s e y (zF (gstep H lw) n (i + 1) (gstep H lw i ρ))
    rw [gstep_n h8 (by omega) (by omega)]
    exact ih (i + 1) _ (by omega) (by omega)
theorem grown_ins (ok : HOK H) (hs : s < hS H) (hd : hasB (ρ 1) s = false) : sp_grown H lw (ins s e z ρ) = ins s e (gz H lw ρ s e z) (sp_grown H lw ρ) := by
  have h8 := ok.2.2.1
  unfold sp_grown
  rw [show hS H = s + (1 + (hS H - s - 1)) by omega, zF_add, zF_add, zF_add, zF_add, grow_ins (by omega) s 0 ρ (by omega) (Or.inr (by omega))]
  have e1 : ∀ a : ab_R, zF (gstep H lw) 1 (0 + s) a = gstep H lw s a := fun a => by rw [Nat.zero_add]; rfl
  rw [e1, e1, gstep_s (by omega), grow_ins (by omega) _ _ _ (by omega) (Or.inl (by omega))]
  have e2 : gstep H lw s (zF (gstep H lw) s 0 ρ) = zF (gstep H lw) s 0 ρ := by
    have hk1 : zF (gstep H lw) s 0 ρ 1 = ρ 1 := grow_k (Or.inl (by decide)) s 0 ρ (by omega)
    generalize zF (gstep H lw) s 0 ρ = R at hk1 ⊢
    unfold gstep
    rw [hk1, hd]
    rfl
  have e3 : gz H lw (zF (gstep H lw) s 0 ρ) s e z = gz H lw ρ s e z := gz_ext (grow_k (Or.inl (by decide)) s 0 ρ (by omega)) (grow_k (Or.inl (by decide)) s 0 ρ (by omega)) (fun c _ => grow_k (Or.inr (by omega)) s 0 ρ (by omega))
  have e4 : ∀ f : Nat → ab_R → ab_R, (f = gstep H lw) → zF f 1 (0 + s) (zF f s 0 ρ) = gstep H lw s (zF (gstep H lw) s 0 ρ) := fun f hf => by rw [hf]; exact e1 _
  rw [e3, e2]
/-! which one a cat takes -/
def GRE (ρ : ab_R) (b : Int32) (n : Nat) : Option Nat → Prop
  | none => ∀ q, q < n → hasB b q = false
  | some t => t < n ∧ hasB b t = true ∧ ∀ q, q < n → hasB b q = true → ((ρ (13 + q)).toInt < (ρ (13 + t)).toInt ∨ ((ρ (13 + q)).toInt = (ρ (13 + t)).toInt ∧ t ≤ q))
theorem gre_spec (b : Int32) : ∀ n, GRE ρ b n (zF (sg_st ρ b) n 0 none) := by
  intro n
  induction n with
  | zero => intro q hq; exact absurd hq (Nat.not_lt_zero _)
  | succ n ih =>
    rw [zF_snoc, Nat.zero_add]
    generalize zF (sg_st ρ b) n 0 none = r at ih ⊢
    unfold sg_st
    by_cases hb : hasB b n = true
    · rw [if_pos hb]
      cases r with
      | none =>
        refine ⟨by omega, hb, fun q hq hq2 => ?_⟩
        by_cases e : q = n
        · rw [e]; exact Or.inr ⟨rfl, Nat.le_refl _⟩
        · rw [ih q (by omega)] at hq2; cases hq2
      | some t =>
        obtain ⟨i1, i2, i3⟩ := ih
        try dsimp only
        by_cases c : ρ (13 + t) < ρ (13 + n)
        · rw [if_pos c]
          rw [Int32.lt_iff_toInt_lt] at c
          refine ⟨by omega, hb, fun q hq hq2 => ?_⟩
          by_cases e : q = n
          · rw [e]; exact Or.inr ⟨rfl, Nat.le_refl _⟩
          · have := i3 q (by omega) hq2
            left; omega
        · rw [if_neg c]
          rw [Int32.lt_iff_toInt_lt] at c
          refine ⟨by omega, i2, fun q hq hq2 => ?_⟩
          by_cases e : q = n
          · rw [e]; omega
          · exact i3 q (by omega) hq2
    · rw [if_neg hb]
      cases r with
      | none =>
        intro q hq
        by_cases e : q = n
        · rw [e]; simpa using hb
        · exact ih q (by omega)
      | some t =>
        obtain ⟨i1, i2, i3⟩ := ih
        refine ⟨by omega, i2, fun q hq hq2 => ?_⟩
        by_cases e : q = n
        · rw [e] at hq2; exact absurd hq2 hb
        · exact i3 q (by omega) hq2
theorem gre_uniq {b : Int32} {n : Nat} {r r' : Option Nat} (h : GRE ρ b n r) (h' : GRE ρ b n r') : r = r' := by
  cases r with
  | none =>
    cases r' with
    | none => rfl
    | some t' => have := h t' h'.1; rw [h'.2.1] at this; cases this
  | some t =>
    cases r' with
    | none => have := h' t h.1; rw [h.2.1] at this; cases this
    | some t' =>
      have a := h.2.2 t' h'.1 h'.2.1
      have a' := h'.2.2 t h.1 h.2.1
      have : t = t' := by omega
      rw [this]
theorem tk_spec (H : ab_H) (ρ : ab_R) (c : Nat) : GRE ρ (sp_see H ρ c) (hS H) (tk H ρ c) := gre_spec _ _
theorem tk_is {r : Option Nat} (h : GRE ρ (sp_see H ρ c) (hS H) r) : tk H ρ c = r := gre_uniq (tk_spec H ρ c) h
/-- whether it lives on behind a cat -/
def SVp (H : ab_H) (ρ : ab_R) (c s : Nat) (e y : Int32) : Prop := ¬ (e = ρ (37 + c) ∧ sp_ws H c y (ρ (37 + c)) = true) ∨ ∃ t, tk H ρ c = some t ∧ (y.toInt < (ρ (13 + t)).toInt ∨ (y.toInt = (ρ (13 + t)).toInt ∧ t < s))
theorem see_n (ok : HOK H) (hs : s < hS H) {q : Nat} (hq : q < hS H) (hn : q ≠ s) : hasB (sp_see H (ins s e y ρ) c) q = hasB (sp_see H ρ c) q := by
  have h8 := ok.2.2.1
  rw [see_has ok _ _ hq, see_has ok _ _ hq, ins_1, hasB_or (by omega), hasB_bit (by omega) (by omega), decide_eq_false (fun e => hn e.symm), Bool.or_false, ins_n (show 5 + q ≠ 1 by omega) (by omega) (by omega), ins_n (show 37 + c ≠ 1 by omega) (by omega) (by omega), ins_n (show 13 + q ≠ 1 by omega) (by omega) (by omega)]
theorem see_s (ok : HOK H) (hs : s < hS H) : hasB (sp_see H (ins s e y ρ) c) s = (decide (e = ρ (37 + c)) && sp_ws H c y (ρ (37 + c))) := by
  have h8 := ok.2.2.1
  rw [see_has ok _ _ hs, ins_1, hasB_or (by omega), hasB_bit (by omega) (by omega), decide_eq_true rfl, Bool.or_true, Bool.true_and, ins_r (by omega), ins_z, ins_n (show 37 + c ≠ 1 by omega) (by omega) (by omega)]
theorem see_d (ok : HOK H) (hs : s < hS H) (hd : hasB (ρ 1) s = false) : hasB (sp_see H ρ c) s = false := by rw [see_has ok _ _ hs, hd, Bool.false_and]
theorem tk_sv (ok : HOK H) (hs : s < hS H) (hd : hasB (ρ 1) s = false) (sv : SVp H ρ c s e y) : tk H (ins s e y ρ) c = tk H ρ c := by
  have h8 := ok.2.2.1
  have sp := tk_spec H ρ c
  apply tk_is
  have sz : ∀ q, q < hS H → q ≠ s → ins s e y ρ (13 + q) = ρ (13 + q) := fun q hq hn => ins_n (by omega) (by omega) (by omega)
  have hsd := see_d (c := c) ok hs hd
  cases hr : tk H ρ c with
  | none =>
    rw [hr] at sp
    intro q hq
    by_cases e1 : q = s
    · rw [e1, see_s ok hs]
      rcases sv with sv | ⟨t, ht, -⟩
      · cases h1 : sp_ws H c y (ρ (37 + c)) with
        | false => rw [Bool.and_false]
        | true => rw [decide_eq_false (fun e2 => sv ⟨e2, h1⟩), Bool.false_and]
      · rw [hr] at ht; cases ht
    · rw [see_n ok hs hq e1]; exact sp q hq
  | some t =>
    rw [hr] at sp
    obtain ⟨i1, i2, i3⟩ := sp
    have hts : t ≠ s := fun e2 => by rw [e2, hsd] at i2; cases i2
    refine ⟨i1, by rw [see_n ok hs i1 hts]; exact i2, fun q hq hq2 => ?_⟩
    rw [sz t i1 hts]
    by_cases e1 : q = s
    · rw [e1] at hq2 ⊢
      rw [see_s ok hs] at hq2
      rw [ins_z]
      simp at hq2
      rcases sv with sv | ⟨t', ht', h2⟩
      · exact absurd ⟨hq2.1, hq2.2⟩ sv
      · rw [hr] at ht'
        cases ht'
        omega
    · rw [see_n ok hs hq e1] at hq2
      rw [sz q hq e1]
      exact i3 q hq hq2
theorem tk_no (ok : HOK H) (hs : s < hS H) (hd : hasB (ρ 1) s = false) (sv : ¬ SVp H ρ c s e y) : tk H (ins s e y ρ) c = some s := by
  have h8 := ok.2.2.1
  have sp := tk_spec H ρ c
  apply tk_is
  have sz : ∀ q, q < hS H → q ≠ s → ins s e y ρ (13 + q) = ρ (13 + q) := fun q hq hn => ins_n (by omega) (by omega) (by omega)
  have hsn : e = ρ (37 + c) ∧ sp_ws H c y (ρ (37 + c)) = true := Classical.byContradiction (fun h => sv (Or.inl h))
  refine ⟨hs, by rw [see_s ok hs, hsn.2, decide_eq_true hsn.1]; rfl, fun q hq hq2 => ?_⟩
  rw [ins_z]
  by_cases e1 : q = s
  · rw [e1, ins_z]; exact Or.inr ⟨rfl, Nat.le_refl _⟩
  · rw [see_n ok hs hq e1] at hq2
    rw [sz q hq e1]
    cases hr : tk H ρ c with
    | none => rw [hr] at sp; rw [sp q hq] at hq2; cases hq2
    | some t =>
      rw [hr] at sp
      have h1 := sp.2.2 q hq hq2
      have h2 : ¬ (y.toInt < (ρ (13 + t)).toInt ∨ (y.toInt = (ρ (13 + t)).toInt ∧ t < s)) := fun h => sv (Or.inr ⟨t, hr, h⟩)
      omega
theorem tkl_ive (ok : HOK H) {t : Nat} (h : tk H ρ c = some t) : t < hS H ∧ hasB (ρ 1) t = true := by
  have sp := tk_spec H ρ c
  rw [h] at sp
  have h1 := sp.2.1
  rw [see_has ok _ _ sp.1] at h1
  simp at h1
  exact ⟨sp.1, h1.1⟩
theorem tstep_sv (ok : HOK H) (hs : s < hS H) (hc : c < hC H) (hd : hasB (ρ 1) s = false) (sv : SVp H ρ c s e y) : tstep H c (ins s e y ρ) = ins s e y (tstep H c ρ) := by
  have h8 := ok.2.2.1
  have h5 := ok.2.2.2.1
  unfold tstep
  rw [tk_sv ok hs hd sv]
  cases hr : tk H ρ c with
  | none => rfl
  | some t =>
    obtain ⟨ht, hl⟩ := tkl_ive ok hr
    have hts : t ≠ s := fun e2 => by rw [e2, hd] at hl; cases hl
    show tmat (ins s e y ρ) t c = ins s e y (tmat ρ t c)
    unfold tmat
    have e1 : ins s e y ρ 1 &&& (bitI t ^^^ (-1)) = (ρ 1 &&& (bitI t ^^^ (-1))) ||| bitI s := by
      rw [ins_1]
      apply hasB_ext
      intro k hk
      rw [hasB_and hk, hasB_or hk, hasB_or hk, hasB_and hk, hasB_not hk, hasB_bit (by omega) hk, hasB_bit (by omega) hk]
      by_cases c1 : s = k
      · rw [decide_eq_true c1, decide_eq_false (show ¬ t = k by omega)]; simp
      · rw [decide_eq_false c1]; simp
    rw [e1, ins_live (by omega), ins_n (show 2 ≠ 1 by omega) (by omega) (by omega), ins_n (show 0 ≠ 1 by omega) (by omega) (by omega), ins_n (show 42 + c ≠ 1 by omega) (by omega) (by omega), ins_upd (by omega) (by omega) (by omega) (by omega), ins_upd (by omega) (by omega) (by omega) (by omega), ins_upd (by omega) (by omega) (by omega) (by omega), ins_upd (by omega) (by omega) (by omega) (by omega)]
theorem tmat_1 {t : Nat} : tmat ρ t c 1 = ρ 1 &&& (bitI t ^^^ (-1)) := by unfold tmat; rw [upd_n (by omega), upd_n (by omega), upd_n (by omega), upd_n (by omega), upd_i]
theorem tstep_d (ok : HOK H) (hs : s < hS H) (hd : hasB (ρ 1) s = false) : hasB (tstep H c ρ 1) s = false := by
  have h8 := ok.2.2.1
  unfold tstep
  cases tk H ρ c with
  | none => exact hd
  | some t =>
    show hasB (tmat ρ t c 1) s = false
    rw [tmat_1, hasB_and (by omega), hd, Bool.false_and]
theorem tstep_no (ok : HOK H) (hs : s < hS H) (hd : hasB (ρ 1) s = false) (sv : ¬ SVp H ρ c s e y) : hasB (tstep H c (ins s e y ρ) 1) s = false := by
  have h8 := ok.2.2.1
  unfold tstep
  rw [tk_no ok hs hd sv]
  show hasB (tmat (ins s e y ρ) s c 1) s = false
  rw [tmat_1, hasB_and (by omega), hasB_not (by omega), hasB_bit (by omega) (by omega), decide_eq_true rfl]
  simp
theorem dead_all (ok : HOK H) (hs : s < hS H) : ∀ n i ρ, hasB (ρ 1) s = false → hasB (zF (tstep H) n i ρ 1) s = false := by
  intro n
  induction n with
  | zero => intro i ρ h; exact h
  | succ n ih => intro i ρ h; exact ih (i + 1) _ (tstep_d ok hs h)
theorem taken_ins (ok : HOK H) (hs : s < hS H) : ∀ n i ρ, i + n ≤ hC H → hasB (ρ 1) s = false → ((∀ k, k < n → SVp H (zF (tstep H) k i ρ) (i + k) s e y) ∧ zF (tstep H) n i (ins s e y ρ) = ins s e y (zF (tstep H) n i ρ)) ∨ ((¬ ∀ k, k < n → SVp H (zF (tstep H) k i ρ) (i + k) s e y) ∧ hasB (zF (tstep H) n i (ins s e y ρ) 1) s = false) := by
  intro n
  induction n with
  | zero => intro i ρ _ _; exact Or.inl ⟨fun k hk => absurd hk (Nat.not_lt_zero _), rfl⟩
  | succ n ih =>
    intro i ρ hi hd
    by_cases sv : SVp H ρ i s e y
    · have e1 : zF (tstep H) (n + 1) i (ins s e y ρ) = zF (tstep H) n (i + 1) (ins s e y (tstep H i ρ)) := by
        show zF (tstep H) n (i + 1) (tstep H i (ins s e y ρ)) = _
        rw [tstep_sv ok hs (by omega) hd sv]
      have key : (∀ k, k < n + 1 → SVp H (zF (tstep H) k i ρ) (i + k) s e y) ↔ (∀ k, k < n → SVp H (zF (tstep H) k (i + 1) (tstep H i ρ)) (i + 1 + k) s e y) := by
        constructor
        · intro h k hk
          have := h (k + 1) (by omega)
          rw [show i + (k + 1) = i + 1 + k by omega] at this
          exact this
        · intro h k hk
          cases k with
          | zero => exact sv
          | succ k =>
            have := h k (by omega)
            rw [show i + 1 + k = i + (k + 1) by omega] at this
            exact this
      rw [e1, key]
      exact ih (i + 1) (tstep H i ρ) (by omega) (tstep_d ok hs hd)
    · right
      refine ⟨fun h => sv (h 0 (by omega)), ?_⟩
      show hasB (zF (tstep H) n (i + 1) (tstep H i (ins s e y ρ)) 1) s = false
      exact dead_all ok hs _ _ _ (tstep_no ok hs hd sv)
/-- all cats of the night -/
def SVA (H : ab_H) (lw : ab_L) (ρ : ab_R) (s : Nat) (e y : Int32) : Prop := ∀ c, c < hC H → SVp H (zF (tstep H) c 0 (sp_grown H lw ρ)) c s e y
theorem night_ins (ok : HOK H) (hs : s < hS H) (hd : hasB (ρ 1) s = false) : (SVA H lw ρ s e (gz H lw ρ s e z) ∧ hasB (sp_night H lw (ins s e z ρ) 1) s = true ∧ sp_night H lw (ins s e z ρ) (13 + s) = gz H lw ρ s e z) ∨ (¬ SVA H lw ρ s e (gz H lw ρ s e z) ∧ hasB (sp_night H lw (ins s e z ρ) 1) s = false) := by
  have h8 := ok.2.2.1
  have hg : hasB (sp_grown H lw ρ 1) s = false := by
    rw [show sp_grown H lw ρ 1 = ρ 1 from grow_k (Or.inl (by decide)) (hS H) 0 ρ (by omega)]; exact hd
  have n1 : sp_night H lw (ins s e z ρ) 1 = zF (tstep H) (hC H) 0 (sp_grown H lw (ins s e z ρ)) 1 := by unfold sp_night sp_taken; rw [upd_n (by omega)]
  have n2 : sp_night H lw (ins s e z ρ) (13 + s) = zF (tstep H) (hC H) 0 (sp_grown H lw (ins s e z ρ)) (13 + s) := by unfold sp_night sp_taken; rw [upd_n (by omega)]
  rw [n1, n2, grown_ins ok hs hd]
  have key : SVA H lw ρ s e (gz H lw ρ s e z) ↔ ∀ k, k < hC H → SVp H (zF (tstep H) k 0 (sp_grown H lw ρ)) (0 + k) s e (gz H lw ρ s e z) := by
    unfold SVA
    constructor
    · intro h k hk; rw [Nat.zero_add]; exact h k hk
    · intro h k hk; have := h k hk; rw [Nat.zero_add] at this; exact this
  rcases taken_ins (e := e) (y := gz H lw ρ s e z) ok hs (hC H) 0 (sp_grown H lw ρ) (by omega) hg with ⟨a1, a2⟩ | ⟨a1, a2⟩
  · left
    refine ⟨key.mpr a1, ?_, ?_⟩
    · rw [a2, ins_1, hasB_or (by omega), hasB_bit (by omega) (by omega), decide_eq_true rfl, Bool.or_true]
    · rw [a2, ins_z]
  · exact Or.inr ⟨fun h => a1 (key.mp h), a2⟩
end INS

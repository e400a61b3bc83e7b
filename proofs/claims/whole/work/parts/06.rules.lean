/-! THE WORLD: the cells of that shape, at addresses from the law's first new cell on; their ints σ, their longs τ. -/
abbrev hp_I : Type := Nat → Nat → Int32
abbrev hp_L : Type := Nat → Nat → Int64
/-- the law's first state; how many cells; the numbers of the classes and their slots; the classes of int[], long[], boolean[], int[][] -/
abbrev wd_G : Type := State × Nat × va_G × ClassId × ClassId × ClassId × ClassId
abbrev wd_M : Type := Program × Launch × Env × Room × State × MethodId × Array Value × List Frame × Method × Code
abbrev mx_P (M : wd_M) : Program := M.1
abbrev mx_L (M : wd_M) : Launch := M.2.1
abbrev mx_E (M : wd_M) : Env := M.2.2.1
abbrev mx_R (M : wd_M) : Room := M.2.2.2.1
abbrev mx_S (M : wd_M) : State := M.2.2.2.2.1
abbrev mx_I (M : wd_M) : MethodId := M.2.2.2.2.2.1
abbrev mx_A (M : wd_M) : Array Value := M.2.2.2.2.2.2.1
abbrev mx_B (M : wd_M) : List Frame := M.2.2.2.2.2.2.2.1
abbrev mx_M (M : wd_M) : Method := M.2.2.2.2.2.2.2.2.1
abbrev mx_C (M : wd_M) : Code := M.2.2.2.2.2.2.2.2.2
def wd_b (G : wd_G) : Nat := G.1.heap.size
abbrev wd_D (G : wd_G) : va_G := G.2.2.1
def sh_V (b : Nat) (σ : hp_I) (i : Nat) : List Bool → Nat → List Value
  | [], _ => []
  | t :: r, k => (if t = true then .ref (b + sh_rf i k) else .int (σ i k)) :: sh_V b σ i r (k + 1)
theorem sh_V_get (b : Nat) (σ : hp_I) (i : Nat) : ∀ (L : List Bool) (k j : Nat), (sh_V b σ i L k)[j]? = (L[j]?).map (fun t => if t = true then Value.ref (b + sh_rf i (k + j)) else .int (σ i (k + j)))
  | [], k, j => by simp [sh_V]
  | t :: r, k, 0 => by simp [sh_V]
  | t :: r, k, j + 1 => by
    rw [sh_V, List.getElem?_cons_succ, List.getElem?_cons_succ, sh_V_get b σ i r (k + 1) j]
    have : k + 1 + j = k + (j + 1) := by omega
    rw [this]
theorem sh_V_len (b : Nat) (σ : hp_I) (i : Nat) : ∀ (L : List Bool) (k : Nat), (sh_V b σ i L k).length = L.length
  | [], k => rfl
  | t :: r, k => by rw [sh_V, List.length_cons, List.length_cons, sh_V_len b σ i r (k + 1)]
theorem sh_V_congr {b : Nat} {σ σ' : hp_I} {i : Nat} (h : σ' i = σ i) (L : List Bool) (k : Nat) : sh_V b σ' i L k = sh_V b σ i L k := by
  apply List.ext_getElem?
  intro j
  rw [sh_V_get, sh_V_get, h]
def wd_E (G : wd_G) (σ : hp_I) (τ : hp_L) (i : Nat) : va_E :=
  if sh_kd i = 13 then .inl (G.2.2.2.1, sh_ln i, .inl (σ i))
  else if sh_kd i = 14 then .inl (G.2.2.2.2.1, sh_ln i, .inr (.inl (τ i)))
  else if sh_kd i = 15 then .inl (G.2.2.2.2.2.1, sh_ln i, .inl (σ i))
  else if sh_kd i = 16 then .inl (G.2.2.2.2.2.2, sh_ln i, .inr (.inr (.inr (.inr fun k => some (wd_b G + sh_rf i k)))))
  else .inr (sh_kd i, sh_V (wd_b G) σ i (sh_fl (sh_kd i)) 0)
theorem wd_E_I {G : wd_G} {σ : hp_I} {τ : hp_L} {i : Nat} (h : sh_kd i = 13) : wd_E G σ τ i = .inl (G.2.2.2.1, sh_ln i, .inl (σ i)) := by simp [wd_E, h]
theorem wd_E_J {G : wd_G} {σ : hp_I} {τ : hp_L} {i : Nat} (h : sh_kd i = 14) : wd_E G σ τ i = .inl (G.2.2.2.2.1, sh_ln i, .inr (.inl (τ i))) := by simp [wd_E, h]
theorem wd_E_Z {G : wd_G} {σ : hp_I} {τ : hp_L} {i : Nat} (h : sh_kd i = 15) : wd_E G σ τ i = .inl (G.2.2.2.2.2.1, sh_ln i, .inl (σ i)) := by simp [wd_E, h]
theorem wd_E_A {G : wd_G} {σ : hp_I} {τ : hp_L} {i : Nat} (h : sh_kd i = 16) : wd_E G σ τ i = .inl (G.2.2.2.2.2.2, sh_ln i, .inr (.inr (.inr (.inr fun k => some (wd_b G + sh_rf i k))))) := by simp [wd_E, h]
theorem wd_E_O {G : wd_G} {σ : hp_I} {τ : hp_L} {i c : Nat} (h : sh_kd i = c) (hc : c < 13) : wd_E G σ τ i = .inr (c, sh_V (wd_b G) σ i (sh_fl c) 0) := by
  subst h
  have h1 : ¬ sh_kd i = 13 := by omega
  have h2 : ¬ sh_kd i = 14 := by omega
  have h3 : ¬ sh_kd i = 15 := by omega
  have h4 : ¬ sh_kd i = 16 := by omega
  simp [wd_E, h1, h2, h3, h4]
theorem wd_E_congr {G : wd_G} {σ σ' : hp_I} {τ τ' : hp_L} {i : Nat} (h : σ' i = σ i) (h2 : τ' i = τ i) : wd_E G σ' τ' i = wd_E G σ τ i := by
  unfold wd_E
  rw [h, h2, sh_V_congr h]
def wd_W (G : wd_G) (σ : hp_I) (τ : hp_L) : va_W := (List.range G.2.1).map fun i => (wd_b G + i, wd_E G σ τ i)
def wd_T (G : wd_G) : List (ClassId × FieldType) := [(G.2.2.2.1, .int), (G.2.2.2.2.1, .long), (G.2.2.2.2.2.1, .boolean), (G.2.2.2.2.2.2, .array .int)]
def wd_A (G : wd_G) : Nat → Prop := fun q => wd_b G ≤ q
theorem wd_get {G : wd_G} (σ : hp_I) (τ : hp_L) {i : Nat} (h : i < G.2.1) : (wd_W G σ τ)[i]? = some (wd_b G + i, wd_E G σ τ i) := by
  unfold wd_W
  rw [List.getElem?_map, List.getElem?_range h]
  rfl
theorem wd_inv {G : wd_G} {σ : hp_I} {τ : hp_L} {i : Nat} {q : Nat × va_E} (h : (wd_W G σ τ)[i]? = some q) : i < G.2.1 ∧ q = (wd_b G + i, wd_E G σ τ i) := by
  have hl := (List.getElem?_eq_some_iff.mp h).1
  rw [wd_W, List.length_map, List.length_range] at hl
  rw [wd_get σ τ hl] at h
  exact ⟨hl, (Option.some.inj h).symm⟩
theorem wd_set {G : wd_G} {σ σ' : hp_I} {τ τ' : hp_L} {i : Nat} {e : va_E} (h : i < G.2.1) (he : wd_E G σ' τ' i = e) (ho : ∀ j, j ≠ i → wd_E G σ' τ' j = wd_E G σ τ j) : (wd_W G σ τ).set i (wd_b G + i, e) = wd_W G σ' τ' := by
  apply List.ext_getElem?
  intro j
  by_cases hj : j < G.2.1
  · rw [wd_get σ' τ' hj]
    by_cases e1 : j = i
    · subst e1
      rw [List.getElem?_set_self (by rw [wd_W, List.length_map, List.length_range]; exact hj), he]
    · rw [List.getElem?_set_ne (Ne.symm e1), wd_get σ τ hj, ho j e1]
  · rw [List.getElem?_eq_none (by rw [List.length_set, wd_W, List.length_map, List.length_range]; omega), List.getElem?_eq_none (by rw [wd_W, List.length_map, List.length_range]; omega)]
theorem wd_apart (G : wd_G) (σ : hp_I) (τ : hp_L) : va_D (wd_A G) (wd_W G σ τ) := by
  refine ⟨fun i j p q hi hj hpq => ?_, fun k q hk => ?_⟩
  · obtain ⟨-, rfl⟩ := wd_inv hi
    obtain ⟨-, rfl⟩ := wd_inv hj
    have : wd_b G + i = wd_b G + j := hpq
    omega
  · obtain ⟨-, rfl⟩ := wd_inv hk
    exact Nat.le_add_right _ _
theorem sh_lt {i c : Nat} (h : sh_kd i = c) (hc : c < 99) : i < 602 := by
  by_cases hi : i < 602
  · exact hi
  · exfalso
    have h1 : sh_kL.length = 602 := by decide +kernel
    have h2 : sh_kd i = 99 := by
      unfold sh_kd
      rw [List.getD_eq_getElem?_getD, List.getElem?_eq_none (by omega)]
      rfl
    omega
theorem sh_601 : sh_kd 601 = 14 := by decide +kernel
theorem sh_ltN {i c : Nat} (h : sh_kd i = c) (hc : c < 99) (h14 : c ≠ 14) : i < 601 := by
  have h1 := sh_lt h hc
  by_cases e : i = 601
  · subst e
    exact absurd (h.symm.trans sh_601) h14
  · omega
def hp_s (σ : hp_I) (i k : Nat) (v : Int32) : hp_I := fun a => if a = i then upd (σ i) k v else σ a
def hp_f (σ : hp_I) (i : Nat) (f : Nat → Int32) : hp_I := fun a => if a = i then f else σ a
def hp_t (τ : hp_L) (i k : Nat) (v : Int64) : hp_L := fun a => if a = i then vp_updL (τ i) k v else τ a
theorem hp_s_i {σ : hp_I} {i k : Nat} {v : Int32} : hp_s σ i k v i = upd (σ i) k v := if_pos rfl
theorem hp_s_n {σ : hp_I} {i k a : Nat} {v : Int32} (h : a ≠ i) : hp_s σ i k v a = σ a := if_neg h
theorem hp_f_i {σ : hp_I} {i : Nat} {f : Nat → Int32} : hp_f σ i f i = f := if_pos rfl
theorem hp_f_n {σ : hp_I} {i a : Nat} {f : Nat → Int32} (h : a ≠ i) : hp_f σ i f a = σ a := if_neg h
theorem hp_t_i {τ : hp_L} {i k : Nat} {v : Int64} : hp_t τ i k v i = vp_updL (τ i) k v := if_pos rfl
theorem hp_t_n {τ : hp_L} {i k a : Nat} {v : Int64} (h : a ≠ i) : hp_t τ i k v a = τ a := if_neg h
theorem sh_V_put {b : Nat} {σ : hp_I} {i k : Nat} {v : Int32} {L : List Bool} (h : L[k]? = some false) : (sh_V b σ i L 0).set k (.int v) = sh_V b (hp_s σ i k v) i L 0 := by
  apply List.ext_getElem?
  intro j
  have hk := (List.getElem?_eq_some_iff.mp h).1
  by_cases e : j = k
  · subst e
    rw [List.getElem?_set_self (by rw [sh_V_len]; exact hk), sh_V_get, h, hp_s_i]
    simp [upd]
  · rw [List.getElem?_set_ne (Ne.symm e), sh_V_get, sh_V_get, hp_s_i]
    simp [upd, e]
/-- the words that a callee may be handed -/
def gw_tbl : List Cond := lw_tbl.filter goodWord
theorem gw_in {w : Cond} (h : w ∈ lw_tbl) (hg : goodWord w = true) : w ∈ gw_tbl := List.mem_filter.mpr ⟨h, hg⟩
theorem gw_good : GoodIn gw_tbl gw_tbl := fun w h => ⟨h, good_of_word (List.mem_filter.mp h).2⟩
theorem gt_1 {w : Cond} (h : w ∈ tables_1_1) : w ∈ lw_tbl := List.mem_append_right _ (List.mem_append_left _ h)
theorem gt_2 {w : Cond} (h : w ∈ tables_1_2) : w ∈ lw_tbl := List.mem_append_right _ (List.mem_append_right _ (List.mem_append_left _ h))
theorem gt_3 {w : Cond} (h : w ∈ tables_1_3) : w ∈ lw_tbl := List.mem_append_right _ (List.mem_append_right _ (List.mem_append_right _ (List.mem_append_left _ h)))
theorem gt_4 {w : Cond} (h : w ∈ tables_1_4) : w ∈ lw_tbl := List.mem_append_right _ (List.mem_append_right _ (List.mem_append_right _ (List.mem_append_right _ (List.mem_append_left _ h))))
theorem gt_5 {w : Cond} (h : w ∈ tables_1_5) : w ∈ lw_tbl := List.mem_append_right _ (List.mem_append_right _ (List.mem_append_right _ (List.mem_append_right _ (List.mem_append_right _ (List.mem_append_left _ h)))))
theorem gt_6 {w : Cond} (h : w ∈ tables_1_6) : w ∈ lw_tbl := List.mem_append_right _ (List.mem_append_right _ (List.mem_append_right _ (List.mem_append_right _ (List.mem_append_right _ (List.mem_append_right _ (List.mem_append_left _ h))))))
theorem gt_7 {w : Cond} (h : w ∈ tables_1_7) : w ∈ lw_tbl := List.mem_append_right _ (List.mem_append_right _ (List.mem_append_right _ (List.mem_append_right _ (List.mem_append_right _ (List.mem_append_right _ (List.mem_append_right _ (List.mem_append_left _ h)))))))
theorem gt_8 {w : Cond} (h : w ∈ tables_1_8) : w ∈ lw_tbl := List.mem_append_right _ (List.mem_append_right _ (List.mem_append_right _ (List.mem_append_right _ (List.mem_append_right _ (List.mem_append_right _ (List.mem_append_right _ (List.mem_append_right _ (List.mem_append_left _ h))))))))
theorem gt_9 {w : Cond} (h : w ∈ tables_1_9) : w ∈ lw_tbl := List.mem_append_right _ (List.mem_append_right _ (List.mem_append_right _ (List.mem_append_right _ (List.mem_append_right _ (List.mem_append_right _ (List.mem_append_right _ (List.mem_append_right _ (List.mem_append_right _ h))))))))
theorem gt_p {q : MethodName × Nat} (h : q ∈ lw_privs) : Cond.selects q.1.cls q.1 q.1 ∈ lw_tbl := List.mem_append_left _ (List.mem_map.mpr ⟨q, h, rfl⟩)
/-- what is below the law's first new cell is as it was at the law's start, the tables are alike -/
def wd_S (G : wd_G) (U : State) : Prop := G.1.WarmedH U.vm ∧ wd_b G ≤ U.heap.size ∧ ∀ q : Nat, q < wd_b G → U.heap[q]? = G.1.heap[q]?
/-- how many cells there are at least; what the Statement says of the law's start -/
def gd_ok (G : wd_G) : Prop := 601 ≤ G.2.1 ∧ ∃ a0 : Array Value, (∀ w ∈ lw_tbl, w.before a0 G.1 = true) ∧ (Jvm.Cond.and given_1 narrow_1).before a0 G.1 = true
/-- what holds all through a method's body -/
def cx_C (G : wd_G) (M : wd_M) (own : String) (cc : ByteArray) (nL n : Nat) (ret : Option FieldType) : Prop :=
  (mx_P M).tables.exec = Jvm.exec ∧ (mx_C M).code = cc ∧ (mx_C M).maxLocals = nL ∧ (mx_S M).vm.findClass own = some (mx_I M).cls ∧ (∀ w ∈ gw_tbl, w.before (mx_A M) (mx_S M) = true) ∧ va_K (wd_D G) vwCl (wd_T G) (mx_S M) ∧ wd_S G (mx_S M) ∧ gd_ok G ∧ n ≤ (mx_R M).frames ∧ 40 * n ≤ (mx_R M).locals ∧ (mx_M M).sig.returnType = ret ∧ (mx_M M).locks = false
section CX
variable {G : wd_G} {M : wd_M} {own : String} {cc : ByteArray} {nL n : Nat} {ret : Option FieldType}
theorem cx_x (C : cx_C G M own cc nL n ret) : (mx_P M).tables.exec = Jvm.exec := C.1
theorem cx_b (C : cx_C G M own cc nL n ret) : (mx_C M).code = cc := C.2.1
theorem cx_m (C : cx_C G M own cc nL n ret) : (mx_C M).maxLocals = nL := C.2.2.1
theorem cx_o (C : cx_C G M own cc nL n ret) : (mx_S M).vm.findClass own = some (mx_I M).cls := C.2.2.2.1
theorem cx_w (C : cx_C G M own cc nL n ret) : ∀ w ∈ gw_tbl, w.before (mx_A M) (mx_S M) = true := C.2.2.2.2.1
theorem cx_k (C : cx_C G M own cc nL n ret) : va_K (wd_D G) vwCl (wd_T G) (mx_S M) := C.2.2.2.2.2.1
theorem cx_s (C : cx_C G M own cc nL n ret) : wd_S G (mx_S M) := C.2.2.2.2.2.2.1
theorem cx_g (C : cx_C G M own cc nL n ret) : gd_ok G := C.2.2.2.2.2.2.2.1
theorem cx_N (C : cx_C G M own cc nL n ret) : 601 ≤ G.2.1 := (cx_g C).1
theorem cx_f (C : cx_C G M own cc nL n ret) : n ≤ (mx_R M).frames := C.2.2.2.2.2.2.2.2.1
theorem cx_l (C : cx_C G M own cc nL n ret) : 40 * n ≤ (mx_R M).locals := C.2.2.2.2.2.2.2.2.2.1
theorem cx_r (C : cx_C G M own cc nL n ret) : (mx_M M).sig.returnType = ret := C.2.2.2.2.2.2.2.2.2.2.1
theorem cx_u (C : cx_C G M own cc nL n ret) : (mx_M M).locks = false := C.2.2.2.2.2.2.2.2.2.2.2
end CX
/-- THE JUDGEMENT: from here on the machine does what the expression ex says: if ex is 'some r', it comes to a state with Q r -/
def dn_D {ρ : Type} (G : wd_G) (M : wd_M) (nL cells slots : Nat) (Q : ρ → State → Prop) (pc : Nat) (lv : List (Nat × Value)) (st : List Value) (σ : hp_I) (τ : hp_L) (ex : Option ρ) : Prop :=
  ∀ r, ex = some r → ∀ (H : Heap) (locs : List Loc) (ls : Array Slot), va_P (wd_D G) vwCl (wd_W G σ τ) H → va_S (wd_A G) (mx_S M).heap H locs → lv_has ls nL lv →
    W (mx_P M) (mx_L M) (mx_E M) (mx_R M) (mx_S M) (mx_I M) (mx_A M) (mx_B M) (mx_M M) (mx_C M) H locs cells slots (Q r) (F0 (mx_I M) pc ls st)
/-! what the expressions are made of -/
def px_in (i : Int32) (n : Nat) : Bool := decide (0 ≤ i) && decide (i.toNatClampNeg < n)
theorem px_in_vp {i : Int32} {n : Nat} (h : px_in i n = true) : vp_in i n := by
  simp only [px_in, Bool.and_eq_true, decide_eq_true_eq] at h
  intro q
  rcases q with q | q
  · exact absurd h.1 (Int32.not_le.mpr q)
  · omega
def px_ald (σ : hp_I) (r : Nat) (i : Int32) : Option Int32 := if px_in i (sh_ln r) = true then some (σ r i.toNatClampNeg) else none
def px_ast (σ : hp_I) (r : Nat) (i : Int32) (v : Int32) : Option hp_I := if px_in i (sh_ln r) = true then some (hp_s σ r i.toNatClampNeg v) else none
def px_lld (τ : hp_L) (r : Nat) (i : Int32) : Option Int64 := if px_in i (sh_ln r) = true then some (τ r i.toNatClampNeg) else none
def px_lst (τ : hp_L) (r : Nat) (i : Int32) (v : Int64) : Option hp_L := if px_in i (sh_ln r) = true then some (hp_t τ r i.toNatClampNeg v) else none
def px_rld (r : Nat) (i : Int32) : Option Nat := if px_in i (sh_ln r) = true then some (sh_rf r i.toNatClampNeg) else none
def px_cpy (σ : hp_I) (a : Nat) (p : Int32) (b : Nat) (q n : Int32) : Option hp_I :=
  if (0 ≤ p ∧ 0 ≤ q ∧ 0 ≤ n) ∧ p.toNatClampNeg + n.toNatClampNeg ≤ sh_ln a ∧ q.toNatClampNeg + n.toNatClampNeg ≤ sh_ln b then some (hp_f σ b (va_cpy (σ a) (σ b) p.toNatClampNeg q.toNatClampNeg n.toNatClampNeg)) else none
def px_div (x y : Int32) : Option Int32 := if y = 0 then none else some (x / y)
def px_rem (x y : Int32) : Option Int32 := if y = 0 then none else some (x - x / y * y)
def px_ldv (x y : Int64) : Option Int64 := if y = 0 then none else some (x / y)
def px_lrm (x y : Int64) : Option Int64 := if y = 0 then none else some (x - x / y * y)
def px_z {ρ : Type} (x : Int32) (r : ρ) : Option ρ := if x = 0 ∨ x = 1 then some r else none
def px_let {α β : Type} (x : α) (f : α → β) : β := f x
def px_jn {α β : Type} (j : α) (f : α → β) : β := f j
def px_max (x y : Int32) : Int32 := if x < y then y else x
def px_min (x y : Int32) : Int32 := if y < x then y else x
section DN
variable {G : wd_G} {M : wd_M} {own : String} {cc : ByteArray} {nL n cells slots : Nat} {ret : Option FieldType} {ρ : Type} {Q : ρ → State → Prop} {pc q : Nat} {lv : List (Nat × Value)} {st : List Value} {σ : hp_I} {τ : hp_L} {ex : Option ρ}
theorem dn_iadd {x y : Int32} (C : cx_C G M own cc nL n ret) (hd : decode cc pc = .ok (.iadd, 1))  (hq : pc + 1 = q) (k : dn_D G M nL cells slots Q q lv (.int (x + y) :: st) σ τ (ex)) : dn_D G M nL cells slots Q pc lv (.int y :: .int x :: st) σ τ (ex) := by
  subst hq
  exact fun r hr H locs ls hP hS hl => lv_iadd (cx_x C) (cx_b C) hd  (k r hr H locs ls hP hS hl)
theorem dn_isub {x y : Int32} (C : cx_C G M own cc nL n ret) (hd : decode cc pc = .ok (.isub, 1))  (hq : pc + 1 = q) (k : dn_D G M nL cells slots Q q lv (.int (x - y) :: st) σ τ (ex)) : dn_D G M nL cells slots Q pc lv (.int y :: .int x :: st) σ τ (ex) := by
  subst hq
  exact fun r hr H locs ls hP hS hl => lv_isub (cx_x C) (cx_b C) hd  (k r hr H locs ls hP hS hl)
theorem dn_imul {x y : Int32} (C : cx_C G M own cc nL n ret) (hd : decode cc pc = .ok (.imul, 1))  (hq : pc + 1 = q) (k : dn_D G M nL cells slots Q q lv (.int (x * y) :: st) σ τ (ex)) : dn_D G M nL cells slots Q pc lv (.int y :: .int x :: st) σ τ (ex) := by
  subst hq
  exact fun r hr H locs ls hP hS hl => lv_imul (cx_x C) (cx_b C) hd  (k r hr H locs ls hP hS hl)
theorem dn_iand {x y : Int32} (C : cx_C G M own cc nL n ret) (hd : decode cc pc = .ok (.iand, 1))  (hq : pc + 1 = q) (k : dn_D G M nL cells slots Q q lv (.int (x &&& y) :: st) σ τ (ex)) : dn_D G M nL cells slots Q pc lv (.int y :: .int x :: st) σ τ (ex) := by
  subst hq
  exact fun r hr H locs ls hP hS hl => lv_iand (cx_x C) (cx_b C) hd  (k r hr H locs ls hP hS hl)
theorem dn_ior {x y : Int32} (C : cx_C G M own cc nL n ret) (hd : decode cc pc = .ok (.ior, 1))  (hq : pc + 1 = q) (k : dn_D G M nL cells slots Q q lv (.int (x ||| y) :: st) σ τ (ex)) : dn_D G M nL cells slots Q pc lv (.int y :: .int x :: st) σ τ (ex) := by
  subst hq
  exact fun r hr H locs ls hP hS hl => lv_ior (cx_x C) (cx_b C) hd  (k r hr H locs ls hP hS hl)
theorem dn_ixor {x y : Int32} (C : cx_C G M own cc nL n ret) (hd : decode cc pc = .ok (.ixor, 1))  (hq : pc + 1 = q) (k : dn_D G M nL cells slots Q q lv (.int (x ^^^ y) :: st) σ τ (ex)) : dn_D G M nL cells slots Q pc lv (.int y :: .int x :: st) σ τ (ex) := by
  subst hq
  exact fun r hr H locs ls hP hS hl => lv_ixor (cx_x C) (cx_b C) hd  (k r hr H locs ls hP hS hl)
theorem dn_ishl {x y : Int32} (C : cx_C G M own cc nL n ret) (hd : decode cc pc = .ok (.ishl, 1))  (hq : pc + 1 = q) (k : dn_D G M nL cells slots Q q lv (.int (x <<< (y &&& 31)) :: st) σ τ (ex)) : dn_D G M nL cells slots Q pc lv (.int y :: .int x :: st) σ τ (ex) := by
  subst hq
  exact fun r hr H locs ls hP hS hl => lv_ishl (cx_x C) (cx_b C) hd  (k r hr H locs ls hP hS hl)
theorem dn_ishr {x y : Int32} (C : cx_C G M own cc nL n ret) (hd : decode cc pc = .ok (.ishr, 1))  (hq : pc + 1 = q) (k : dn_D G M nL cells slots Q q lv (.int (x >>> (y &&& 31)) :: st) σ τ (ex)) : dn_D G M nL cells slots Q pc lv (.int y :: .int x :: st) σ τ (ex) := by
  subst hq
  exact fun r hr H locs ls hP hS hl => lv_ishr (cx_x C) (cx_b C) hd  (k r hr H locs ls hP hS hl)
theorem dn_iushr {x y v : Int32} (C : cx_C G M own cc nL n ret) (hd : decode cc pc = .ok (.iushr, 1)) (hv : (x.toUInt32 >>> (y.toUInt32 &&& 31)).toInt32 = v) (hq : pc + 1 = q) (k : dn_D G M nL cells slots Q q lv (.int v :: st) σ τ (ex)) : dn_D G M nL cells slots Q pc lv (.int y :: .int x :: st) σ τ (ex) := by
  subst hq
  exact fun r hr H locs ls hP hS hl => lv_iushr (cx_x C) (cx_b C) hd hv (k r hr H locs ls hP hS hl)
theorem dn_ineg {x : Int32} (C : cx_C G M own cc nL n ret) (hd : decode cc pc = .ok (.ineg, 1))  (hq : pc + 1 = q) (k : dn_D G M nL cells slots Q q lv (.int (-x) :: st) σ τ (ex)) : dn_D G M nL cells slots Q pc lv (.int x :: st) σ τ (ex) := by
  subst hq
  exact fun r hr H locs ls hP hS hl => lv_ineg (cx_x C) (cx_b C) hd  (k r hr H locs ls hP hS hl)
theorem dn_ladd {x y : Int64} (C : cx_C G M own cc nL n ret) (hd : decode cc pc = .ok (.ladd, 1))  (hq : pc + 1 = q) (k : dn_D G M nL cells slots Q q lv (.long (x + y) :: st) σ τ (ex)) : dn_D G M nL cells slots Q pc lv (.long y :: .long x :: st) σ τ (ex) := by
  subst hq
  exact fun r hr H locs ls hP hS hl => lv_ladd (cx_x C) (cx_b C) hd  (k r hr H locs ls hP hS hl)
theorem dn_lsub {x y : Int64} (C : cx_C G M own cc nL n ret) (hd : decode cc pc = .ok (.lsub, 1))  (hq : pc + 1 = q) (k : dn_D G M nL cells slots Q q lv (.long (x - y) :: st) σ τ (ex)) : dn_D G M nL cells slots Q pc lv (.long y :: .long x :: st) σ τ (ex) := by
  subst hq
  exact fun r hr H locs ls hP hS hl => lv_lsub (cx_x C) (cx_b C) hd  (k r hr H locs ls hP hS hl)
theorem dn_lmul {x y : Int64} (C : cx_C G M own cc nL n ret) (hd : decode cc pc = .ok (.lmul, 1))  (hq : pc + 1 = q) (k : dn_D G M nL cells slots Q q lv (.long (x * y) :: st) σ τ (ex)) : dn_D G M nL cells slots Q pc lv (.long y :: .long x :: st) σ τ (ex) := by
  subst hq
  exact fun r hr H locs ls hP hS hl => lv_lmul (cx_x C) (cx_b C) hd  (k r hr H locs ls hP hS hl)
theorem dn_lshl {x : Int64} {y : Int32} (C : cx_C G M own cc nL n ret) (hd : decode cc pc = .ok (.lshl, 1))  (hq : pc + 1 = q) (k : dn_D G M nL cells slots Q q lv (.long (x <<< (y.toInt64 &&& 63)) :: st) σ τ (ex)) : dn_D G M nL cells slots Q pc lv (.int y :: .long x :: st) σ τ (ex) := by
  subst hq
  exact fun r hr H locs ls hP hS hl => lv_lshl (cx_x C) (cx_b C) hd rfl (k r hr H locs ls hP hS hl)
theorem dn_i2l {x : Int32} (C : cx_C G M own cc nL n ret) (hd : decode cc pc = .ok (.i2l, 1))  (hq : pc + 1 = q) (k : dn_D G M nL cells slots Q q lv (.long x.toInt64 :: st) σ τ (ex)) : dn_D G M nL cells slots Q pc lv (.int x :: st) σ τ (ex) := by
  subst hq
  exact fun r hr H locs ls hP hS hl => lv_i2l (cx_x C) (cx_b C) hd rfl (k r hr H locs ls hP hS hl)
theorem dn_lcmp {x y : Int64} (C : cx_C G M own cc nL n ret) (hd : decode cc pc = .ok (.lcmp, 1))  (hq : pc + 1 = q) (k : dn_D G M nL cells slots Q q lv (.int (lg_cmp x y) :: st) σ τ (ex)) : dn_D G M nL cells slots Q pc lv (.long y :: .long x :: st) σ τ (ex) := by
  subst hq
  exact fun r hr H locs ls hP hS hl => W.lcmp (cx_x C) (cx_b C) hd  (k r hr H locs ls hP hS hl)
theorem dn_dup {va : Value} (C : cx_C G M own cc nL n ret) (hd : decode cc pc = .ok (.dup, 1)) (hva : va.category = 1) (hq : pc + 1 = q) (k : dn_D G M nL cells slots Q q lv (va :: va :: st) σ τ (ex)) : dn_D G M nL cells slots Q pc lv (va :: st) σ τ (ex) := by
  subst hq
  exact fun r hr H locs ls hP hS hl => lv_dup (cx_x C) (cx_b C) hd hva (k r hr H locs ls hP hS hl)
theorem dn_pop {va : Value} (C : cx_C G M own cc nL n ret) (hd : decode cc pc = .ok (.pop, 1)) (hva : va.category = 1) (hq : pc + 1 = q) (k : dn_D G M nL cells slots Q q lv (st) σ τ (ex)) : dn_D G M nL cells slots Q pc lv (va :: st) σ τ (ex) := by
  subst hq
  exact fun r hr H locs ls hP hS hl => lv_pop (cx_x C) (cx_b C) hd hva (k r hr H locs ls hP hS hl)
theorem dn_dup2 {va vb : Value} (C : cx_C G M own cc nL n ret) (hd : decode cc pc = .ok (.dup2, 1)) (hva : va.category = 1) (hvb : vb.category = 1) (hq : pc + 1 = q) (k : dn_D G M nL cells slots Q q lv (va :: vb :: va :: vb :: st) σ τ (ex)) : dn_D G M nL cells slots Q pc lv (va :: vb :: st) σ τ (ex) := by
  subst hq
  exact fun r hr H locs ls hP hS hl => lv_dup2_11 (cx_x C) (cx_b C) hd hva hvb (k r hr H locs ls hP hS hl)
theorem dn_iconst {m : Int} {v : Int32} (C : cx_C G M own cc nL n ret) (hd : decode cc pc = .ok (.iconst m, 1)) (hv : Int32.ofInt m = v) (hq : pc + 1 = q) (k : dn_D G M nL cells slots Q q lv (.int v :: st) σ τ (ex)) : dn_D G M nL cells slots Q pc lv (st) σ τ (ex) := by
  subst hq
  exact fun r hr H locs ls hP hS hl => lv_iconst (cx_x C) (cx_b C) hd hv (k r hr H locs ls hP hS hl)
theorem dn_bipush {m : Int} {v : Int32} (C : cx_C G M own cc nL n ret) (hd : decode cc pc = .ok (.bipush m, 2)) (hv : (Int8.ofInt m).toInt32 = v) (hq : pc + 2 = q) (k : dn_D G M nL cells slots Q q lv (.int v :: st) σ τ (ex)) : dn_D G M nL cells slots Q pc lv (st) σ τ (ex) := by
  subst hq
  exact fun r hr H locs ls hP hS hl => lv_bipush (cx_x C) (cx_b C) hd hv (k r hr H locs ls hP hS hl)
theorem dn_sipush {m : Int} {v : Int32} (C : cx_C G M own cc nL n ret) (hd : decode cc pc = .ok (.sipush m, 3)) (hv : (Int16.ofInt m).toInt32 = v) (hq : pc + 3 = q) (k : dn_D G M nL cells slots Q q lv (.int v :: st) σ τ (ex)) : dn_D G M nL cells slots Q pc lv (st) σ τ (ex) := by
  subst hq
  exact fun r hr H locs ls hP hS hl => lv_sipush (cx_x C) (cx_b C) hd hv (k r hr H locs ls hP hS hl)
theorem dn_lconst {m : Fin 2} {v : Int64} (C : cx_C G M own cc nL n ret) (hd : decode cc pc = .ok (.lconst m, 1)) (hv : Int64.ofNat (m : Nat) = v) (hq : pc + 1 = q) (k : dn_D G M nL cells slots Q q lv (.long v :: st) σ τ (ex)) : dn_D G M nL cells slots Q pc lv (st) σ τ (ex) := by
  subst hq
  exact fun r hr H locs ls hP hS hl => lv_lconst (cx_x C) (cx_b C) hd hv (k r hr H locs ls hP hS hl)
theorem dn_iload_n {f : Fin 4} {i : Nat} {x : Int32} (C : cx_C G M own cc nL n ret) (hd : decode cc pc = .ok (.iload_n f, 1)) (hi : (f : Nat) = i) (j : Nat) (hj : lv[j]? = some (i, .int x)) (hq : pc + 1 = q) (k : dn_D G M nL cells slots Q q lv (.int x :: st) σ τ (ex)) : dn_D G M nL cells slots Q pc lv (st) σ τ (ex) := by
  subst hq
  exact fun r hr H locs ls hP hS hl => lv_iload_n (cx_x C) (cx_b C) hd hi (lv_at hl j hj) (k r hr H locs ls hP hS hl)
theorem dn_iload {i : Nat} {x : Int32} (C : cx_C G M own cc nL n ret) (hd : decode cc pc = .ok (.iload i, 2))  (j : Nat) (hj : lv[j]? = some (i, .int x)) (hq : pc + 2 = q) (k : dn_D G M nL cells slots Q q lv (.int x :: st) σ τ (ex)) : dn_D G M nL cells slots Q pc lv (st) σ τ (ex) := by
  subst hq
  exact fun r hr H locs ls hP hS hl => lv_iload (cx_x C) (cx_b C) hd  (lv_at hl j hj) (k r hr H locs ls hP hS hl)
theorem dn_lload_n {f : Fin 4} {i : Nat} {x : Int64} (C : cx_C G M own cc nL n ret) (hd : decode cc pc = .ok (.lload_n f, 1)) (hi : (f : Nat) = i) (j : Nat) (hj : lv[j]? = some (i, .long x)) (hq : pc + 1 = q) (k : dn_D G M nL cells slots Q q lv (.long x :: st) σ τ (ex)) : dn_D G M nL cells slots Q pc lv (st) σ τ (ex) := by
  subst hq
  exact fun r hr H locs ls hP hS hl => lv_lload_n (cx_x C) (cx_b C) hd hi (lv_at hl j hj) (k r hr H locs ls hP hS hl)
theorem dn_lload {i : Nat} {x : Int64} (C : cx_C G M own cc nL n ret) (hd : decode cc pc = .ok (.lload i, 2))  (j : Nat) (hj : lv[j]? = some (i, .long x)) (hq : pc + 2 = q) (k : dn_D G M nL cells slots Q q lv (.long x :: st) σ τ (ex)) : dn_D G M nL cells slots Q pc lv (st) σ τ (ex) := by
  subst hq
  exact fun r hr H locs ls hP hS hl => lv_lload (cx_x C) (cx_b C) hd  (lv_at hl j hj) (k r hr H locs ls hP hS hl)
theorem dn_aload_n {f : Fin 4} {i : Nat} {x : Nat} (C : cx_C G M own cc nL n ret) (hd : decode cc pc = .ok (.aload_n f, 1)) (hi : (f : Nat) = i) (j : Nat) (hj : lv[j]? = some (i, .ref x)) (hq : pc + 1 = q) (k : dn_D G M nL cells slots Q q lv (.ref x :: st) σ τ (ex)) : dn_D G M nL cells slots Q pc lv (st) σ τ (ex) := by
  subst hq
  exact fun r hr H locs ls hP hS hl => lv_aload_n (cx_x C) (cx_b C) hd hi (lv_at hl j hj) (k r hr H locs ls hP hS hl)
theorem dn_aload {i : Nat} {x : Nat} (C : cx_C G M own cc nL n ret) (hd : decode cc pc = .ok (.aload i, 2))  (j : Nat) (hj : lv[j]? = some (i, .ref x)) (hq : pc + 2 = q) (k : dn_D G M nL cells slots Q q lv (.ref x :: st) σ τ (ex)) : dn_D G M nL cells slots Q pc lv (st) σ τ (ex) := by
  subst hq
  exact fun r hr H locs ls hP hS hl => lv_aload (cx_x C) (cx_b C) hd  (lv_at hl j hj) (k r hr H locs ls hP hS hl)
theorem dn_istore_n {i : Nat} {g : Fin 4} {x : Int32} {f : Int32 → Option ρ} {lv0 : List (Nat × Value)} (C : cx_C G M own cc nL n ret) (hd : decode cc pc = .ok (.istore_n g, 1)) (hi : (g : Nat) = i) (hn : i < nL) (hl0 : lv.filter (fun q => !(q.1 == i) && !(q.1 + 1 == i && q.2.category == 2)) = lv0) (hq : pc + 1 = q) (k : ∀ z : Int32, dn_D G M nL cells slots Q q ((i, .int z) :: lv0) (st) σ τ (f z)) : dn_D G M nL cells slots Q pc lv (.int x :: st) σ τ (px_let x f) := by
  subst hq
  exact fun r hr H locs ls hP hS hl => lv_istore_n (cx_x C) (cx_b C) hd hi hl hn rfl (fun ls2 hl2 => k x r hr H locs ls2 hP hS (by rw [hl0] at hl2; exact hl2))
theorem dn_istore {i : Nat}  {x : Int32} {f : Int32 → Option ρ} {lv0 : List (Nat × Value)} (C : cx_C G M own cc nL n ret) (hd : decode cc pc = .ok (.istore i, 2))  (hn : i < nL) (hl0 : lv.filter (fun q => !(q.1 == i) && !(q.1 + 1 == i && q.2.category == 2)) = lv0) (hq : pc + 2 = q) (k : ∀ z : Int32, dn_D G M nL cells slots Q q ((i, .int z) :: lv0) (st) σ τ (f z)) : dn_D G M nL cells slots Q pc lv (.int x :: st) σ τ (px_let x f) := by
  subst hq
  exact fun r hr H locs ls hP hS hl => lv_istore (cx_x C) (cx_b C) hd  hl hn rfl (fun ls2 hl2 => k x r hr H locs ls2 hP hS (by rw [hl0] at hl2; exact hl2))
theorem dn_lstore_n {i : Nat} {g : Fin 4} {x : Int64} {f : Int64 → Option ρ} {lv0 : List (Nat × Value)} (C : cx_C G M own cc nL n ret) (hd : decode cc pc = .ok (.lstore_n g, 1)) (hi : (g : Nat) = i) (hn : i + 1 < nL) (hl0 : lv.filter (fun q => !(q.1 == i) && (!(q.1 == i + 1) && !(q.1 + 1 == i && q.2.category == 2))) = lv0) (hq : pc + 1 = q) (k : ∀ z : Int64, dn_D G M nL cells slots Q q ((i, .long z) :: lv0) (st) σ τ (f z)) : dn_D G M nL cells slots Q pc lv (.long x :: st) σ τ (px_let x f) := by
  subst hq
  exact fun r hr H locs ls hP hS hl => lv_lstore_n (cx_x C) (cx_b C) hd hi hl hn rfl (fun ls2 hl2 => k x r hr H locs ls2 hP hS (by rw [hl0] at hl2; exact hl2))
theorem dn_lstore {i : Nat}  {x : Int64} {f : Int64 → Option ρ} {lv0 : List (Nat × Value)} (C : cx_C G M own cc nL n ret) (hd : decode cc pc = .ok (.lstore i, 2))  (hn : i + 1 < nL) (hl0 : lv.filter (fun q => !(q.1 == i) && (!(q.1 == i + 1) && !(q.1 + 1 == i && q.2.category == 2))) = lv0) (hq : pc + 2 = q) (k : ∀ z : Int64, dn_D G M nL cells slots Q q ((i, .long z) :: lv0) (st) σ τ (f z)) : dn_D G M nL cells slots Q pc lv (.long x :: st) σ τ (px_let x f) := by
  subst hq
  exact fun r hr H locs ls hP hS hl => lv_lstore (cx_x C) (cx_b C) hd  hl hn rfl (fun ls2 hl2 => k x r hr H locs ls2 hP hS (by rw [hl0] at hl2; exact hl2))
theorem dn_astore_n {i : Nat} {g : Fin 4} {x : Nat} {lv0 : List (Nat × Value)} (C : cx_C G M own cc nL n ret) (hd : decode cc pc = .ok (.astore_n g, 1)) (hi : (g : Nat) = i) (hn : i < nL) (hl0 : lv.filter (fun q => !(q.1 == i) && !(q.1 + 1 == i && q.2.category == 2)) = lv0) (hq : pc + 1 = q) (k : dn_D G M nL cells slots Q q ((i, .ref x) :: lv0) (st) σ τ (ex)) : dn_D G M nL cells slots Q pc lv (.ref x :: st) σ τ (ex) := by
  subst hq
  exact fun r hr H locs ls hP hS hl => lv_astore_n (cx_x C) (cx_b C) hd hi hl hn rfl (fun ls2 hl2 => k r hr H locs ls2 hP hS (by rw [hl0] at hl2; exact hl2))
theorem dn_astore {i : Nat}  {x : Nat} {lv0 : List (Nat × Value)} (C : cx_C G M own cc nL n ret) (hd : decode cc pc = .ok (.astore i, 2))  (hn : i < nL) (hl0 : lv.filter (fun q => !(q.1 == i) && !(q.1 + 1 == i && q.2.category == 2)) = lv0) (hq : pc + 2 = q) (k : dn_D G M nL cells slots Q q ((i, .ref x) :: lv0) (st) σ τ (ex)) : dn_D G M nL cells slots Q pc lv (.ref x :: st) σ τ (ex) := by
  subst hq
  exact fun r hr H locs ls hP hS hl => lv_astore (cx_x C) (cx_b C) hd  hl hn rfl (fun ls2 hl2 => k r hr H locs ls2 hP hS (by rw [hl0] at hl2; exact hl2))
theorem dn_iinc {i : Nat} {m : Int} {x v : Int32} {f : Int32 → Option ρ} {lv0 : List (Nat × Value)} (C : cx_C G M own cc nL n ret) (hd : decode cc pc = .ok (.iinc i m, 3)) (j : Nat) (hj : lv[j]? = some (i, .int x)) (hv : x + Int32.ofInt m = v) (hn : i < nL) (hl0 : lv.filter (fun q => !(q.1 == i) && !(q.1 + 1 == i && q.2.category == 2)) = lv0) (hq : pc + 3 = q) (k : ∀ z : Int32, dn_D G M nL cells slots Q q ((i, .int z) :: lv0) (st) σ τ (f z)) : dn_D G M nL cells slots Q pc lv (st) σ τ (px_let v f) := by
  subst hq
  exact fun r hr H locs ls hP hS hl => lv_iinc (cx_x C) (cx_b C) hd hl hj hv hn rfl (fun ls2 hl2 => k v r hr H locs ls2 hP hS (by rw [hl0] at hl2; exact hl2))
theorem dn_if_eq {x : Int32} {e1 e2 : Option ρ} {off : Int} {t : Nat} (C : cx_C G M own cc nL n ret) (hd : decode cc pc = .ok (.ifCond .eq off, 3)) (ht : (pc : Int) + off = (t : Int)) (hq : pc + 3 = q) (k1 : dn_D G M nL cells slots Q t lv (st) σ τ (e1)) (k2 : dn_D G M nL cells slots Q q lv (st) σ τ (e2)) : dn_D G M nL cells slots Q pc lv (.int x :: st) σ τ (if x = 0 then e1 else e2) := by
  subst hq
  exact fun r hr H locs ls hP hS hl => lv_if_eq (cx_x C) (cx_b C) hd ht (fun h => k1 r (by rw [if_pos (h)] at hr; exact hr) H locs ls hP hS hl) (fun h => k2 r (by rw [if_neg (h)] at hr; exact hr) H locs ls hP hS hl)
theorem dn_if_ne {x : Int32} {e1 e2 : Option ρ} {off : Int} {t : Nat} (C : cx_C G M own cc nL n ret) (hd : decode cc pc = .ok (.ifCond .ne off, 3)) (ht : (pc : Int) + off = (t : Int)) (hq : pc + 3 = q) (k1 : dn_D G M nL cells slots Q q lv (st) σ τ (e1)) (k2 : dn_D G M nL cells slots Q t lv (st) σ τ (e2)) : dn_D G M nL cells slots Q pc lv (.int x :: st) σ τ (if x = 0 then e1 else e2) := by
  subst hq
  exact fun r hr H locs ls hP hS hl => lv_if_ne (cx_x C) (cx_b C) hd ht (fun h => k2 r (by rw [if_neg (h)] at hr; exact hr) H locs ls hP hS hl) (fun h => k1 r (by rw [if_pos (h)] at hr; exact hr) H locs ls hP hS hl)
theorem dn_if_lt {x : Int32} {e1 e2 : Option ρ} {off : Int} {t : Nat} (C : cx_C G M own cc nL n ret) (hd : decode cc pc = .ok (.ifCond .lt off, 3)) (ht : (pc : Int) + off = (t : Int)) (hq : pc + 3 = q) (k1 : dn_D G M nL cells slots Q q lv (st) σ τ (e1)) (k2 : dn_D G M nL cells slots Q t lv (st) σ τ (e2)) : dn_D G M nL cells slots Q pc lv (.int x :: st) σ τ (if 0 ≤ x then e1 else e2) := by
  subst hq
  exact fun r hr H locs ls hP hS hl => lv_if_lt (cx_x C) (cx_b C) hd ht (fun h => k2 r (by rw [if_neg (fun z => absurd h (Int32.not_lt.mpr z))] at hr; exact hr) H locs ls hP hS hl) (fun h => k1 r (by rw [if_pos (Int32.not_lt.mp h)] at hr; exact hr) H locs ls hP hS hl)
theorem dn_if_ge {x : Int32} {e1 e2 : Option ρ} {off : Int} {t : Nat} (C : cx_C G M own cc nL n ret) (hd : decode cc pc = .ok (.ifCond .ge off, 3)) (ht : (pc : Int) + off = (t : Int)) (hq : pc + 3 = q) (k1 : dn_D G M nL cells slots Q q lv (st) σ τ (e1)) (k2 : dn_D G M nL cells slots Q t lv (st) σ τ (e2)) : dn_D G M nL cells slots Q pc lv (.int x :: st) σ τ (if x < 0 then e1 else e2) := by
  subst hq
  exact fun r hr H locs ls hP hS hl => lv_if_ge (cx_x C) (cx_b C) hd ht (fun h => k2 r (by rw [if_neg (fun z => absurd h (Int32.not_le.mpr z))] at hr; exact hr) H locs ls hP hS hl) (fun h => k1 r (by rw [if_pos (Int32.not_le.mp h)] at hr; exact hr) H locs ls hP hS hl)
theorem dn_if_gt {x : Int32} {e1 e2 : Option ρ} {off : Int} {t : Nat} (C : cx_C G M own cc nL n ret) (hd : decode cc pc = .ok (.ifCond .gt off, 3)) (ht : (pc : Int) + off = (t : Int)) (hq : pc + 3 = q) (k1 : dn_D G M nL cells slots Q q lv (st) σ τ (e1)) (k2 : dn_D G M nL cells slots Q t lv (st) σ τ (e2)) : dn_D G M nL cells slots Q pc lv (.int x :: st) σ τ (if x ≤ 0 then e1 else e2) := by
  subst hq
  exact fun r hr H locs ls hP hS hl => lv_if_gt (cx_x C) (cx_b C) hd ht (fun h => k2 r (by rw [if_neg (fun z => absurd h (Int32.not_lt.mpr z))] at hr; exact hr) H locs ls hP hS hl) (fun h => k1 r (by rw [if_pos (Int32.not_lt.mp h)] at hr; exact hr) H locs ls hP hS hl)
theorem dn_if_le {x : Int32} {e1 e2 : Option ρ} {off : Int} {t : Nat} (C : cx_C G M own cc nL n ret) (hd : decode cc pc = .ok (.ifCond .le off, 3)) (ht : (pc : Int) + off = (t : Int)) (hq : pc + 3 = q) (k1 : dn_D G M nL cells slots Q q lv (st) σ τ (e1)) (k2 : dn_D G M nL cells slots Q t lv (st) σ τ (e2)) : dn_D G M nL cells slots Q pc lv (.int x :: st) σ τ (if 0 < x then e1 else e2) := by
  subst hq
  exact fun r hr H locs ls hP hS hl => lv_if_le (cx_x C) (cx_b C) hd ht (fun h => k2 r (by rw [if_neg (fun z => absurd h (Int32.not_le.mpr z))] at hr; exact hr) H locs ls hP hS hl) (fun h => k1 r (by rw [if_pos (Int32.not_le.mp h)] at hr; exact hr) H locs ls hP hS hl)
theorem dn_icmp_eq {x y : Int32} {e1 e2 : Option ρ} {off : Int} {t : Nat} (C : cx_C G M own cc nL n ret) (hd : decode cc pc = .ok (.if_icmp .eq off, 3)) (ht : (pc : Int) + off = (t : Int)) (hq : pc + 3 = q) (k1 : dn_D G M nL cells slots Q t lv (st) σ τ (e1)) (k2 : dn_D G M nL cells slots Q q lv (st) σ τ (e2)) : dn_D G M nL cells slots Q pc lv (.int y :: .int x :: st) σ τ (if x = y then e1 else e2) := by
  subst hq
  exact fun r hr H locs ls hP hS hl => lv_icmp_eq (cx_x C) (cx_b C) hd ht (fun h => k1 r (by rw [if_pos (h)] at hr; exact hr) H locs ls hP hS hl) (fun h => k2 r (by rw [if_neg (h)] at hr; exact hr) H locs ls hP hS hl)
theorem dn_icmp_ne {x y : Int32} {e1 e2 : Option ρ} {off : Int} {t : Nat} (C : cx_C G M own cc nL n ret) (hd : decode cc pc = .ok (.if_icmp .ne off, 3)) (ht : (pc : Int) + off = (t : Int)) (hq : pc + 3 = q) (k1 : dn_D G M nL cells slots Q q lv (st) σ τ (e1)) (k2 : dn_D G M nL cells slots Q t lv (st) σ τ (e2)) : dn_D G M nL cells slots Q pc lv (.int y :: .int x :: st) σ τ (if x = y then e1 else e2) := by
  subst hq
  exact fun r hr H locs ls hP hS hl => lv_icmp_ne (cx_x C) (cx_b C) hd ht (fun h => k2 r (by rw [if_neg (h)] at hr; exact hr) H locs ls hP hS hl) (fun h => k1 r (by rw [if_pos (h)] at hr; exact hr) H locs ls hP hS hl)
theorem dn_icmp_lt {x y : Int32} {e1 e2 : Option ρ} {off : Int} {t : Nat} (C : cx_C G M own cc nL n ret) (hd : decode cc pc = .ok (.if_icmp .lt off, 3)) (ht : (pc : Int) + off = (t : Int)) (hq : pc + 3 = q) (k1 : dn_D G M nL cells slots Q q lv (st) σ τ (e1)) (k2 : dn_D G M nL cells slots Q t lv (st) σ τ (e2)) : dn_D G M nL cells slots Q pc lv (.int y :: .int x :: st) σ τ (if y ≤ x then e1 else e2) := by
  subst hq
  exact fun r hr H locs ls hP hS hl => lv_icmp_lt (cx_x C) (cx_b C) hd ht (fun h => k2 r (by rw [if_neg (fun z => absurd h (Int32.not_lt.mpr z))] at hr; exact hr) H locs ls hP hS hl) (fun h => k1 r (by rw [if_pos (Int32.not_lt.mp h)] at hr; exact hr) H locs ls hP hS hl)
theorem dn_icmp_ge {x y : Int32} {e1 e2 : Option ρ} {off : Int} {t : Nat} (C : cx_C G M own cc nL n ret) (hd : decode cc pc = .ok (.if_icmp .ge off, 3)) (ht : (pc : Int) + off = (t : Int)) (hq : pc + 3 = q) (k1 : dn_D G M nL cells slots Q q lv (st) σ τ (e1)) (k2 : dn_D G M nL cells slots Q t lv (st) σ τ (e2)) : dn_D G M nL cells slots Q pc lv (.int y :: .int x :: st) σ τ (if x < y then e1 else e2) := by
  subst hq
  exact fun r hr H locs ls hP hS hl => lv_icmp_ge (cx_x C) (cx_b C) hd ht (fun h => k2 r (by rw [if_neg (fun z => absurd h (Int32.not_le.mpr z))] at hr; exact hr) H locs ls hP hS hl) (fun h => k1 r (by rw [if_pos (Int32.not_le.mp h)] at hr; exact hr) H locs ls hP hS hl)
theorem dn_icmp_gt {x y : Int32} {e1 e2 : Option ρ} {off : Int} {t : Nat} (C : cx_C G M own cc nL n ret) (hd : decode cc pc = .ok (.if_icmp .gt off, 3)) (ht : (pc : Int) + off = (t : Int)) (hq : pc + 3 = q) (k1 : dn_D G M nL cells slots Q q lv (st) σ τ (e1)) (k2 : dn_D G M nL cells slots Q t lv (st) σ τ (e2)) : dn_D G M nL cells slots Q pc lv (.int y :: .int x :: st) σ τ (if x ≤ y then e1 else e2) := by
  subst hq
  exact fun r hr H locs ls hP hS hl => lv_icmp_gt (cx_x C) (cx_b C) hd ht (fun h => k2 r (by rw [if_neg (fun z => absurd h (Int32.not_lt.mpr z))] at hr; exact hr) H locs ls hP hS hl) (fun h => k1 r (by rw [if_pos (Int32.not_lt.mp h)] at hr; exact hr) H locs ls hP hS hl)
theorem dn_icmp_le {x y : Int32} {e1 e2 : Option ρ} {off : Int} {t : Nat} (C : cx_C G M own cc nL n ret) (hd : decode cc pc = .ok (.if_icmp .le off, 3)) (ht : (pc : Int) + off = (t : Int)) (hq : pc + 3 = q) (k1 : dn_D G M nL cells slots Q q lv (st) σ τ (e1)) (k2 : dn_D G M nL cells slots Q t lv (st) σ τ (e2)) : dn_D G M nL cells slots Q pc lv (.int y :: .int x :: st) σ τ (if y < x then e1 else e2) := by
  subst hq
  exact fun r hr H locs ls hP hS hl => lv_icmp_le (cx_x C) (cx_b C) hd ht (fun h => k2 r (by rw [if_neg (fun z => absurd h (Int32.not_le.mpr z))] at hr; exact hr) H locs ls hP hS hl) (fun h => k1 r (by rw [if_pos (Int32.not_le.mp h)] at hr; exact hr) H locs ls hP hS hl)
theorem dn_goto {off : Int} {t : Nat} (C : cx_C G M own cc nL n ret) (hd : decode cc pc = .ok (.goto off, 3)) (ht : (pc : Int) + off = (t : Int)) (k : dn_D G M nL cells slots Q t lv (st) σ τ (ex)) : dn_D G M nL cells slots Q pc lv (st) σ τ (ex) := fun r hr H locs ls hP hS hl => lv_goto (cx_x C) (cx_b C) hd ht (k r hr H locs ls hP hS hl)
theorem dn_none : dn_D G M nL cells slots Q pc lv (st) σ τ (none) := fun r hr => nomatch hr
theorem dn_pick {lv2 : List (Nat × Value)} (ks : List Nat) (h : lv_pick lv ks = lv2) (k : dn_D G M nL cells slots Q pc lv2 (st) σ τ (ex)) : dn_D G M nL cells slots Q pc lv (st) σ τ (ex) := fun r hr H locs ls hP hS hl => k r hr H locs ls hP hS (lv_sub hl ks h)
theorem dn_lets {α : Type} {x : α} {f : α → Option ρ} (k : dn_D G M nL cells slots Q pc lv (st) σ τ (f x)) : dn_D G M nL cells slots Q pc lv (st) σ τ (px_let x f) := k
theorem dn_jn {α : Type} {j : α} {f : α → Option ρ} (P : α → Prop) (hj : P j) (k : ∀ z : α, P z → dn_D G M nL cells slots Q pc lv (st) σ τ (f z)) : dn_D G M nL cells slots Q pc lv (st) σ τ (px_jn j f) := k j hj
theorem dn_ex {ex2 : Option ρ} (h : ex = ex2) (k : dn_D G M nL cells slots Q pc lv (st) σ τ (ex2)) : dn_D G M nL cells slots Q pc lv (st) σ τ (ex) := by rw [h]; exact k
theorem dn_idiv {x y : Int32} {f : Int32 → Option ρ} (C : cx_C G M own cc nL n ret) (hd : decode cc pc = .ok (.idiv, 1)) (hq : pc + 1 = q) (k : ∀ z : Int32, dn_D G M nL cells slots Q q lv (.int z :: st) σ τ (f z)) : dn_D G M nL cells slots Q pc lv (.int y :: .int x :: st) σ τ (Option.bind (px_div x y) f) := by
  subst hq
  intro r hr H locs ls hP hS hl
  by_cases hy : y = 0
  · rw [px_div, if_pos hy] at hr; cases hr
  · rw [px_div, if_neg hy] at hr
    exact lv_idiv (cx_x C) (cx_b C) hd hy (k (x / y) r hr H locs ls hP hS hl)
theorem dn_irem {x y : Int32} {f : Int32 → Option ρ} (C : cx_C G M own cc nL n ret) (hd : decode cc pc = .ok (.irem, 1)) (hq : pc + 1 = q) (k : ∀ z : Int32, dn_D G M nL cells slots Q q lv (.int z :: st) σ τ (f z)) : dn_D G M nL cells slots Q pc lv (.int y :: .int x :: st) σ τ (Option.bind (px_rem x y) f) := by
  subst hq
  intro r hr H locs ls hP hS hl
  by_cases hy : y = 0
  · rw [px_rem, if_pos hy] at hr; cases hr
  · rw [px_rem, if_neg hy] at hr
    exact lv_irem (cx_x C) (cx_b C) hd hy (k (x - x / y * y) r hr H locs ls hP hS hl)
theorem dn_ldiv {x y : Int64} {f : Int64 → Option ρ} (C : cx_C G M own cc nL n ret) (hd : decode cc pc = .ok (.ldiv, 1)) (hq : pc + 1 = q) (k : ∀ z : Int64, dn_D G M nL cells slots Q q lv (.long z :: st) σ τ (f z)) : dn_D G M nL cells slots Q pc lv (.long y :: .long x :: st) σ τ (Option.bind (px_ldv x y) f) := by
  subst hq
  intro r hr H locs ls hP hS hl
  by_cases hy : y = 0
  · rw [px_ldv, if_pos hy] at hr; cases hr
  · rw [px_ldv, if_neg hy] at hr
    exact lv_ldiv (cx_x C) (cx_b C) hd hy (k (x / y) r hr H locs ls hP hS hl)
theorem dn_lrem {x y : Int64} {f : Int64 → Option ρ} (C : cx_C G M own cc nL n ret) (hd : decode cc pc = .ok (.lrem, 1)) (hq : pc + 1 = q) (k : ∀ z : Int64, dn_D G M nL cells slots Q q lv (.long z :: st) σ τ (f z)) : dn_D G M nL cells slots Q pc lv (.long y :: .long x :: st) σ τ (Option.bind (px_lrm x y) f) := by
  subst hq
  intro r hr H locs ls hP hS hl
  by_cases hy : y = 0
  · rw [px_lrm, if_pos hy] at hr; cases hr
  · rw [px_lrm, if_neg hy] at hr
    exact lv_lrem (cx_x C) (cx_b C) hd hy (k (x - x / y * y) r hr H locs ls hP hS hl)
theorem dn_ldc {idx : Nat} {v : Int32} (C : cx_C G M own cc nL n ret) (hw : Cond.constant own idx v ∈ gw_tbl) (hd : decode cc pc = .ok (.ldc idx, 2)) (hq : pc + 2 = q) (k : dn_D G M nL cells slots Q q lv (.int v :: st) σ τ (ex)) : dn_D G M nL cells slots Q pc lv (st) σ τ (ex) := by
  subst hq
  exact fun r hr H locs ls hP hS hl => lv_ldc (cx_x C) (cx_b C) (cx_o C) (cx_w C _ hw) hd (k r hr H locs ls hP hS hl)
theorem dn_ldcw {idx : Nat} {v : Int32} (C : cx_C G M own cc nL n ret) (hw : Cond.constant own idx v ∈ gw_tbl) (hd : decode cc pc = .ok (.ldc_w idx, 3)) (hq : pc + 3 = q) (k : dn_D G M nL cells slots Q q lv (.int v :: st) σ τ (ex)) : dn_D G M nL cells slots Q pc lv (st) σ τ (ex) := by
  subst hq
  exact fun r hr H locs ls hP hS hl => lv_ldcw (cx_x C) (cx_b C) (cx_o C) (cx_w C _ hw) hd (k r hr H locs ls hP hS hl)
theorem dn_iald {a : Nat} {i : Int32} {f : Int32 → Option ρ} (C : cx_C G M own cc nL n ret) (ha : sh_kd a = 13) (hd : decode cc pc = .ok (.iaload, 1)) (hq : pc + 1 = q) (k : ∀ z : Int32, dn_D G M nL cells slots Q q lv (.int z :: st) σ τ (f z)) : dn_D G M nL cells slots Q pc lv (.int i :: .ref (wd_b G + a) :: st) σ τ (Option.bind (px_ald σ a i) f) := by
  subst hq
  intro r hr H locs ls hP hS hl
  by_cases hy : px_in i (sh_ln a) = true
  · rw [px_ald, if_pos hy] at hr
    exact va_iald (cx_x C) (cx_b C) (cx_k C) hP a 0 (by rw [wd_get σ τ (Nat.lt_of_lt_of_le (sh_ltN ha (by decide) (by decide)) (cx_N C)), wd_E_I ha]) rfl (px_in_vp hy) hd (k _ r hr H locs ls hP hS hl)
  · rw [px_ald, if_neg hy] at hr; cases hr
theorem dn_zald {a : Nat} {i : Int32} {f : Int32 → Option ρ} (C : cx_C G M own cc nL n ret) (ha : sh_kd a = 15) (hd : decode cc pc = .ok (.baload, 1)) (hq : pc + 1 = q) (k : ∀ z : Int32, dn_D G M nL cells slots Q q lv (.int z :: st) σ τ (f z)) : dn_D G M nL cells slots Q pc lv (.int i :: .ref (wd_b G + a) :: st) σ τ (Option.bind (px_ald σ a i) f) := by
  subst hq
  intro r hr H locs ls hP hS hl
  by_cases hy : px_in i (sh_ln a) = true
  · rw [px_ald, if_pos hy] at hr
    exact va_zald (cx_x C) (cx_b C) (cx_k C) hP a 2 (by rw [wd_get σ τ (Nat.lt_of_lt_of_le (sh_ltN ha (by decide) (by decide)) (cx_N C)), wd_E_Z ha]) rfl (px_in_vp hy) hd (k _ r hr H locs ls hP hS hl)
  · rw [px_ald, if_neg hy] at hr; cases hr
theorem dn_lald {a : Nat} {i : Int32} {f : Int64 → Option ρ} (C : cx_C G M own cc nL n ret) (ha : sh_kd a = 14) (hN : a < G.2.1) (hd : decode cc pc = .ok (.laload, 1)) (hq : pc + 1 = q) (k : ∀ z : Int64, dn_D G M nL cells slots Q q lv (.long z :: st) σ τ (f z)) : dn_D G M nL cells slots Q pc lv (.int i :: .ref (wd_b G + a) :: st) σ τ (Option.bind (px_lld τ a i) f) := by
  subst hq
  intro r hr H locs ls hP hS hl
  by_cases hy : px_in i (sh_ln a) = true
  · rw [px_lld, if_pos hy] at hr
    exact va_lald (cx_x C) (cx_b C) (cx_k C) hP a 1 (by rw [wd_get σ τ hN, wd_E_J ha]) rfl (px_in_vp hy) hd (k _ r hr H locs ls hP hS hl)
  · rw [px_lld, if_neg hy] at hr; cases hr
theorem dn_iast {a : Nat} {i x : Int32} {f : hp_I → Option ρ} (C : cx_C G M own cc nL n ret) (ha : sh_kd a = 13) (hd : decode cc pc = .ok (.iastore, 1)) (hq : pc + 1 = q) (k : ∀ σ2 : hp_I, dn_D G M nL cells slots Q q lv (st) σ2 τ (f σ2)) : dn_D G M nL cells slots Q pc lv (.int x :: .int i :: .ref (wd_b G + a) :: st) σ τ (Option.bind (px_ast σ a i x) f) := by
  subst hq
  intro r hr H locs ls hP hS hl
  by_cases hy : px_in i (sh_ln a) = true
  · rw [px_ast, if_pos hy] at hr
    have hlt := Nat.lt_of_lt_of_le (sh_ltN ha (by decide) (by decide)) (cx_N C)
    have hset : ∀ x : Int32, (wd_W G σ τ).set a (wd_b G + a, .inl (G.2.2.2.1, sh_ln a, .inl (upd (σ a) i.toNatClampNeg x))) = wd_W G (hp_s σ a i.toNatClampNeg x) τ := fun x => wd_set hlt (by rw [wd_E_I ha, hp_s_i]) (fun j hj => wd_E_congr (hp_s_n hj) rfl)
    refine va_iast (cx_x C) (cx_b C) (cx_k C) hP (wd_apart G σ τ) hS a 0 (by rw [wd_get σ τ hlt, wd_E_I ha]) rfl (px_in_vp hy) hd (fun H1 locs1 h1 h2 h3 => ?_)
    rw [hset] at h1
    exact k _ r hr H1 locs1 ls h1 h3 hl
  · rw [px_ast, if_neg hy] at hr; cases hr
theorem dn_zast {a : Nat} {i x : Int32} {f : hp_I → Option ρ} (C : cx_C G M own cc nL n ret) (ha : sh_kd a = 15) (hd : decode cc pc = .ok (.bastore, 1)) (hq : pc + 1 = q) (k : ∀ σ2 : hp_I, dn_D G M nL cells slots Q q lv (st) σ2 τ (f σ2)) : dn_D G M nL cells slots Q pc lv (.int x :: .int i :: .ref (wd_b G + a) :: st) σ τ (Option.bind (px_ast σ a i (vp_nar .boolean x)) f) := by
  subst hq
  intro r hr H locs ls hP hS hl
  by_cases hy : px_in i (sh_ln a) = true
  · rw [px_ast, if_pos hy] at hr
    have hlt := Nat.lt_of_lt_of_le (sh_ltN ha (by decide) (by decide)) (cx_N C)
    have hset : ∀ x : Int32, (wd_W G σ τ).set a (wd_b G + a, .inl (G.2.2.2.2.2.1, sh_ln a, .inl (upd (σ a) i.toNatClampNeg x))) = wd_W G (hp_s σ a i.toNatClampNeg x) τ := fun x => wd_set hlt (by rw [wd_E_Z ha, hp_s_i]) (fun j hj => wd_E_congr (hp_s_n hj) rfl)
    refine va_zast (cx_x C) (cx_b C) (cx_k C) hP (wd_apart G σ τ) hS a 2 (by rw [wd_get σ τ hlt, wd_E_Z ha]) rfl (px_in_vp hy) hd (fun H1 locs1 h1 h2 h3 => ?_)
    rw [hset] at h1
    exact k _ r hr H1 locs1 ls h1 h3 hl
  · rw [px_ast, if_neg hy] at hr; cases hr
theorem dn_last {a : Nat} {i : Int32} {x : Int64} {f : hp_L → Option ρ} (C : cx_C G M own cc nL n ret) (ha : sh_kd a = 14) (hN : a < G.2.1) (hd : decode cc pc = .ok (.lastore, 1)) (hq : pc + 1 = q) (k : ∀ τ2 : hp_L, dn_D G M nL cells slots Q q lv (st) σ τ2 (f τ2)) : dn_D G M nL cells slots Q pc lv (.long x :: .int i :: .ref (wd_b G + a) :: st) σ τ (Option.bind (px_lst τ a i x) f) := by
  subst hq
  intro r hr H locs ls hP hS hl
  by_cases hy : px_in i (sh_ln a) = true
  · rw [px_lst, if_pos hy] at hr
    have hset : ∀ x : Int64, (wd_W G σ τ).set a (wd_b G + a, .inl (G.2.2.2.2.1, sh_ln a, .inr (.inl (vp_updL (τ a) i.toNatClampNeg x)))) = wd_W G σ (hp_t τ a i.toNatClampNeg x) := fun x => wd_set hN (by rw [wd_E_J ha, hp_t_i]) (fun j hj => wd_E_congr rfl (hp_t_n hj))
    refine va_last (cx_x C) (cx_b C) (cx_k C) hP (wd_apart G σ τ) hS a 1 (by rw [wd_get σ τ hN, wd_E_J ha]) rfl (px_in_vp hy) hd (fun H1 locs1 h1 h2 h3 => ?_)
    rw [hset] at h1
    exact k _ r hr H1 locs1 ls h1 h3 hl
  · rw [px_lst, if_neg hy] at hr; cases hr
theorem dn_aald {a : Nat} {i : Int32} {f : Nat → Option ρ} (C : cx_C G M own cc nL n ret) (ha : sh_kd a = 16) (hd : decode cc pc = .ok (.aaload, 1)) (hq : pc + 1 = q) (k : ∀ z : Nat, px_rld a i = some z → dn_D G M nL cells slots Q q lv (.ref (wd_b G + z) :: st) σ τ (f z)) : dn_D G M nL cells slots Q pc lv (.int i :: .ref (wd_b G + a) :: st) σ τ (Option.bind (px_rld a i) f) := by
  subst hq
  intro r hr H locs ls hP hS hl
  by_cases hy : px_in i (sh_ln a) = true
  · rw [px_rld, if_pos hy] at hr
    have hin := px_in_vp hy
    have hlt : i.toNatClampNeg < sh_ln a := Nat.not_le.mp fun q => hin (Or.inr q)
    have hN := Nat.lt_of_lt_of_le (sh_ltN ha (by decide) (by decide)) (cx_N C)
    have hc : va_at (wd_D G) vwCl (wd_b G + a, wd_E G σ τ a) H := hP a _ (wd_get σ τ hN)
    rw [wd_E_A ha] at hc
    exact W.aald (v := va_rf (some (wd_b G + sh_rf a i.toNatClampNeg))) (ty := .array .int) (cx_x C) (cx_b C) hc (((cx_k C).2 3 _ rfl).1 (sh_ln a) (fun j => va_rf (some (wd_b G + sh_rf a j)))) rfl (fun q => by cases q) (by show ¬ (i < 0 ∨ (arrV _ _ _).slots.size ≤ _); rw [arrV_size]; exact hin) (by show (arrV _ _ _).slots[_]? = _; rw [arrV_read _ _ hlt]) rfl rfl hd (k _ (by rw [px_rld, if_pos hy]) r hr H locs ls hP hS hl)
  · rw [px_rld, if_neg hy] at hr; cases hr
theorem dn_alen {a : Nat} {v : Int32} (C : cx_C G M own cc nL n ret) (ha : sh_kd a = 13) (hv : Int32.ofNat (sh_ln a) = v) (hd : decode cc pc = .ok (.arraylength, 1)) (hq : pc + 1 = q) (k : dn_D G M nL cells slots Q q lv (.int v :: st) σ τ (ex)) : dn_D G M nL cells slots Q pc lv (.ref (wd_b G + a) :: st) σ τ (ex) := by
  subst hq
  intro r hr H locs ls hP hS hl
  exact va_alen (cx_x C) (cx_b C) (cx_k C) hP a 0 (by rw [wd_get σ τ (Nat.lt_of_lt_of_le (sh_ltN ha (by decide) (by decide)) (cx_N C)), wd_E_I ha]) rfl hv hd (k r hr H locs ls hP hS hl)
end DN
/-- a field: of the class number ci its slot k, under the link idx of the class own; t: a reference -/
def fd_ok (own : String) (idx ci k : Nat) (t : Bool) : Prop := ∃ c : vw_C, vwCl[ci]? = some c ∧ (∀ w ∈ u_ws c.1 c.2.1 c.2.2, w ∈ gw_tbl) ∧ k < c.2.2 ∧ Cond.fieldLink own idx c.1 (c.2.1 k).2.1 (c.2.1 k).2.2.1 ∈ gw_tbl ∧ (c.2.1 k).1 = c.1 ∧ (sh_fl ci)[k]? = some t ∧ ci < 13
def fd_pt (own : String) (idx ci k : Nat) : Prop := ∃ (c : vw_C) (ty : Nat → FieldType), vwCl[ci]? = some c ∧ (∀ w ∈ u_ws c.1 c.2.1 c.2.2, w ∈ gw_tbl) ∧ k < c.2.2 ∧ Cond.fieldLink own idx c.1 (c.2.1 k).2.1 (c.2.1 k).2.2.1 ∈ gw_tbl ∧ (c.2.1 k).1 = c.1 ∧ (sh_fl ci)[k]? = some false ∧ ci < 13 ∧ (∀ k, k < c.2.2 → parseFieldDescriptor (c.2.1 k).2.2.1 = some (ty k)) ∧ (∀ a, a < c.2.2 → ∀ b, b < c.2.2 → a ≠ b → (c.2.1 a).2.1 ≠ (c.2.1 b).2.1) ∧ (c.2.1 k).2.2.2 = false ∧ parseFieldDescriptor (c.2.1 k).2.2.1 = some .int
section DN2
variable {G : wd_G} {M : wd_M} {own : String} {cc : ByteArray} {nL n cells slots : Nat} {ret : Option FieldType} {ρ : Type} {Q : ρ → State → Prop} {pc q : Nat} {lv : List (Nat × Value)} {st : List Value} {σ : hp_I} {τ : hp_L} {ex : Option ρ}
theorem dn_getI {ci o idx m : Nat} (C : cx_C G M own cc nL n ret) (hf : fd_ok own idx ci m false) (ho : sh_kd o = ci) (hd : decode cc pc = .ok (.getfield idx, 3)) (hq : pc + 3 = q) (k : dn_D G M nL cells slots Q q lv (.int (σ o m) :: st) σ τ (ex)) : dn_D G M nL cells slots Q pc lv (.ref (wd_b G + o) :: st) σ τ (ex) := by
  subst hq
  obtain ⟨c, h1, h2, h3, h4, h5, h6, h7⟩ := hf
  intro r hr H locs ls hP hS hl
  have hN := Nat.lt_of_lt_of_le (sh_ltN ho (by omega) (by omega)) (cx_N C)
  exact va_get (cx_x C) (cx_b C) (cx_w C) h2 (cx_o C) (cx_k C) hP o (by rw [wd_get σ τ hN, wd_E_O ho h7]) h1 m h3 (cx_w C _ h4) (by rw [h5]; exact fun _ h9 => h9) (by rw [sh_V_get, h6, Nat.zero_add]; rfl) hd (k r hr H locs ls hP hS hl)
theorem dn_getR {ci o idx m : Nat} (C : cx_C G M own cc nL n ret) (hf : fd_ok own idx ci m true) (ho : sh_kd o = ci) (hd : decode cc pc = .ok (.getfield idx, 3)) (hq : pc + 3 = q) (k : dn_D G M nL cells slots Q q lv (.ref (wd_b G + sh_rf o m) :: st) σ τ (ex)) : dn_D G M nL cells slots Q pc lv (.ref (wd_b G + o) :: st) σ τ (ex) := by
  subst hq
  obtain ⟨c, h1, h2, h3, h4, h5, h6, h7⟩ := hf
  intro r hr H locs ls hP hS hl
  have hN := Nat.lt_of_lt_of_le (sh_ltN ho (by omega) (by omega)) (cx_N C)
  exact va_get (cx_x C) (cx_b C) (cx_w C) h2 (cx_o C) (cx_k C) hP o (by rw [wd_get σ τ hN, wd_E_O ho h7]) h1 m h3 (cx_w C _ h4) (by rw [h5]; exact fun _ h9 => h9) (by rw [sh_V_get, h6, Nat.zero_add]; rfl) hd (k r hr H locs ls hP hS hl)
theorem dn_putI {ci o idx m : Nat} {v : Int32} {f : hp_I → Option ρ} (C : cx_C G M own cc nL n ret) (hf : fd_pt own idx ci m) (ho : sh_kd o = ci) (hd : decode cc pc = .ok (.putfield idx, 3)) (hq : pc + 3 = q) (k : ∀ σ2 : hp_I, dn_D G M nL cells slots Q q lv (st) σ2 τ (f σ2)) : dn_D G M nL cells slots Q pc lv (.int v :: .ref (wd_b G + o) :: st) σ τ (px_let (hp_s σ o m v) f) := by
  subst hq
  obtain ⟨c, ty, h1, h2, h3, h4, h5, h6, h7, h8, h9, h10, h11⟩ := hf
  intro r hr H locs ls hP hS hl
  have hN := Nat.lt_of_lt_of_le (sh_ltN ho (by omega) (by omega)) (cx_N C)
  have hset : (wd_W G σ τ).set o (wd_b G + o, .inr (ci, (sh_V (wd_b G) σ o (sh_fl ci) 0).set m (.int v))) = wd_W G (hp_s σ o m v) τ := wd_set hN (by rw [wd_E_O ho h7, sh_V_put h6]) (fun j hj => wd_E_congr (hp_s_n hj) rfl)
  refine va_put (v := .int v) (cx_x C) (cx_b C) (cx_w C) h2 ty h8 h9 (cx_o C) (cx_k C) hP (wd_apart G σ τ) hS o (by rw [wd_get σ τ hN, wd_E_O ho h7]) h1 m h3 (cx_w C _ h4) (by rw [h5]; exact fun _ h9 => h9) h10 h11 rfl rfl (by rw [sh_V_len]; exact (List.getElem?_eq_some_iff.mp h6).1) hd (fun H1 locs1 g1 g2 g3 => ?_)
  rw [hset] at g1
  exact k _ r hr H1 locs1 ls g1 g3 hl
end DN2

/-! A NIGHT -/
def gstep (H : ab_H) (lw : ab_L) (s : Nat) (ρ : Nat → Int32) : Nat → Int32 := if hasB (ρ 1) s = true then upd ρ (13 + s) (px_min 999 (ρ (13 + s) + sp_more H lw ρ s)) else ρ
def sp_grown (H : ab_H) (lw : ab_L) (ρ : Nat → Int32) : Nat → Int32 := zF (gstep H lw) (hS H) 0 ρ
def tk (H : ab_H) (ρ : Nat → Int32) (c : Nat) : Option Nat := sp_gre H ρ (sp_see H ρ c)
def tmat (ρ : Nat → Int32) (t c : Nat) : Nat → Int32 := upd (upd (upd (upd (upd ρ 1 (ρ 1 &&& (bitI t ^^^ (-1)))) 2 (ρ 2 ||| bitI t)) (21 + t) (ρ 0)) (29 + t) (Int32.ofNat c)) (42 + c) (ρ (42 + c) + 1)
def tstep (H : ab_H) (c : Nat) (ρ : Nat → Int32) : Nat → Int32 := match tk H ρ c with
  | none => ρ
  | some t => tmat ρ t c
def sp_taken (H : ab_H) (ρ : Nat → Int32) : Nat → Int32 := zF (tstep H) (hC H) 0 ρ
def sp_night (H : ab_H) (lw : ab_L) (ρ : Nat → Int32) : Nat → Int32 := upd (sp_taken H (sp_grown H lw ρ)) 0 (sp_taken H (sp_grown H lw ρ) 0 + 1)
def tkb (H : ab_H) (c : Nat) (a : (Nat → Int32) × Int32) : (Nat → Int32) × Int32 := (tstep H c a.1, match tk H a.1 c with
  | none => a.2
  | some _ => a.2 ||| bitI c)
def sp_took (H : ab_H) (lw : ab_L) (ρ : Nat → Int32) : Int32 := (zF (tkb H) (hC H) 0 (sp_grown H lw ρ, 0)).2
theorem sp_gr_lt (lw : ab_L) (kn : Nat → Int32) : zB (sp_gr lw kn) 61 := by
  unfold sp_gr
  generalize (if lw = [] then kn 1 else (sv kn lw (0, fun _ => 0)).2 0) = v
  unfold px_max px_min
  have h60 : ((60 : Int32)).toInt = 60 := by decide
  have h0 : ((0 : Int32)).toInt = 0 := by decide
  by_cases h1 : v < 60
  · rw [if_pos h1]
    by_cases h2 : 0 < v
    · rw [if_pos h2]
      exact zB_of (by decide) (Int32.le_of_lt h2) (Int32.lt_trans h1 (by decide))
    · rw [if_neg h2]; exact ⟨0, by decide, rfl⟩
  · rw [if_neg h1, if_pos (by decide)]
    exact ⟨60, by decide, rfl⟩
theorem min_size {z g : Nat} (h1 : 1 ≤ z) (hz : z ≤ 999) (hg : g < 1000) : ∃ y : Nat, 1 ≤ y ∧ y ≤ 999 ∧ px_min 999 (Int32.ofNat z + Int32.ofNat g) = Int32.ofNat y := by
  unfold px_min
  rw [zi_add]
  by_cases h : z + g < 999
  · rw [if_pos (show Int32.ofNat (z + g) < (999 : Int32) from zl_lt (b := 999) h (by decide))]
    exact ⟨z + g, by omega, by omega, rfl⟩
  · rw [if_neg (show ¬ Int32.ofNat (z + g) < (999 : Int32) from zl_nlt (b := 999) (by omega) (by omega))]
    exact ⟨999, by decide, by decide, rfl⟩
theorem upd_i {f : Nat → Int32} {k : Nat} {v : Int32} : upd f k v k = v := by simp [upd]
theorem upd_n {f : Nat → Int32} {k j : Nat} {v : Int32} (h : j ≠ k) : upd f k v j = f j := by simp [upd, h]
theorem rok_size {H : ab_H} {ρ : Nat → Int32} (ok : HOK H) (ro : ROK H ρ) {s : Nat} (hs : s < hS H) {v : Int32} (hv : ∃ y : Nat, 1 ≤ y ∧ y ≤ 999 ∧ v = Int32.ofNat y) : ROK H (upd ρ (13 + s) v) := by
  obtain ⟨r1, r2, r3, r4, r5⟩ := ro
  have o3 := ok.2.2.1
  refine ⟨fun q hq => ⟨?_, ?_⟩, fun q hq => ?_, ?_, ?_, ?_⟩
  · rw [upd_n (by omega)]; exact (r1 q hq).1
  · by_cases e : q = s
    · subst e; rw [upd_i]; exact hv
    · rw [upd_n (by omega)]; exact (r1 q hq).2
  · rw [upd_n (by omega)]; exact r2 q hq
  · rw [upd_n (by omega)]; exact r3
  · rw [upd_n (by omega)]; exact r4
  · rw [upd_n (by omega), upd_n (by omega)]; exact r5
theorem rok_grow {H : ab_H} {lw : ab_L} {ρ : Nat → Int32} (ok : HOK H) (ro : ROK H ρ) {s : Nat} (hs : s < hS H) : ROK H (gstep H lw s ρ) := by
  unfold gstep
  split
  · obtain ⟨z, z1, z2, e⟩ := (ro.1 s hs).2
    obtain ⟨g, hg, e2⟩ := sp_gr_lt lw (kn7 (ρ (13 + s)) (hV H 5 s) (hV H 0 (ρ (5 + s)).toNatClampNeg) (bc (sp_cin H ρ (ρ (5 + s)))) (ρ 0) (bc (ρ 2)) (Int32.ofNat s))
    refine rok_size ok ro hs ?_
    rw [e]
    unfold sp_more
    rw [e2]
    exact min_size z1 z2 (by omega)
  · exact ro
theorem bit_lemma (L M b : Int32) (h : L &&& M = 0) : (L &&& (b ^^^ (-1))) &&& (M ||| b) = 0 := by
  apply Int32.toBitVec.inj
  have h1 : L.toBitVec &&& M.toBitVec = 0#32 := congrArg Int32.toBitVec h
  show (L.toBitVec &&& (b.toBitVec ^^^ (-1#32))) &&& (M.toBitVec ||| b.toBitVec) = 0#32
  apply BitVec.eq_of_getLsbD_eq
  intro i hi
  have h2 : (L.toBitVec &&& M.toBitVec).getLsbD i = false := by rw [h1]; simp
  have h3 : (-1#32).getLsbD i = true := by
    rw [show (-1#32) = BitVec.allOnes 32 by decide, BitVec.getLsbD_allOnes]
    simp [hi]
  rw [BitVec.getLsbD_and] at h2
  rw [BitVec.getLsbD_and, BitVec.getLsbD_and, BitVec.getLsbD_or, BitVec.getLsbD_xor, h3, show (0#32).getLsbD i = false by simp]
  generalize L.toBitVec.getLsbD i = x at h2 ⊢
  generalize M.toBitVec.getLsbD i = y at h2 ⊢
  generalize b.toBitVec.getLsbD i = z
  revert h2
  cases x <;> cases y <;> cases z <;> decide
theorem rok_mat {H : ab_H} {ρ : Nat → Int32} (ok : HOK H) (ro : ROK H ρ) {t c : Nat} (ht : t < hS H) (hc : c < hC H) : ROK H (tmat ρ t c) := by
  obtain ⟨r1, r2, r3, r4, r5⟩ := ro
  have o3 := ok.2.2.1
  have o4 := ok.2.2.2.1
  have p2 : (2 : Nat) ^ hS H ≤ 2147483648 := Nat.le_trans (Nat.pow_le_pow_right (by decide) (show hS H ≤ 31 by omega)) (by decide)
  have e1 : tmat ρ t c 1 = ρ 1 &&& (bitI t ^^^ (-1)) := by
    unfold tmat
    rw [upd_n (by omega), upd_n (by omega), upd_n (by omega), upd_n (by omega), upd_i]
  have e2 : tmat ρ t c 2 = ρ 2 ||| bitI t := by
    unfold tmat
    rw [upd_n (by omega), upd_n (by omega), upd_n (by omega), upd_i]
  have e3 : ∀ q, (5 ≤ q ∧ q < 21) ∨ (37 ≤ q ∧ q < 42) → tmat ρ t c q = ρ q := fun q hq => by
    unfold tmat
    rw [upd_n (by omega), upd_n (by omega), upd_n (by omega), upd_n (by omega), upd_n (by omega)]
  refine ⟨fun q hq => ⟨?_, ?_⟩, fun q hq => ?_, ?_, ?_, ?_⟩
  · rw [e3 _ (by omega)]; exact (r1 q hq).1
  · rw [e3 _ (by omega)]; exact (r1 q hq).2
  · rw [e3 _ (by omega)]; exact r2 q hq
  · rw [e1]; exact zB_and p2 r3
  · rw [e2]; exact zB_or (by omega) r4 (zB_bit ht o3)
  · rw [e1, e2]; exact bit_lemma _ _ _ r5
theorem tk_lt {H : ab_H} {ρ : Nat → Int32} {c t : Nat} (h : tk H ρ c = some t) : t < hS H := sp_gre_lt H ρ _ t h
theorem rok_take {H : ab_H} {ρ : Nat → Int32} (ok : HOK H) (ro : ROK H ρ) {c : Nat} (hc : c < hC H) : ROK H (tstep H c ρ) := by
  unfold tstep
  cases h : tk H ρ c with
  | none => exact ro
  | some t => exact rok_mat ok ro (tk_lt h) hc
theorem rok_0 {H : ab_H} {ρ : Nat → Int32} {v : Int32} (ok : HOK H) (ro : ROK H ρ) : ROK H (upd ρ 0 v) := by
  obtain ⟨r1, r2, r3, r4, r5⟩ := ro
  refine ⟨fun q hq => ⟨?_, ?_⟩, fun q hq => ?_, ?_, ?_, ?_⟩
  · rw [upd_n (by omega)]; exact (r1 q hq).1
  · rw [upd_n (by omega)]; exact (r1 q hq).2
  · rw [upd_n (by omega)]; exact r2 q hq
  · rw [upd_n (by omega)]; exact r3
  · rw [upd_n (by omega)]; exact r4
  · rw [upd_n (by omega), upd_n (by omega)]; exact r5
theorem zF_inv {α : Type} (f : Nat → α → α) (I : α → Prop) (N : Nat) (h : ∀ i a, i < N → I a → I (f i a)) : ∀ n i a, i + n ≤ N → I a → I (zF f n i a) := by
  intro n
  induction n with
  | zero => intro i a _ ha; exact ha
  | succ n ih => intro i a hi ha; exact ih (i + 1) (f i a) (by omega) (h i a (by omega) ha)
theorem rok_grown {H : ab_H} {lw : ab_L} {ρ : Nat → Int32} (ok : HOK H) (ro : ROK H ρ) : ROK H (sp_grown H lw ρ) := zF_inv _ (ROK H) (hS H) (fun _ _ hi ha => rok_grow ok ha hi) (hS H) 0 ρ (by omega) ro
theorem rok_taken {H : ab_H} {ρ : Nat → Int32} (ok : HOK H) (ro : ROK H ρ) : ROK H (sp_taken H ρ) := zF_inv _ (ROK H) (hC H) (fun _ _ hi ha => rok_take ok ha hi) (hC H) 0 ρ (by omega) ro
theorem rok_night {H : ab_H} {lw : ab_L} {ρ : Nat → Int32} (ok : HOK H) (ro : ROK H ρ) : ROK H (sp_night H lw ρ) := rok_0 ok (rok_taken ok (rok_grown ok ro))
/-- nothing lives: nothing is seen -/
theorem hasB_0 (k : Nat) : hasB 0 k = false := by
  unfold hasB
  have h : ∀ x : Int32, (0 : Int32) >>> x = 0 := fun x => by
    apply Int32.toBitVec.inj
    rw [Int32.toBitVec_shiftRight]
    simp
  rw [h]
  decide
theorem see_0 (H : ab_H) (ρ : Nat → Int32) (c : Nat) (h : ρ 1 = 0) : sp_see H ρ c = 0 := by
  unfold sp_see
  exact zF_id _ (hS H) 0 (fun i _ => by rw [h, hasB_0]; rfl) (hS H) 0 (by omega)
theorem gre_0 (H : ab_H) (ρ : Nat → Int32) : sp_gre H ρ 0 = none := by
  unfold sp_gre
  exact zF_id _ (hS H) none (fun i _ => by unfold sg_st; rw [hasB_0]; rfl) (hS H) 0 (by omega)
theorem tk_0 (H : ab_H) (ρ : Nat → Int32) (c : Nat) (h : ρ 1 = 0) : tk H ρ c = none := by
  unfold tk
  rw [see_0 H ρ c h, gre_0]
section N2
variable {σ : hp_I} {H : ab_H} {lw : ab_L} {ρ : Nat → Int32} {o r c m : Nat}
theorem LX.fr {σ σ' : hp_I} (h : LX σ lw) (e1 : σ' 21 = σ 21) (e2 : σ' 22 = σ 22) : LX σ' lw := by unfold LX; rw [e1, e2]; exact h
theorem LM.fr {σ σ' : hp_I} (h : LM σ lw) (hl : lw.length ≤ 150) (e1 : σ' 52 15 = σ 52 15) (e2 : ∀ a, a < 150 → σ' (156 + a) = σ (156 + a)) : LM σ' lw := by
  refine ⟨e1.trans h.1, fun k hk => ?_⟩
  rw [e2 k (by omega)]
  exact h.2 k hk
/-- writing into a row, at a scheme's or a cat's place -/
theorem rx_w {k q : Nat} {v : Int32} (so : SO o r c) (h : k + q < 47) : px_ast σ r (Int32.ofNat k + Int32.ofNat q) v = some (hp_s σ r (k + q) v) := by
  rw [zi_add]; exact zi_ast (by rw [so.2.2.2.2.1]; exact h) (by omega)
theorem rx_w0 {k : Nat} {v : Int32} (so : SO o r c) (h : k < 47) : px_ast σ r (Int32.ofNat k) v = some (hp_s σ r k v) := zi_ast (by rw [so.2.2.2.2.1]; exact h) (by omega)
theorem xs_enlarge (so : SO o r c) (rx : RX σ r H ρ) (ok : HOK H) (q : Nat) (hq : q < hS H) (v : Int32) : fn_State_enlarge o (Int32.ofNat q) v σ = some (hp_s σ r (13 + q) (px_min 999 (ρ (13 + q) + v))) := by
  have o3 := ok.2.2.1
  unfold fn_State_enlarge
  simp only [xs_size so rx ok q hq, e_bd, so.2.2.1]
  rw [show px_ast σ r ((13 : Int32) + Int32.ofNat q) _ = _ from rx_w (k := 13) so (by omega), e_bd]
theorem xs_moveToMat (so : SO o r c) (rx : RX σ r H ρ) (ok : HOK H) (t q : Nat) (ht : t < hS H) (hq : q < hC H) : ∃ σ', fn_State_moveToMat o (Int32.ofNat t) (Int32.ofNat q) σ = some σ' ∧ RX σ' r H (tmat ρ t q) ∧ Fc [r] σ σ' := by
  have o3 := ok.2.2.1
  have o4 := ok.2.2.2.1
  have rx1 := rx.put (k := 1) (v := ρ 1 &&& (bitI t ^^^ (-1)))
  have rx2 := rx1.put (k := 2) (v := ρ 2 ||| bitI t)
  have rx3 := rx2.put (k := 21 + t) (v := ρ 0)
  have rx4 := rx3.put (k := 29 + t) (v := Int32.ofNat q)
  have rx5 := rx4.put (k := 42 + q) (v := ρ (42 + q) + 1)
  refine ⟨_, ?_, rx5, ?_⟩
  · unfold fn_State_moveToMat
    simp only [so.2.2.1, rx_1 rx, e_bd]
    rw [show px_ast σ r 1 _ = _ from rx_w0 (k := 1) so (by decide), e_bd, show ((1 : Int32) <<< (Int32.ofNat t &&& 31)) = bitI t from rfl]
    rw [rx_2 rx1, e_bd, upd_n (by decide), show px_ast _ r 2 _ = _ from rx_w0 (k := 2) so (by decide), e_bd]
    rw [xs_night so rx2, e_bd, upd_n (by decide), upd_n (by decide), show px_ast _ r ((21 : Int32) + Int32.ofNat t) _ = _ from rx_w (k := 21) so (by omega), e_bd]
    rw [show px_ast _ r ((29 : Int32) + Int32.ofNat t) _ = _ from rx_w (k := 29) so (by omega), e_bd]
    rw [rx_42 rx4 ok q hq, e_bd, show px_ast _ r ((42 : Int32) + Int32.ofNat q) _ = _ from rx_w (k := 42) so (by omega), e_bd]
    rw [upd_n (by omega), upd_n (by omega), upd_n (by omega), upd_n (by omega)]
  · exact ((((Fc.put (List.mem_singleton.mpr rfl)).trans (Fc.put (List.mem_singleton.mpr rfl))).trans (Fc.put (List.mem_singleton.mpr rfl))).trans (Fc.put (List.mem_singleton.mpr rfl))).trans (Fc.put (List.mem_singleton.mpr rfl))
end N2

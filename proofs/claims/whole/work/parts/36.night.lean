/-! bits counted -/
def bc (x : Int32) : Int32 := zF (fun k n => n + ((x >>> (Int32.ofNat k &&& 31)) &&& 1)) 12 0 0
theorem ms_ones (x : Int32) : fn_M_ones x = some (bc x) := by
  unfold fn_M_ones
  simp only [e_let]
  refine zL_0 (L := fun fu a i => fn_M_ones_L4 x _ fu a i) (N := 12) _ (by omega) (fun fu a => ?_) (fun fu i a hi => ?_) 0
  · rw [fn_M_ones_L4, if_neg (show ¬ Int32.ofNat 12 < (12 : Int32) by decide)]
  · rw [fn_M_ones_L4, if_pos (show Int32.ofNat i < (12 : Int32) from zl_lt (b := 12) hi (by decide))]
    simp only [e_let, zi_succ]
theorem xs_bc0 : ∀ n, n < 256 → fn_J6_bitCount_0f7a4 (Int32.ofNat n) = some (bc (Int32.ofNat n)) := by decide +kernel
theorem xs_bc {x : Int32} (h : zB x 256) : fn_J6_bitCount_0f7a4 x = some (bc x) := by
  obtain ⟨k, hk, rfl⟩ := h
  exact xs_bc0 k hk
theorem bc_lt0 : ∀ n, n < 256 → zB (bc (Int32.ofNat n)) 9 := by
  have h : ∀ n, n < 256 → (bc (Int32.ofNat n)).toBitVec.toNat < 9 := by decide +kernel
  intro n hn
  exact (zB_iff (by decide)).mpr (h n hn)
theorem sp_cin_lt (H : ab_H) (ok : HOK H) (ρ : Nat → Int32) (v : Int32) : zB (sp_cin H ρ v) 256 := by
  have o4 := ok.2.2.2.1
  refine zB_mono (zF_bits _ (fun i a => ?_) (hC H) (by omega)) (Nat.pow_le_pow_right (by decide) (show hC H ≤ 8 by omega))
  try dsimp only
  split
  · exact Or.inr rfl
  · exact Or.inl rfl
def sp_more (H : ab_H) (lw : ab_L) (ρ : Nat → Int32) (s : Nat) : Int32 := sp_gr lw (kn7 (ρ (13 + s)) (hV H 5 s) (hV H 0 (ρ (5 + s)).toNatClampNeg) (bc (sp_cin H ρ (ρ (5 + s)))) (ρ 0) (bc (ρ 2)) (Int32.ofNat s))
theorem mat_256 {H : ab_H} {ρ : Nat → Int32} (ok : HOK H) (ro : ROK H ρ) : zB (ρ 2) 256 := zB_mono ro.2.2.2.1 (Nat.pow_le_pow_right (by decide) (show hS H ≤ 8 from ok.2.2.1))
theorem live_256 {H : ab_H} {ρ : Nat → Int32} (ok : HOK H) (ro : ROK H ρ) : zB (ρ 1) 256 := zB_mono ro.2.2.1 (Nat.pow_le_pow_right (by decide) (show hS H ≤ 8 from ok.2.2.1))
section NX
variable {σ : hp_I} {H : ab_H} {lw : ab_L} {ρ : Nat → Int32} {o r c m : Nat}
theorem xs_growthOf (so : SO o r c) (hx : HX σ H) (lx : LX σ lw) (rx : RX σ r H ρ) (ok : HOK H) (lo : LOK lw) (ro : ROK H ρ) (q : Nat) (hq : q < hS H) : ∃ σ', fn_State_growthOf o (Int32.ofNat q) σ = some (sp_more H lw ρ q, σ') ∧ Fc [24, 25] σ σ' := by
  obtain ⟨σ', h1, h2⟩ := law_growth lx lo (ρ (13 + q)) (hV H 5 q) (hV H 0 (ρ (5 + q)).toNatClampNeg) (bc (sp_cin H ρ (ρ (5 + q)))) (ρ 0) (bc (ρ 2)) (Int32.ofNat q)
  refine ⟨σ', ?_, h2⟩
  unfold fn_State_growthOf
  simp only [xs_roomOf so rx ok q hq, e_bd, e_let, xs_size so rx ok q hq, so.1, so.2.1, sh_p9, sh_p4, hx_gr hx ok q hq, hx_hv hx ok _ (ro.1 q hq).1, xs_catsIn so hx rx ok, xs_bc (sp_cin_lt H ok ρ _), xs_night so rx, xs_onMat so rx, xs_bc (mat_256 ok ro), h1, e_b2]
  rfl
/-- the model's law -/
theorem mf_155 (a : Nat) : sh_rf 155 a = 156 + a := by unfold sh_rf; rw [if_pos (by decide +kernel)]
theorem mn_155 : sh_ln 155 = 160 := by decide +kernel
theorem mn_156 : ∀ a, a < 160 → sh_ln (156 + a) = 2 := by decide +kernel
theorem mn_489 : sh_ln 489 = 160 := by decide +kernel
theorem mn_490 : sh_ln 490 = 7 := by decide +kernel
theorem ml_head (hl : lw.length ≤ 150) (hm : LM σ lw) {i : Nat} (hi : i < lw.length) : (Int32.ofNat i < σ 52 15) ∧ px_rld 155 (Int32.ofNat i) = some (156 + i) ∧ px_ald σ (156 + i) 0 = some (Int32.ofNat lw[i].1) ∧ px_ald σ (156 + i) 1 = some lw[i].2 := by
  rw [hm.1]
  refine ⟨zl_lt hi (by omega), ?_, ?_, ?_⟩
  · rw [zi_rld (by rw [mn_155]; omega) (by omega), mf_155]
  · rw [← (hm.2 i hi).1]; exact zi_ald (a := 0) (by rw [mn_156 i (by omega)]; decide) (by decide)
  · rw [← (hm.2 i hi).2]; exact zi_ald (a := 1) (by rw [mn_156 i (by omega)]; decide) (by decide)
theorem LM_489 {f : Nat → Int32} (hl : lw.length ≤ 150) (h : LM σ lw) : LM (hp_f σ 489 f) lw := by
  refine ⟨h.1, fun k hk => ?_⟩
  rw [hp_f_n (show 156 + k ≠ 489 by omega)]
  exact h.2 k hk
theorem LM_490 {f : Nat → Int32} (hl : lw.length ≤ 150) (h : LM σ lw) : LM (hp_f σ 490 f) lw := by
  refine ⟨h.1, fun k hk => ?_⟩
  rw [hp_f_n (show 156 + k ≠ 490 by omega)]
  exact h.2 k hk
theorem ml_num {k : hp_I → Option (Int32 × hp_I)} {fu n i : Nat} (hl : lw.length ≤ 150) (hm : LM σ lw) (hi : i < lw.length) (h0 : lw[i].1 = 0) (hn : n < 32) : fn_M_byLaw_L16 52 k (fu + 1) (Int32.ofNat n) (Int32.ofNat i) σ = fn_M_byLaw_L16 52 k fu (Int32.ofNat (n + 1)) (Int32.ofNat (i + 1)) (hp_s σ 489 n lw[i].2) := by
  obtain ⟨h1, h2, h3, h4⟩ := ml_head hl hm hi
  rw [h0] at h3
  have e1 : Int32.ofNat 0 < (2 : Int32) := by decide
  have e2 : Int32.ofNat 0 = (0 : Int32) := rfl
  have e3 : (0 : Int32) < (2 : Int32) := by decide
  rw [fn_M_byLaw_L16, if_pos h1, sm_17, h2, e_bd, h3, e_bd]
  simp only [e_jn, e_let, e_bd, e1, e3, if_true, h2, h3, h4, zi_succ, sm_21, e2]
  rw [zi_ast (by rw [mn_489]; omega) (by omega), e_bd]
theorem ml_var {k : hp_I → Option (Int32 × hp_I)} {fu n i v : Nat} (hl : lw.length ≤ 150) (hm : LM σ lw) (hi : i < lw.length) (h0 : lw[i].1 = 1) (hv : lw[i].2 = Int32.ofNat v) (hv7 : v < 7) (hn : n < 32) : fn_M_byLaw_L16 52 k (fu + 1) (Int32.ofNat n) (Int32.ofNat i) σ = fn_M_byLaw_L16 52 k fu (Int32.ofNat (n + 1)) (Int32.ofNat (i + 1)) (hp_s σ 489 n (σ 490 v)) := by
  obtain ⟨h1, h2, h3, h4⟩ := ml_head hl hm hi
  rw [h0] at h3
  rw [hv] at h4
  have e1 : Int32.ofNat 1 < (2 : Int32) := by decide
  have e2 : ¬ Int32.ofNat 1 = (0 : Int32) := by decide
  have h5 : px_ald σ 490 (Int32.ofNat v) = some (σ 490 v) := zi_ald (by rw [mn_490]; exact hv7) (by omega)
  rw [fn_M_byLaw_L16, if_pos h1, sm_17, h2, e_bd, h3, e_bd]
  simp only [e_jn, e_let, e_bd, e1, if_true, if_false, h2, h3, h4, zi_succ, sm_21, sm_22, e2, h5]
  rw [zi_ast (by rw [mn_489]; omega) (by omega), e_bd]
theorem ml_op {k : hp_I → Option (Int32 × hp_I)} {fu n i c : Nat} (hl : lw.length ≤ 150) (hm : LM σ lw) (hi : i < lw.length) (h0 : lw[i].1 = c) (hc2 : 2 ≤ c) (h8 : c ≤ 8) (hn : 2 ≤ n) (hn2 : n ≤ 32) : fn_M_byLaw_L16 52 k (fu + 1) (Int32.ofNat n) (Int32.ofNat i) σ = fn_M_byLaw_L16 52 k fu (Int32.ofNat (n - 1)) (Int32.ofNat (i + 1)) (hp_s σ 489 (n - 2) (jn c (σ 489 (n - 2)) (σ 489 (n - 1)))) := by
  obtain ⟨h1, h2, h3, h4⟩ := ml_head hl hm hi
  rw [h0] at h3
  have e1 : ¬ Int32.ofNat c < (2 : Int32) := zl_nlt (b := 2) hc2 (by omega)
  have e4 : n - 1 - 1 = n - 2 := by omega
  rw [fn_M_byLaw_L16, if_pos h1, sm_17, h2, e_bd, h3, e_bd]
  simp only [e_jn, e_let, e_bd, e1, if_false, h2, h3, zi_succ, sm_21]
  rw [zi_pred (by omega), zi_sub1 (by omega), zi_ald (by rw [mn_489]; omega) (by omega), e_bd, zi_ald (by rw [mn_489]; omega) (by omega), e_bd, law_by _ hc2 h8, e_bd, zi_ast (by rw [mn_489]; omega) (by omega), e_bd, e4]
end NX
theorem ml_value (lw : ab_L) (hl : lw.length ≤ 150) (kn : Nat → Int32) (k : hp_I → Option (Int32 × hp_I)) : ∀ (t : ab_L) (i fu n : Nat) (s : hp_I), lw.drop i = t → i + t.length = lw.length → t.length < fu → okl t n → LM s lw → s 490 = kn → n ≤ 32 →
    fn_M_byLaw_L16 52 k fu (Int32.ofNat n) (Int32.ofNat i) s = k (hp_f s 489 (sv kn t (n, s 489)).2) := by
  intro t
  induction t with
  | nil =>
    intro i fu n s ht hi hf _ hx _ _
    have e : i = lw.length := hi
    subst e
    cases fu with
    | zero => exact absurd hf (Nat.not_lt_zero _)
    | succ fu => rw [fn_M_byLaw_L16, hx.1, if_neg (Int32.lt_irrefl), sv, hp_fs]
  | cons q t ih =>
    intro i fu n s ht hi hf hok hx hkn hn
    obtain ⟨hlt, hq, hd⟩ := drop_get ht
    have hi' : i + 1 + t.length = lw.length := by rw [List.length_cons] at hi; omega
    rw [List.length_cons] at hf
    unfold okl at hok
    unfold sv
    cases fu with
    | zero => exact absurd hf (Nat.not_lt_zero _)
    | succ fu =>
      by_cases h2 : q.1 < 2
      · rw [if_pos h2] at hok
        obtain ⟨o1, o2, o3, o4⟩ := hok
        by_cases h0 : q.1 = 0
        · rw [ml_num hl hx hlt (by rw [hq]; exact h0) o3, hq, hp_s_f, ih (i + 1) fu (n + 1) _ hd hi' (by omega) o4 (LM_489 hl hx) hkn (by omega), hp_ff, hp_f_i, if_pos h2, if_pos h0]
        · obtain ⟨v, hv, e⟩ := o2 (by omega)
          rw [ml_var hl hx hlt (by rw [hq]; omega) (by rw [hq]; exact e) hv o3, hp_s_f, ih (i + 1) fu (n + 1) _ hd hi' (by omega) o4 (LM_489 hl hx) hkn (by omega), hp_ff, hp_f_i, if_pos h2, if_neg h0, e, zi_nat (by omega), hkn]
      · rw [if_neg h2] at hok
        obtain ⟨o1, o2, o3⟩ := hok
        rw [ml_op hl hx hlt (by rw [hq]) (by omega) o1 o2 hn, hp_s_f, ih (i + 1) fu (n - 1) _ hd hi' (by omega) o3 (LM_489 hl hx) hkn (by omega), hp_ff, hp_f_i, if_neg h2]
theorem clamp_eq (v : Int32) : (if (60 : Int32) < (if v < 0 then 0 else v) then (60 : Int32) else (if v < 0 then 0 else v)) = px_max 0 (px_min 60 v) := by
  unfold px_max px_min
  simp only [Int32.lt_iff_toInt_lt]
  have h60 : ((60 : Int32)).toInt = 60 := by decide
  have h0 : ((0 : Int32)).toInt = 0 := by decide
  by_cases h1 : v.toInt < 0
  · simp only [h60, h0, h1, if_true]
    have h2 : v.toInt < 60 := by omega
    have h3 : ¬ 0 < v.toInt := by omega
    simp [h2, h3, h0]
  · simp only [h60, h0, h1, if_false]
    by_cases h2 : v.toInt < 60
    · have h3 : ¬ 60 < v.toInt := by omega
      simp only [h2, h3, if_true, if_false]
      by_cases h4 : 0 < v.toInt
      · simp [h4]
      · simp only [h4, if_false]
        exact Int32.toInt.inj (by omega)
    · simp only [h2, if_false]
      by_cases h3 : 60 < v.toInt
      · simp [h3, h60]
      · simp only [h3, if_false, h60]
        have e : v = 60 := Int32.toInt.inj (by omega)
        simp [e]
theorem ml_moreBy {σ : hp_I} {lw : ab_L} (hx : LM σ lw) (ok : LOK lw) (a b c d e f g : Int32) : ∃ σ', fn_M_moreBy 52 a b c d e f g σ = some (sp_gr lw (kn7 a b c d e f g), σ') ∧ Fc [489, 490] σ σ' := by
  have w : ∀ (s : hp_I) (i : Nat) (v : Int32), i < 7 → px_ast s 490 (Int32.ofNat i) v = some (hp_f s 490 (upd (s 490) i v)) := fun s i v hi => zi_ast (by rw [mn_490]; exact hi) (by omega)
  unfold fn_M_moreBy
  simp only [sm_22]
  rw [show px_ast σ 490 0 a = _ from w σ 0 a (by decide), e_bd]
  rw [show px_ast _ 490 1 b = _ from w _ 1 b (by decide), e_bd, hp_ff, hp_f_i]
  rw [show px_ast _ 490 2 c = _ from w _ 2 c (by decide), e_bd, hp_ff, hp_f_i]
  rw [show px_ast _ 490 3 d = _ from w _ 3 d (by decide), e_bd, hp_ff, hp_f_i]
  rw [show px_ast _ 490 4 e = _ from w _ 4 e (by decide), e_bd, hp_ff, hp_f_i]
  rw [show px_ast _ 490 5 f = _ from w _ 5 f (by decide), e_bd, hp_ff, hp_f_i]
  rw [show px_ast _ 490 6 g = _ from w _ 6 g (by decide), e_bd, hp_ff, hp_f_i]
  generalize hG : upd (upd (upd (upd (upd (upd (upd (σ 490) 0 a) 1 b) 2 c) 3 d) 4 e) 5 f) 6 g = G0
  have hk : ∀ i, i < 7 → G0 i = kn7 a b c d e f g i := fun i hi => by rw [← hG]; exact kn7_eq _ a b c d e f g i hi
  have hl := ok.1
  have hx' : LM (hp_f σ 490 G0) lw := LM_490 hl hx
  unfold fn_M_byLaw
  simp only [e_let, sm_21, sm_22]
  rw [show px_ald (hp_f σ 490 G0) 490 1 = _ from zi_ald (a := 1) (by rw [mn_490]; decide) (by decide), e_bd, hp_f_i]
  rw [show px_ast (hp_f σ 490 G0) 489 0 (G0 1) = _ from zi_ast (a := 0) (by rw [mn_489]; decide) (by decide), e_bd, hp_s_f, hp_f_n (show 489 ≠ 490 by decide)]
  generalize hF : FU = F
  have hF2 : F = 100000 := hF.symm
  have fin : ∀ z s, (Option.bind (px_ald s 489 0) fun z30 => Option.bind (fn_M_more2 0 z30) fun z31 => Option.bind (fn_M_less 60 z31) fun z32 => some (z32, s)) = some z → True := fun _ _ _ => trivial
  unfold sp_gr
  have frame : ∀ X : Nat → Int32, Fc [489, 490] σ (hp_f (hp_f σ 490 G0) 489 X) := fun X i hi => by
    rw [hp_f_n (fun e => hi (by rw [e]; decide)), hp_f_n (fun e => hi (by rw [e]; decide))]
  have done : ∀ (s : hp_I) (v : Int32), s 489 0 = v → (px_b2 (Option.bind (px_ald s 489 0) fun z30 => Option.bind (fn_M_more2 0 z30) fun z31 => Option.bind (fn_M_less 60 z31) fun z32 => some (z32, s)) fun z8 s9 => some (z8, s9)) = some (px_max 0 (px_min 60 v), s) := by
    intro s v hv
    rw [show px_ald s 489 0 = some (s 489 0) from zi_ald (a := 0) (by rw [mn_489]; decide) (by decide), e_bd, hv, ms_more2, e_bd, ms_less, e_bd, clamp_eq, e_b2]
  by_cases hn : lw = []
  · subst hn
    cases F with
    | zero => omega
    | succ F =>
      rw [fn_M_byLaw_L16, if_neg (show ¬ (0 : Int32) < _ from by rw [show (hp_f (hp_f σ 490 G0) 489 (upd (σ 489) 0 (G0 1))) 52 15 = 0 from hx'.1]; decide), done _ (G0 1) (by rw [hp_f_i]; rfl), if_pos rfl, hk 1 (by decide)]
      exact ⟨_, rfl, frame _⟩
  · have hokl : okl lw 0 := ok.2.resolve_left hn
    have hv := ml_value lw hl G0 (fun s => Option.bind (px_ald s 489 0) fun z30 => Option.bind (fn_M_more2 0 z30) fun z31 => Option.bind (fn_M_less 60 z31) fun z32 => some (z32, s)) lw 0 F 0 (hp_f (hp_f σ 490 G0) 489 (upd (σ 489) 0 (G0 1))) rfl (by omega) (by omega) hokl (LM_489 hl hx') (by rw [hp_f_n (show 490 ≠ 489 by decide), hp_f_i]) (by decide)
    rw [show (fn_M_byLaw_L16 52 _ F 0 0 (hp_f (hp_f σ 490 G0) 489 (upd (σ 489) 0 (G0 1)))) = _ from hv, hp_ff, hp_f_i, if_neg hn]
    have e1 := (sv_ind G0 lw 0 (upd (σ 489) 0 (G0 1)) (fun _ => 0) hokl (fun j hj => absurd hj (Nat.not_lt_zero _))).2.2
    rw [done _ _ (congrFun hp_f_i 0), e1, sv_kn G0 _ hk lw 0 _ hokl]
    exact ⟨_, rfl, frame _⟩

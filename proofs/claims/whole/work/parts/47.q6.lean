/-! QUESTIONS: crowd, escapes, told, counts -/
section Q6
variable {σ : hp_I} {A : ab_A}
def cr_n (H : ab_H) (ρ : ab_R) (v : Int32) : Int32 := bc (sp_liv H ρ v)
def sp_crowd (H : ab_H) (ρ : ab_R) : Int32 × Int32 := zF (fun r (a : Int32 × Int32) => if a.1 < cr_n H ρ (Int32.ofNat r) then (cr_n H ρ (Int32.ofNat r), Int32.ofNat r) else a) (hR H) 0 (0, -1)
def qv_crowd (A : ab_A) (w : Int32) : Int32 := if w = 0 then (sp_crowd (aH A) (aR A)).2 else if (sp_crowd (aH A) (aR A)).2 = -1 then (sp_crowd (aH A) (aR A)).2 else (sp_crowd (aH A) (aR A)).1
theorem sp_liv_lt (H : ab_H) (ok : HOK H) (ρ : ab_R) (v : Int32) : zB (sp_liv H ρ v) (2 ^ hS H) := zF_bits _ (fun i a => by
  split
  · split
    · exact Or.inr rfl
    · exact Or.inl rfl
  · exact Or.inl rfl) (hS H) ok.2.2.1
theorem liv_256 (H : ab_H) (ok : HOK H) (ρ : ab_R) (v : Int32) : zB (sp_liv H ρ v) 256 := zB_mono (sp_liv_lt H ok ρ v) (Nat.pow_le_pow_right (by decide) ok.2.2.1)
theorem xq_crowd (ok : AOK A) (cx : CX σ A) (w : Int32) : XQ σ (fn_X_crowd 0 w σ) (qb_i (inB w 0 1) 0) (qv_crowd A w) := by
  unfold fn_X_crowd
  refine xg_in fun _ => ?_
  refine xq_v ?_
  simp only [e_let]
  have hn := ok.1.1
  refine (zL_0 (L := fun fu (a : Int32 × Int32) i => fn_X_crowd_L14 0 w σ _ fu a.1 a.2 i) (k := fun a : Int32 × Int32 => px_jn (fun (t16 : Int32) => some (.inr (t16, σ))) fun j17 => px_jn (j17 a.2) fun j18 => if w = 0 then j18 else if a.2 = (-1 : Int32) then j18 else j17 a.1) (N := hR (aH A)) (fun r (a : Int32 × Int32) => if a.1 < cr_n (aH A) (aR A) (Int32.ofNat r) then (cr_n (aH A) (aR A) (Int32.ofNat r), Int32.ofNat r) else a) (by omega) (fun fu a => ?_) (fun fu i a hi => ?_) (0, -1)).trans ?_
  · try dsimp only
    rw [fn_X_crowd_L14]
    rw [xf_1, hx_R cx.1, if_neg (Int32.lt_irrefl)]
  · try dsimp only
    rw [fn_X_crowd_L14]
    rw [xf_1, hx_R cx.1, if_pos (zl_lt hi (by omega)), xf_6, xs_livingIn so_32 cx.1 cx.2.1 ok.1, e_bd, xs_bc (liv_256 _ ok.1 _ _), e_bd, e_let, e_jn]
    simp only [e_let, zi_succ]
    rw [show bc (sp_liv (aH A) (aR A) (Int32.ofNat i)) = cr_n (aH A) (aR A) (Int32.ofNat i) from rfl]
    split <;> rfl
  · try dsimp only
    simp only [e_jn]
    unfold qv_crowd sp_crowd
    generalize zF _ (hR (aH A)) 0 (0, -1) = a
    split
    · rfl
    split <;> rfl
theorem ml_crowd2 {w a2 a3 a4 : Int32} {k : Int32 → Option (Int32 × hp_I)} {H : ab_H} {ρ : ab_R} (hm : HM σ H) (rm : RM σ 572 H ρ) (ok : HOK H) : fn_M_crowd_L54 52 w a2 a3 a4 σ k FU 0 0 = k (cr_n H ρ a4) := by
  have hn := ok.2.2.1
  have hcount : cr_n H ρ a4 = zF (fun s a => if (hasB (ρ 1) s && decide (ρ (5 + s) = a4)) = true then a + 1 else a) (hS H) 0 0 := by
    refine zF_count (fun s => hasB (ρ 1) s && decide (ρ (5 + s) = a4)) _ _ (fun i a => ?_) (fun i a => rfl) (hS H) 0 0 0 (by omega) ⟨0, by decide, rfl⟩ bc_0
    by_cases h1 : hasB (ρ 1) i = true
    · by_cases h2 : ρ (5 + i) = a4
      · simp [h1, h2]
      · simp [h1, h2]
    · simp [h1]
  rw [hcount]
  refine zL_0 (L := fun fu a i => fn_M_crowd_L54 52 w a2 a3 a4 σ k fu a i) (k := k) (N := hS H) (fun s a => if (hasB (ρ 1) s && decide (ρ (5 + s) = a4)) = true then a + 1 else a) (by omega) (fun fu a => ?_) (fun fu i a hi => ?_) 0
  · try dsimp only
    rw [fn_M_crowd_L54]
    rw [sm_12, (hm_n hm).2.2.1, e_bd, if_neg (Int32.lt_irrefl)]
  · try dsimp only
    rw [fn_M_crowd_L54]
    rw [sm_12, (hm_n hm).2.2.1, e_bd, if_pos (zl_lt hi (by omega)), sm_25, ms_lives rm, e_bd, e_jn, e_jn, rm_5 rm ok i hi, e_bd, bI_if]
    simp only [e_let, zi_succ, Int32.add_zero]
    by_cases h1 : hasB (ρ 1) i = true
    · by_cases h2 : ρ (5 + i) = a4
      · simp only [h1, h2, if_true, decide_true, Bool.and_true]
      · simp only [h1, h2, if_true, if_false, decide_false, Bool.and_false, Bool.false_eq_true]
    · have h3 : hasB (ρ 1) i = false := by simpa using h1
      simp only [h3, Bool.false_and, Bool.false_eq_true, if_false]
theorem mq_crowd (ok : AOK A) (cm : CM σ A) (w : Int32) : MQs σ (fn_M_crowd 52 w σ) (qb_i (inB w 0 1) 0) (qv_crowd A w) 1 := by
  unfold fn_M_crowd
  simp only [e_let, e_jn]
  have cm0 := cm_0 ok cm
  rw [ms_in', e_bd]
  refine mb_b fun _ => ?_
  refine mq_v0 ?_
  generalize hp_s σ 52 0 0 = s at cm0 ⊢
  have hn := ok.1.1
  refine (zL_0 (L := fun fu (a : Int32 × Int32) i => fn_M_crowd_L37 52 w s _ fu a.2 a.1 i) (k := fun a : Int32 × Int32 => if w = 0 then some (a.2, s) else if a.2 = (-1 : Int32) then some (a.2, s) else some (a.1, s)) (N := hR (aH A)) (fun r (a : Int32 × Int32) => if a.1 < cr_n (aH A) (aR A) (Int32.ofNat r) then (cr_n (aH A) (aR A) (Int32.ofNat r), Int32.ofNat r) else a) (by omega) (fun fu a => ?_) (fun fu i a hi => ?_) (0, -1)).trans ?_
  · try dsimp only
    rw [fn_M_crowd_L37]
    rw [sm_12, (hm_n cm0.1).1, e_bd, if_neg (Int32.lt_irrefl)]
  · try dsimp only
    rw [fn_M_crowd_L37]
    rw [sm_12, (hm_n cm0.1).1, e_bd, if_pos (zl_lt hi (by omega)), e_let, e_let, ml_crowd2 cm0.1 cm0.2.1 ok.1, e_jn]
    simp only [e_let, zi_succ, ms_more2, e_bd]
    by_cases h : a.1 < cr_n (aH A) (aR A) (Int32.ofNat i)
    · have h2 : ¬ cr_n (aH A) (aR A) (Int32.ofNat i) < a.1 := fun h3 => Int32.lt_irrefl (Int32.lt_trans h h3)
      simp only [h, h2, if_true, if_false]
    · simp only [h, if_false]
      by_cases h2 : cr_n (aH A) (aR A) (Int32.ofNat i) < a.1
      · simp only [h2, if_true]
      · simp only [h2, if_false]
        rw [show cr_n (aH A) (aR A) (Int32.ofNat i) = a.1 from Int32.le_antisymm (Int32.not_lt.mp h) (Int32.not_lt.mp h2)]
  · try dsimp only
    unfold qv_crowd sp_crowd
    generalize zF _ (hR (aH A)) 0 (0, -1) = a
    split
    · rfl
    split <;> rfl
/- escapes -/
theorem hid_and (H : ab_H) (ρ : ab_R) (z b c : Int32) : sp_hid H ρ z (b &&& c) = sp_hid H ρ z b &&& c := by
  unfold sp_hid
  generalize hC H = N
  have : ∀ n i b, zF (fun c acc => if sp_ws H c z (ρ (37 + c)) = true then acc &&& (((1 : Int32) <<< (ρ (37 + c) &&& 31)) ^^^ (-1 : Int32)) else acc) n i (b &&& c) = zF (fun c acc => if sp_ws H c z (ρ (37 + c)) = true then acc &&& (((1 : Int32) <<< (ρ (37 + c) &&& 31)) ^^^ (-1 : Int32)) else acc) n i b &&& c := by
    intro n
    induction n with
    | zero => intro i b; rfl
    | succ n ih =>
      intro i b
      show zF _ n (i + 1) _ = zF _ n (i + 1) _ &&& c
      rw [← ih]
      congr 1
      show (if sp_ws H i z (ρ (37 + i)) = true then _ else _) = (if sp_ws H i z (ρ (37 + i)) = true then _ else _) &&& c
      split
      · rw [Int32.and_assoc, Int32.and_comm c, ← Int32.and_assoc]
      · rfl
  exact this N 0 b
theorem bes_lt (H : ab_H) (ok : HOK H) (ρ : ab_R) (v : Int32) : zB (sp_bes H ρ v) (2 ^ hR H) := by
  have hR8 := ok.1
  refine zF_inv _ (fun a => zB a (2 ^ hR H)) (hW H) (fun i a hi h => ?_) (hW H) 0 0 (by omega) ⟨0, Nat.pow_pos (by decide), rfl⟩
  have hw := ok.2.2.2.2.2.1 i hi
  obtain ⟨⟨x, hx, ex⟩, ⟨y, hy, ey⟩, -⟩ := hw
  split
  · exact h
  · split
    · rw [ey]; exact zB_or (by omega) h (zB_bit hy hR8)
    · split
      · rw [ex]; exact zB_or (by omega) h (zB_bit hx hR8)
      · exact h
theorem all_and0 : ∀ r, r ≤ 8 → ∀ b, b < 2 ^ r → (((1 : Int32) <<< (Int32.ofNat r &&& 31)) - 1) &&& Int32.ofNat b = Int32.ofNat b := by decide +kernel
theorem all_and {H : ab_H} (ok : HOK H) {b : Int32} (h : zB b (2 ^ hR H)) : sp_all H &&& b = b := by
  obtain ⟨k, hk, rfl⟩ := h
  exact all_and0 (hR H) ok.1 k hk
def qv_esc (A : ab_A) (n : Nat) : Int32 := if hasB (aR A 1) n = true then sp_hid (aH A) (aR A) (aR A (13 + n)) (sp_bes (aH A) (aR A) (aR A (5 + n)) ||| ((1 : Int32) <<< (aR A (5 + n) &&& 31))) else 0
theorem xq_esc (ok : AOK A) (cx : CX σ A) (p : Int32) : XQ σ (fn_X_escapes 0 p σ) (qb_o (oneB p (hS (aH A))) 0) (qv_esc A p.toNatClampNeg) := by
  unfold fn_X_escapes
  refine xg_one (by rw [xf_1]; exact hx_S cx.1) fun h1 => ?_
  refine xq_v ?_
  have hc := cnt_lt ok.1
  obtain ⟨n, hn, rfl⟩ := oneB_z (by omega) h1
  simp only [xf_6, xs_lives so_32 cx.2.1, xs_roomOf so_32 cx.2.1 ok.1 n hn, xs_size so_32 cx.2.1 ok.1 n hn, xs_hidden so_32 cx.1 cx.2.1 ok.1 ok.2.1, xs_besides so_32 cx.1 cx.2.1 ok.1, e_bd, e_let, bI_if]
  rw [zi_nat (by omega)]
  unfold qv_esc
  split
  · have hz : zB (sp_bes (aH A) (aR A) (aR A (5 + n)) ||| ((1 : Int32) <<< (aR A (5 + n) &&& 31))) (2 ^ hR (aH A)) := by
      obtain ⟨r, hr, er⟩ := (ok.2.1.1 n hn).1
      have := ok.1.1
      refine zB_or (by omega) (bes_lt _ ok.1 _ _) ?_
      rw [er]
      exact zB_bit hr this
    rw [← hid_and, show (((1 : Int32) <<< (Int32.ofNat (hR (aH A)) &&& 31)) - 1) = sp_all (aH A) from rfl, all_and ok.1 hz]
  · rfl
theorem ml_esc {n : Nat} {b0 : Int32} {k : Int32 → Option (Int32 × hp_I)} {H : ab_H} {ρ : ab_R} (hm : HM σ H) (rm : RM σ 572 H ρ) (ok : HOK H) (ro : ROK H ρ) (hq : n < hS H) : fn_M_escapes_L73 52 (Int32.ofNat n) σ k FU b0 0 = k (sp_hid H ρ (ρ (13 + n)) b0) := by
  have hn := ok.2.2.2.1
  refine zL_0 (L := fun fu a i => fn_M_escapes_L73 52 (Int32.ofNat n) σ k fu a i) (k := k) (N := hC H) _ (by omega) (fun fu a => ?_) (fun fu i a hi => ?_) b0
  · try dsimp only
    rw [fn_M_escapes_L73]
    rw [sm_12, (hm_n hm).2.2.2, e_bd, if_neg (Int32.lt_irrefl)]
  · try dsimp only
    rw [fn_M_escapes_L73]
    have hz := ro.2.1 i hi
    rw [sm_12, (hm_n hm).2.2.2, e_bd, if_pos (zl_lt hi (by omega)), sm_25, rm_13 rm ok n hq, e_bd, ms_nose hm ok i hi, e_bd, rm_37 rm ok i hi, e_bd, ms_hide hm ok _ hz, e_bd, e_jn]
    simp only [e_let, zi_succ, e_bd, sp_ws, decide_eq_true_eq]
    split
    · rfl
    · rw [and_m1]
theorem mq_esc (ok : AOK A) (cm : CM σ A) (p : Int32) : MQs σ (fn_M_escapes 52 p σ) (qb_o (oneB p (hS (aH A))) 0) (qv_esc A p.toNatClampNeg) 1 := by
  unfold fn_M_escapes
  simp only [e_let, e_jn]
  have cm0 := cm_0 ok cm
  have hc := cnt_lt ok.1
  rw [mt_S cm.1 ok.1, e_bd]
  refine mb_a fun h1 => ?_
  refine mq_v0 ?_
  obtain ⟨n, hn, rfl⟩ := oneB_z (by omega) h1
  rw [sm_25, ms_lives cm0.2.1, e_bd, bI_if, rm_5 cm0.2.1 ok.1 n hn, e_bd, ms_beside cm0.1 cm0.2.1 ok.1, e_bd, e_bd, ml_esc cm0.1 cm0.2.1 ok.1 ok.2.1 hn, zi_nat (by omega)]
  unfold qv_esc
  split <;> rfl
/- told -/
theorem bk_has (bk : ab_B) (k : Nat) (hk : k < 32) (h : ∀ q ∈ bk, q.1 < 32) : hasB (bk_in bk) k = decide (k ∈ bk.map Prod.fst) := by
  induction bk with
  | nil => rw [show bk_in [] = 0 from rfl, hasB_zero hk]; simp
  | cons q t ih =>
    rw [show bk_in (q :: t) = bk_in t ||| bitI q.1 from rfl, hasB_or hk, ih (fun x hx => h x (List.mem_cons_of_mem _ hx)), hasB_bit (h q List.mem_cons_self) hk]
    rw [Bool.eq_iff_iff]
    simp only [Bool.or_eq_true, decide_eq_true_eq, List.map_cons, List.mem_cons]
    constructor
    · rintro (h | h)
      · exact Or.inr h
      · exact Or.inl h.symm
    · rintro (h | h)
      · exact Or.inr h.symm
      · exact Or.inl h
theorem bc_new0 : ∀ a, a < 256 → ∀ k, k < 8 → hasB (Int32.ofNat a) k = false → bc (Int32.ofNat a ||| bitI k) = bc (Int32.ofNat a) + 1 := by decide +kernel
theorem bk_cnt (bk : ab_B) (h : ∀ q ∈ bk, q.1 < 8) (hn : (bk.map Prod.fst).Nodup) : zB (bk_in bk) 256 ∧ bc (bk_in bk) = Int32.ofNat bk.length := by
  induction bk with
  | nil => exact ⟨⟨0, by decide, rfl⟩, by decide⟩
  | cons q t ih =>
    have hn2 : q.1 ∉ t.map Prod.fst ∧ (t.map Prod.fst).Nodup := by simpa only [List.map_cons, List.nodup_cons] using hn
    obtain ⟨i1, i2⟩ := ih (fun x hx => h x (List.mem_cons_of_mem _ hx)) hn2.2
    have hq := h q List.mem_cons_self
    refine ⟨?_, ?_⟩
    · exact zB_or (k := 8) (by decide) i1 (zB_bit hq (by decide))
    · have hh := bk_has t q.1 (by omega) (fun x hx => by have := h x (List.mem_cons_of_mem _ hx); omega)
      rw [decide_eq_false hn2.1] at hh
      obtain ⟨a, ha, ea⟩ := i1
      rw [show bk_in (q :: t) = bk_in t ||| bitI q.1 from rfl]
      rw [ea] at hh i2 ⊢
      rw [bc_new0 a ha q.1 hq hh, i2, zi_succ]
      rfl
theorem xs_many (ok : AOK A) (cx : CX σ A) : fn_Book_many 26 σ = some (Int32.ofNat (aB A).length) := by
  unfold fn_Book_many
  have h5 := ok.1.2.2.2.1
  obtain ⟨h1, h2⟩ := bk_cnt (aB A) (fun q hq => by have := (ok.2.2.2.1.1 q hq).1; omega) ok.2.2.2.1.2
  rw [cx.2.2.2.1.1, xs_bc h1, e_bd, h2]
def qv_told (A : ab_A) (z p : Int32) : Int32 := if p = 0 then Int32.ofNat (hR (aH A)) else if p = 1 then Int32.ofNat (hW (aH A)) else if p = 2 then Int32.ofNat (hS (aH A)) else if p = 3 then Int32.ofNat (hC (aH A)) else if p = 4 then aR A 0 else if p = 5 then aR A 1 else if p = 6 then aR A 2 else if p = 7 then aR A 3 else if p = 8 then aR A 4 else if p = 9 then Int32.ofNat (aB A).length else if p = 10 then z else sp_szo (aH A) (aR A) (aR A 1)
theorem xq_told (ok : AOK A) (cx : CX σ A) (p : Int32) : XQ σ (fn_X_told 0 p σ) (qb_i (inB p 0 11) 0) (qv_told A (σ 0 13) p) := by
  unfold fn_X_told
  refine xg_in fun _ => ?_
  refine xq_v ?_
  simp only [e_swc, e_swn, xf_1, xf_6, xf_4, hx_R cx.1, hx_W cx.1, hx_S cx.1, hx_C cx.1, xs_night so_32 cx.2.1, xs_living so_32 cx.2.1, xs_onMat so_32 cx.2.1, xs_joined so_32 cx.2.1, xs_shutWays so_32 cx.2.1, xs_many ok cx, xs_sizeOf so_32 cx.1 cx.2.1 ok.1, e_bd]
  unfold qv_told
  exact ite_g (rX σ) (fun _ => rfl) (fun _ => ite_g (rX σ) (fun _ => rfl) (fun _ => ite_g (rX σ) (fun _ => rfl) (fun _ => ite_g (rX σ) (fun _ => rfl) (fun _ => ite_g (rX σ) (fun _ => rfl) (fun _ => ite_g (rX σ) (fun _ => rfl) (fun _ => ite_g (rX σ) (fun _ => rfl) (fun _ => ite_g (rX σ) (fun _ => rfl) (fun _ => ite_g (rX σ) (fun _ => rfl) (fun _ => ite_g (rX σ) (fun _ => rfl) (fun _ => ite_g (rX σ) (fun _ => rfl) (fun _ => rfl)))))))))))
theorem mq_told (ok : AOK A) (cm : CM σ A) (z p : Int32) (hz : σ 52 32 = z) : MQs σ (fn_M_told 52 p σ) (qb_i (inB p 0 11) 0) (qv_told A z p) 1 := by
  unfold fn_M_told
  simp only [e_let, e_jn]
  have cm0 := cm_0 ok cm
  have hz0 : hp_s σ 52 0 0 52 32 = z := by rw [hp_s_i, upd_n (by decide)]; exact hz
  rw [ms_in', e_bd]
  refine mb_b fun _ => ?_
  refine mq_v0 ?_
  generalize hp_s σ 52 0 0 = s at cm0 hz0 ⊢
  simp only [e_swc, e_swn, sm_12, sm_25, rm_0 cm0.2.1, rm_1 cm0.2.1, rm_2 cm0.2.1, rm_3 cm0.2.1, rm_4 cm0.2.1, ms_sizes cm0.1 cm0.2.1 ok.1, cm0.2.2.2.1.1, hz0, e_bd]
  have hh := hm_n cm0.1
  unfold qv_told
  exact ite_g (rM s) (fun h => by rw [h, hh.1, e_bd]) (fun _ => ite_g (rM s) (fun h => by rw [h, hh.2.1, e_bd]) (fun _ => ite_g (rM s) (fun h => by rw [h, hh.2.2.1, e_bd]) (fun _ => ite_g (rM s) (fun h => by rw [h, hh.2.2.2, e_bd]) (fun _ => ite_g (rM s) (fun _ => rfl) (fun _ => ite_g (rM s) (fun _ => rfl) (fun _ => ite_g (rM s) (fun _ => rfl) (fun _ => ite_g (rM s) (fun _ => rfl) (fun _ => ite_g (rM s) (fun _ => rfl) (fun _ => ite_g (rM s) (fun _ => rfl) (fun _ => ite_g (rM s) (fun _ => rfl) (fun _ => rfl)))))))))))
/- fault, status, count -/
theorem t_1 : fn_X_fault 0 σ = some (σ 1 5) := by
  unfold fn_X_fault fn_Tape_faultPlace
  rw [xf_0, e_bd]
theorem mq_fault (tp : TP σ) : MQs σ (fn_M_fault 52 σ) 0 (σ 1 5) 1 := by
  unfold fn_M_fault
  rw [e_let]
  refine mq_v0 ?_
  rw [hp_s_i, upd_n (by decide), tp.2.1]
theorem xv_status (p : Int32) : fn_X_status 0 p σ = some (if p = 0 then σ 0 14 else if p = 1 then σ 0 15 else -1) := by
  unfold fn_X_status
  simp only [e_swc, e_swn]
  split
  · rfl
  split <;> rfl
theorem mq_status (ct : CT σ) (p : Int32) : MQs σ (fn_M_status 52 p σ) 0 (if p = 0 then σ 0 14 else if p = 1 then σ 0 15 else -1) 1 := by
  unfold fn_M_status
  rw [e_let, ms_in', e_bd, e_jn, bI_if]
  refine mq_v0 ?_
  by_cases h : inB p 0 1 = true
  · rw [if_pos h]
    obtain ⟨k, hk, rfl⟩ := zB_in (n := 1) (by decide) h
    rw [sm_10, zi_ald (by rw [sn_54]; exact hk) (by omega), e_bd, hp_s_n (show 54 ≠ 52 by decide)]
    match k, hk with
    | 0, _ => rw [if_pos (show Int32.ofNat 0 = 0 from rfl), ct.2.1]
    | 1, _ => rw [if_neg (show ¬ Int32.ofNat 1 = 0 by decide), if_pos (show Int32.ofNat 1 = 1 from rfl), ct.2.2]
  · rw [if_neg h]
    rw [if_neg (fun e => h (by rw [e]; decide)), if_neg (fun e => h (by rw [e]; decide))]
theorem xv_count (p : Int32) : fn_X_count 0 p σ = some (if p = 0 then σ 38 1 else if p = 1 then σ 1 1 else if p = 2 then σ 38 0 else -1) := by
  unfold fn_X_count fn_Tape_bytesOnIt
  simp only [e_swc, e_swn, xf_8, xf_0, e_bd]
  split
  · rfl
  split
  · rfl
  split <;> rfl
theorem mq_count (cx : CX σ A) (cm : CM σ A) (tp : TP σ) (p : Int32) : MQs σ (fn_M_count 52 p σ) 0 (if p = 0 then σ 38 1 else if p = 1 then σ 1 1 else if p = 2 then σ 38 0 else -1) 1 := by
  unfold fn_M_count
  simp only [e_let, e_jn]
  refine mq_v0 ?_
  obtain ⟨⟨n, -, t1, t2, -⟩, -⟩ := tp
  have e1 : hp_s σ 52 0 0 52 33 = σ 38 1 := by rw [hp_s_i, upd_n (by decide), cm.2.2.2.2.2.1, cx.2.2.2.2.2.1]
  have e2 : hp_s σ 52 0 0 52 1 = σ 1 1 := by rw [hp_s_i, upd_n (by decide), t1, t2]
  have e3 : hp_s σ 52 0 0 52 31 = σ 38 0 := by rw [hp_s_i, upd_n (by decide), cm.2.2.2.2.1.1, cx.2.2.2.2.1.1]
  rw [e1, e2, e3]
  split
  · rfl
  split
  · rfl
  split <;> rfl
end Q6

/-! QUESTIONS: guards -/
theorem xg_in {σ : hp_I} {p lo hi v : Int32} {q : Nat} {f : hp_I → Option (px_X (Int32 × hp_I))} (h : inB p lo hi = true → XQ σ (f σ) q v) : XQ σ (px_bx (fn_X_demandWithin 0 p lo hi σ) f) (if inB p lo hi = true then q else 2) v := by
  rw [xd_in']
  by_cases c : inB p lo hi = true
  · rw [if_pos c, if_pos c, e_bxr]
    exact h c
  · rw [if_neg c, if_neg c, e_bxl]
    exact xq_2 rfl
theorem xg_one {σ : hp_I} {p d v : Int32} {q n : Nat} {f : hp_I → Option (px_X (Int32 × hp_I))} (e : d = Int32.ofNat n) (h : oneB p n = true → XQ σ (f σ) q v) : XQ σ (px_bx (fn_X_demandOneOf 0 p d σ) f) (if oneB p n = true then q else 1) v := by
  rw [e, xd_one']
  by_cases c : oneB p n = true
  · rw [if_pos c, if_pos c, e_bxr]
    exact h c
  · rw [if_neg c, if_neg c, e_bxl]
    exact xq_1 rfl
theorem mb_0 {s : hp_I} {t : Int32} (r : Nat) (h0 : s 52 0 = 0) (ht : t ≠ 0) (hr : r < 2) : fn_M_bad 52 (0 : Int32) t (Int32.ofNat r) s = some ((0 : Int32), s) := (md_bad (b := false) h0 ht hr).trans (if_neg (by decide))
theorem mb_1 {s : hp_I} {t : Int32} (r : Nat) (h0 : s 52 0 = 0) (ht : t ≠ 0) (hr : r < 2) : fn_M_bad 52 (1 : Int32) t (Int32.ofNat r) s = some ((1 : Int32), mbad s t r) := (md_bad (b := true) h0 ht hr).trans (if_pos rfl)
/-- one bad thing: the answer is 0, or what follows -/
theorem mb_a {σ : hp_I} {c : Bool} {v t2 : Int32} {q : Nat} {F : hp_I → Option (Int32 × hp_I)} (h : c = true → MQs σ (F (hp_s σ 52 0 0)) q v t2) :
    MQs σ (if bI c = 0 then (px_b2 (fn_M_bad 52 (1 : Int32) (1 : Int32) (0 : Int32) (hp_s σ 52 0 0)) fun z4 s5 => if z4 = 0 then F s5 else some ((0 : Int32), s5)) else (px_b2 (fn_M_bad 52 (0 : Int32) (1 : Int32) (0 : Int32) (hp_s σ 52 0 0)) fun z4 s5 => if z4 = 0 then F s5 else some ((0 : Int32), s5))) (if c = true then q else 1) v t2 := by
  have e0 : fn_M_bad 52 (0 : Int32) (1 : Int32) (0 : Int32) (hp_s σ 52 0 0) = some ((0 : Int32), hp_s σ 52 0 0) := mb_0 0 s0_0 (by decide) (by decide)
  have e1 : fn_M_bad 52 (1 : Int32) (1 : Int32) (0 : Int32) (hp_s σ 52 0 0) = some ((1 : Int32), mbad (hp_s σ 52 0 0) 1 0) := mb_1 0 s0_0 (by decide) (by decide)
  rw [bI_if, e0, e1, e_b2, e_b2, if_pos rfl, if_neg (show ¬ (1 : Int32) = 0 from by decide)]
  cases c with
  | true => rw [if_pos rfl, if_pos rfl]; exact h rfl
  | false => rw [if_neg (by decide), if_neg (by decide)]; exact mq_1 rfl
theorem mb_b {σ : hp_I} {c : Bool} {v : Int32} {q : Nat} {F : hp_I → Option (Int32 × hp_I)} (h : c = true → MQs σ (F (hp_s σ 52 0 0)) q v 1) :
    MQs σ (if bI c = 0 then (px_b2 (fn_M_bad 52 (1 : Int32) (1 : Int32) (1 : Int32) (hp_s σ 52 0 0)) fun z4 s5 => if z4 = 0 then F s5 else some ((0 : Int32), s5)) else (px_b2 (fn_M_bad 52 (0 : Int32) (1 : Int32) (1 : Int32) (hp_s σ 52 0 0)) fun z4 s5 => if z4 = 0 then F s5 else some ((0 : Int32), s5))) (if c = true then q else 2) v 1 := by
  have e0 : fn_M_bad 52 (0 : Int32) (1 : Int32) (1 : Int32) (hp_s σ 52 0 0) = some ((0 : Int32), hp_s σ 52 0 0) := mb_0 1 s0_0 (by decide) (by decide)
  have e1 : fn_M_bad 52 (1 : Int32) (1 : Int32) (1 : Int32) (hp_s σ 52 0 0) = some ((1 : Int32), mbad (hp_s σ 52 0 0) 1 1) := mb_1 1 s0_0 (by decide) (by decide)
  rw [bI_if, e0, e1, e_b2, e_b2, if_pos rfl, if_neg (show ¬ (1 : Int32) = 0 from by decide)]
  cases c with
  | true => rw [if_pos rfl, if_pos rfl]; exact h rfl
  | false => rw [if_neg (by decide), if_neg (by decide)]; exact mq_2 rfl
theorem mb_c {σ : hp_I} {c : Bool} {v : Int32} {q : Nat} {F : hp_I → Option (Int32 × hp_I)} (h : c = true → MQs σ (F (hp_s σ 52 0 0)) q v 2) :
    MQs σ (if bI c = 0 then (px_b2 (fn_M_bad 52 (1 : Int32) (2 : Int32) (1 : Int32) (hp_s σ 52 0 0)) fun z4 s5 => if z4 = 0 then F s5 else some ((0 : Int32), s5)) else (px_b2 (fn_M_bad 52 (0 : Int32) (2 : Int32) (1 : Int32) (hp_s σ 52 0 0)) fun z4 s5 => if z4 = 0 then F s5 else some ((0 : Int32), s5))) (if c = true then q else 2) v 2 := by
  have e0 : fn_M_bad 52 (0 : Int32) (2 : Int32) (1 : Int32) (hp_s σ 52 0 0) = some ((0 : Int32), hp_s σ 52 0 0) := mb_0 1 s0_0 (by decide) (by decide)
  have e1 : fn_M_bad 52 (1 : Int32) (2 : Int32) (1 : Int32) (hp_s σ 52 0 0) = some ((1 : Int32), mbad (hp_s σ 52 0 0) 2 1) := mb_1 1 s0_0 (by decide) (by decide)
  rw [bI_if, e0, e1, e_b2, e_b2, if_pos rfl, if_neg (show ¬ (1 : Int32) = 0 from by decide)]
  cases c with
  | true => rw [if_pos rfl, if_pos rfl]; exact h rfl
  | false => rw [if_neg (by decide), if_neg (by decide)]; exact mq_2 rfl
theorem hm_cnt {s : hp_I} {H : ab_H} (hm : HM s H) : s 56 0 = Int32.ofNat (hR H) ∧ s 56 1 = Int32.ofNat (hW H) ∧ s 56 2 = Int32.ofNat (hS H) ∧ s 56 3 = Int32.ofNat (hC H) := hm.1
theorem hm_0 {s : hp_I} {H : ab_H} (hm : HM s H) (ok : HOK H) : HM (hp_s s 52 0 0) H := hm.fr ok (hp_s_n (by decide)) (fun a ha => hp_s_n (by omega))
/-- is there such a thing -/
theorem mt_R {s : hp_I} {H : ab_H} (hm : HM s H) (ok : HOK H) {p : Int32} : fn_M_isThing 52 (0 : Int32) p (hp_s s 52 0 0) = some (bI (oneB p (hR H))) := md_thing' (k := 0) (hm_0 hm ok) (by decide) (by have := cnt_lt ok; omega) (hm_cnt (hm_0 hm ok)).1
theorem mt_W {s : hp_I} {H : ab_H} (hm : HM s H) (ok : HOK H) {p : Int32} : fn_M_isThing 52 (1 : Int32) p (hp_s s 52 0 0) = some (bI (oneB p (hW H))) := md_thing' (k := 1) (hm_0 hm ok) (by decide) (by have := cnt_lt ok; omega) (hm_cnt (hm_0 hm ok)).2.1
theorem mt_S {s : hp_I} {H : ab_H} (hm : HM s H) (ok : HOK H) {p : Int32} : fn_M_isThing 52 (2 : Int32) p (hp_s s 52 0 0) = some (bI (oneB p (hS H))) := md_thing' (k := 2) (hm_0 hm ok) (by decide) (by have := cnt_lt ok; omega) (hm_cnt (hm_0 hm ok)).2.2.1
theorem mt_C {s : hp_I} {H : ab_H} (hm : HM s H) (ok : HOK H) {p : Int32} : fn_M_isThing 52 (3 : Int32) p (hp_s s 52 0 0) = some (bI (oneB p (hC H))) := md_thing' (k := 3) (hm_0 hm ok) (by decide) (by have := cnt_lt ok; omega) (hm_cnt (hm_0 hm ok)).2.2.2
/-- asked with no refusal -/
theorem ask_n {σ : hp_I} {A : ab_A} {e : Option (Int32 × hp_I)} {v t2 : Int32} {u : hp_L} {j : hp_I → hp_L → Option Int32} (ok : AOK A) (cx : CX σ A) (cm : CM σ A) (tp : TP σ) (ct : CT σ) (hm : MQs σ e 0 v t2) :
    ∃ s3 u3, (px_b2 e fun b s => if v = b then j s u else some (0 : Int32)) = j s3 u3 ∧ REL s3 := by
  obtain ⟨v', s3, g1, g2, g3, -, -⟩ := hm
  obtain ⟨a1, a2, a3⟩ := g3 rfl
  refine ⟨s3, u, ?_, A, ok, cx.lo g2.lo, cm.m ok g2, tp_m tp g2, ?_⟩
  · rw [g1, e_b2, a1, if_pos rfl]
  · unfold CT
    rw [g2.2 32 (by decide), g2.lo 0 (by decide), a3]
    exact ct
theorem ask_n2 {σ s1 : hp_I} {A : ab_A} {m : hp_I → Option (Int32 × hp_I)} {v t2 : Int32} {u : hp_L} {j : hp_I → hp_L → Option Int32} (ok : AOK A) (cx : CX σ A) (cm : CM σ A) (tp : TP σ) (ct : CT σ) (hf : Fc SXQ σ s1) (hm : ∀ s, CM s A → MQs s (m s) 0 v t2) :
    ∃ s3 u3, (px_b2 (m s1) fun b s => if v = b then j s u else some (0 : Int32)) = j s3 u3 ∧ REL s3 :=
  have cm1 : CM s1 A := cm.hi ok (fun i hi => hf i (SXQ_hi hi))
  ask_n ok (cx.x hf) cm1 (tp_0 tp hf) (ct_0 ct hf) (hm s1 cm1)
def SL (L : Nat) (xs : Nat → Int32) (i : Int32) (y : Nat → Int32) : Prop := ∀ d : Nat, d < 8 → px_sld L xs (i + Int32.ofNat d) = some (y d)
section SLS
variable {L : Nat} {xs : Nat → Int32} {i : Int32} {y : Nat → Int32}
theorem sl_1 (h : SL L xs i y) : px_sld L xs (i + (1 : Int32)) = some (y 1) := h 1 (by decide)
theorem sl_2 (h : SL L xs i y) : px_sld L xs (i + (2 : Int32)) = some (y 2) := h 2 (by decide)
theorem sl_3 (h : SL L xs i y) : px_sld L xs (i + (3 : Int32)) = some (y 3) := h 3 (by decide)
theorem sl_4 (h : SL L xs i y) : px_sld L xs (i + (4 : Int32)) = some (y 4) := h 4 (by decide)
theorem sl_5 (h : SL L xs i y) : px_sld L xs (i + (5 : Int32)) = some (y 5) := h 5 (by decide)
theorem sl_6 (h : SL L xs i y) : px_sld L xs (i + (6 : Int32)) = some (y 6) := h 6 (by decide)
theorem sl_7 (h : SL L xs i y) : px_sld L xs (i + (7 : Int32)) = some (y 7) := h 7 (by decide)
end SLS
theorem mor {σ : hp_I} {c : Bool} {v t2 : Int32} {q qb : Nat} {J R : Option (Int32 × hp_I)} (h0 : MQs σ J qb v t2) (h : c = true → MQs σ R q v t2) : MQs σ (if bI c = 0 then J else R) (if c = true then q else qb) v t2 := by
  rw [bI_if]
  cases c with
  | true => rw [if_pos rfl, if_pos rfl]; exact h rfl
  | false => rw [if_neg (by decide), if_neg (by decide)]; exact h0
theorem mb_a0 {σ : hp_I} {v t2 : Int32} {q : Nat} {F : hp_I → Option (Int32 × hp_I)} (h : MQs σ (F (hp_s σ 52 0 0)) q v t2) : MQs σ (px_b2 (fn_M_bad 52 (0 : Int32) (1 : Int32) (0 : Int32) (hp_s σ 52 0 0)) fun z4 s5 => if z4 = 0 then F s5 else some ((0 : Int32), s5)) q v t2 := by
  have e0 : fn_M_bad 52 (0 : Int32) (1 : Int32) (0 : Int32) (hp_s σ 52 0 0) = some ((0 : Int32), hp_s σ 52 0 0) := mb_0 0 s0_0 (by decide) (by decide)
  rw [e0, e_b2, if_pos rfl]; exact h
theorem mb_a1 {σ : hp_I} {v t2 : Int32} {F : hp_I → Option (Int32 × hp_I)} : MQs σ (px_b2 (fn_M_bad 52 (1 : Int32) (1 : Int32) (0 : Int32) (hp_s σ 52 0 0)) fun z4 s5 => if z4 = 0 then F s5 else some ((0 : Int32), s5)) 1 v t2 := by
  have e1 : fn_M_bad 52 (1 : Int32) (1 : Int32) (0 : Int32) (hp_s σ 52 0 0) = some ((1 : Int32), mbad (hp_s σ 52 0 0) 1 0) := mb_1 0 s0_0 (by decide) (by decide)
  rw [e1, e_b2, if_neg (show ¬ (1 : Int32) = 0 from by decide)]; exact mq_1 rfl
theorem mb_b0 {σ : hp_I} {v t2 : Int32} {q : Nat} {F : hp_I → Option (Int32 × hp_I)} (h : MQs σ (F (hp_s σ 52 0 0)) q v t2) : MQs σ (px_b2 (fn_M_bad 52 (0 : Int32) (1 : Int32) (1 : Int32) (hp_s σ 52 0 0)) fun z4 s5 => if z4 = 0 then F s5 else some ((0 : Int32), s5)) q v t2 := by
  have e0 : fn_M_bad 52 (0 : Int32) (1 : Int32) (1 : Int32) (hp_s σ 52 0 0) = some ((0 : Int32), hp_s σ 52 0 0) := mb_0 1 s0_0 (by decide) (by decide)
  rw [e0, e_b2, if_pos rfl]; exact h
theorem mb_b1 {σ : hp_I} {v : Int32} {F : hp_I → Option (Int32 × hp_I)} : MQs σ (px_b2 (fn_M_bad 52 (1 : Int32) (1 : Int32) (1 : Int32) (hp_s σ 52 0 0)) fun z4 s5 => if z4 = 0 then F s5 else some ((0 : Int32), s5)) 2 v 1 := by
  have e1 : fn_M_bad 52 (1 : Int32) (1 : Int32) (1 : Int32) (hp_s σ 52 0 0) = some ((1 : Int32), mbad (hp_s σ 52 0 0) 1 1) := mb_1 1 s0_0 (by decide) (by decide)
  rw [e1, e_b2, if_neg (show ¬ (1 : Int32) = 0 from by decide)]; exact mq_2 rfl
theorem mb_c0 {σ : hp_I} {v t2 : Int32} {q : Nat} {F : hp_I → Option (Int32 × hp_I)} (h : MQs σ (F (hp_s σ 52 0 0)) q v t2) : MQs σ (px_b2 (fn_M_bad 52 (0 : Int32) (2 : Int32) (1 : Int32) (hp_s σ 52 0 0)) fun z4 s5 => if z4 = 0 then F s5 else some ((0 : Int32), s5)) q v t2 := by
  have e0 : fn_M_bad 52 (0 : Int32) (2 : Int32) (1 : Int32) (hp_s σ 52 0 0) = some ((0 : Int32), hp_s σ 52 0 0) := mb_0 1 s0_0 (by decide) (by decide)
  rw [e0, e_b2, if_pos rfl]; exact h
theorem mb_c1 {σ : hp_I} {v : Int32} {F : hp_I → Option (Int32 × hp_I)} : MQs σ (px_b2 (fn_M_bad 52 (1 : Int32) (2 : Int32) (1 : Int32) (hp_s σ 52 0 0)) fun z4 s5 => if z4 = 0 then F s5 else some ((0 : Int32), s5)) 2 v 2 := by
  have e1 : fn_M_bad 52 (1 : Int32) (2 : Int32) (1 : Int32) (hp_s σ 52 0 0) = some ((1 : Int32), mbad (hp_s σ 52 0 0) 2 1) := mb_1 1 s0_0 (by decide) (by decide)
  rw [e1, e_b2, if_neg (show ¬ (1 : Int32) = 0 from by decide)]; exact mq_2 rfl
theorem ite_g {α β : Type} (f : α → β) {c : Prop} [Decidable c] {x z : β} {y w : α} (h1 : c → x = f y) (h2 : ¬ c → z = f w) : (if c then x else z) = f (if c then y else w) := by
  by_cases h : c
  · rw [if_pos h, if_pos h]; exact h1 h
  · rw [if_neg h, if_neg h]; exact h2 h
abbrev rX (s : hp_I) (v : Int32) : Option (px_X (Int32 × hp_I)) := some (.inr (v, s))
abbrev rM (s : hp_I) (v : Int32) : Option (Int32 × hp_I) := some (v, s)

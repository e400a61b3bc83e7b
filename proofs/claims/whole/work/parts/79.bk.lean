/-! BOOK: class and model -/
theorem bf_483 (a : Nat) : sh_rf 483 a = 484 + a := by unfold sh_rf; rw [if_pos (by decide +kernel)]
theorem bn_483 : sh_ln 483 = 5 := by decide +kernel
theorem bn_484 : ∀ a, a < 5 → sh_ln (484 + a) = 2 := by decide +kernel
theorem bk_in_snoc (l : ab_B) (q : Nat × Int32) : bk_in (l ++ [q]) = bk_in l ||| bitI q.1 := by
  induction l with
  | nil => rfl
  | cons a t ih =>
    show bk_in (t ++ [q]) ||| bitI a.1 = (bk_in t ||| bitI a.1) ||| bitI q.1
    rw [ih, Int32.or_assoc, Int32.or_assoc, Int32.or_comm (bitI q.1)]
theorem bk_tk_snoc (l : ab_B) (q : Nat × Int32) : bk_tk (l ++ [q]) = bk_tk l ||| (q.2 <<< (Int32.ofNat q.1 &&& 31)) := by
  induction l with
  | nil => rfl
  | cons a t ih =>
    show bk_tk (t ++ [q]) ||| (a.2 <<< (Int32.ofNat a.1 &&& 31)) = (bk_tk t ||| (a.2 <<< (Int32.ofNat a.1 &&& 31))) ||| (q.2 <<< (Int32.ofNat q.1 &&& 31))
    rw [ih, Int32.or_assoc, Int32.or_assoc, Int32.or_comm (q.2 <<< (Int32.ofNat q.1 &&& 31))]
theorem in_prd {v n : Nat} (hv : v ≤ 100000) (hn : n < 100000) (h : inB (Int32.ofNat v) 0 (Int32.ofNat n - 1) = true) : v < n := by
  rw [inB_t] at h
  have h2 := ((le_pred (by omega)).mp h).2
  rw [zi_lt (by omega) (by omega)] at h2
  exact h2
theorem in_nat {v a b : Nat} (hv : v ≤ 100000) (ha : a < 100000) (hb : b < 100000) (h : inB (Int32.ofNat v) (Int32.ofNat a) (Int32.ofNat b) = true) : a ≤ v ∧ v ≤ b := by
  rw [inB_t, zi_le (by omega) (by omega), zi_le (by omega) (by omega)] at h
  exact h
def BKD (H : ab_H) (t : hp_I) (bk : ab_B) : Prop := BOK H bk ∧ ∀ i (h : i < bk.length), t (484 + i) 0 = Int32.ofNat bk[i].1 ∧ t (484 + i) 1 = bk[i].2
def bkP (i : Nat) : Prop := 484 ≤ i ∧ i < 489
def noJ (_ : Nat) : Prop := False
theorem BKD.fr {H : ab_H} {t t' : hp_I} {bk : ab_B} (ok : HOK H) (h : BKD H t bk) (e : ∀ i, bkP i → t' i = t i) : BKD H t' bk := by
  refine ⟨h.1, fun i hi => ?_⟩
  have := h.1.len ok
  rw [e (484 + i) (by unfold bkP; omega)]
  exact h.2 i hi
theorem MF.at {t t' : hp_I} {i : Nat} (h : MF t t') (hi : i ≠ 52) : t' i = t i := h.1 i hi
section BK
variable {X : tx} {s t : hp_I} {p q k : Nat} {pl : Int32}
theorem bk_xc (te : TE X) (h : XT X s p k pl) (ho : ovB X p k = true) {K : Int32 → Int32 → hp_I → Option hp_I} {fu : Nat} {a2 x3 x4 x5 : Int32} : fn_Book_read_L8 26 1 a2 K (fu + 1) x3 x4 x5 s = K x3 x4 s := by
  rw [fn_Book_read_L8, c_over te h, e_bd, ho, if_neg (show ¬ bI true = 0 from by decide)]
  split <;> rfl
theorem bk_xm (te : TE X) (h : MT X t q k pl) (ho : k ≠ 0 ∨ X.2 ≤ q) {M : Int32 → hp_I → Option (Int32 × hp_I)} {fv : Nat} {x2 x3 : Int32} : fn_M_book_L48 52 M (fv + 1) x2 x3 t = M x2 t := by
  have h6 := te.1
  have hq := h.2.1
  rw [fn_M_book_L48, h.1.2.2.1, h.1.2.1, h.1.1]
  by_cases c : k = 0
  · rw [if_pos ((k_0 h.2.2.1).mpr c), if_neg (zl_nlt (by omega) (by omega))]
  · rw [if_neg (fun e => c ((k_0 h.2.2.1).mp e))]
theorem ov_f (h : ¬ ovB X p k = true) : k = 0 ∧ p < X.2 := by
  unfold ovB at h
  simp at h
  exact h
theorem ov_t (h : ovB X p k = true) : k ≠ 0 ∨ X.2 ≤ p := by
  unfold ovB at h
  simp at h
  exact h
theorem b_book (te : TE X) (hX : X.2 ≤ 60) {H : ab_H} (ok : HOK H) (K : Int32 → Int32 → hp_I → Option hp_I) (M : Int32 → hp_I → Option (Int32 × hp_I)) : ∀ n s t p q k pl bk fu fv i, X.2 - p < n → n ≤ fu → n ≤ fv → i ≤ p → JT X s t p q k pl → (k = 0 → q = p) → BKD H t bk → t 56 3 = Int32.ofNat (hC H) → ∃ s' t' p' q' k' pl' bk', fn_Book_read_L8 26 1 (Int32.ofNat (hC H)) K fu (bk_in bk) (bk_tk bk) (Int32.ofNat i) s = K (bk_in bk') (bk_tk bk') s' ∧ fn_M_book_L48 52 M fv (Int32.ofNat bk.length) (bk_in bk) t = M (Int32.ofNat bk'.length) t' ∧ JT X s' t' p' q' k' pl' ∧ XF s s' ∧ MG bkP noJ t t' ∧ BKD H t' bk' := by
  have h6 := te.1
  intro n
  induction n with
  | zero => intro s t p q k pl bk fu fv i h; omega
  | succ n ih =>
    intro s t p q k pl bk fu fv i hn hfu hfv hi h hq bd h56
    obtain ⟨fu, rfl⟩ : ∃ f, fu = f + 1 := ⟨fu - 1, by omega⟩
    obtain ⟨fv, rfl⟩ : ∃ f, fv = f + 1 := ⟨fv - 1, by omega⟩
    by_cases ho : ovB X p k = true
    · refine ⟨s, t, p, q, k, pl, bk, bk_xc te h.1 ho, bk_xm te h.2.1 ?_, h, XF.refl, MG.refl, bd⟩
      rcases ov_t ho with e | e
      · exact Or.inl e
      · by_cases e2 : k = 0
        · right; rw [hq e2]; exact e
        · exact Or.inl e2
    · obtain ⟨k0, hp⟩ := ov_f ho
      have hfu2 : 1 ≤ fu := by omega
      have hfv2 : 1 ≤ fv := by omega
      have hC5 := ok.2.2.2.1
      have hlen := bd.1.len ok
      obtain ⟨t1, q1, m1, h1, f1, hq1⟩ := b_blanks te h
      obtain ⟨s2, t2, v, p2, q2, k2, pl2, n1, n2, h2, fx2, fm2, h26, hv, hk2, -⟩ := b_num te h1 0 (Int32.ofNat (hC H) - 1)
      obtain ⟨s3, t3, k3, pl3, d1, d2, h3, fx3, fm3, hk3, -⟩ := b_dup (P := ((bk_in bk >>> (Int32.ofNat v &&& 31)) &&& 1) = 1) (z := Int32.ofNat p) (x := bk_in bk) (v := if k2 = 0 then Int32.ofNat v else 0) h2 h26 (fun h0 => by rw [if_pos h0, ms_has]; rfl)
      obtain ⟨s4, t4, w, p4, q4, k4, pl4, n3, n4, h4, fx4, fm4, -, hw, hk4, -⟩ := b_num te h3 0 1
      obtain ⟨s5, t5, p5, q5, k5, pl5, g1, g2, h5, fx5, fm5, hk5, -⟩ := b_sign te h4 (c := 59) (by decide)
      have ov0 : ovB X p k = false := by simpa using ho
      have fx : XF s s5 := ((fx2.trans fx3).trans fx4).trans fx5
      have fm : MF t t5 := (((f1.trans fm2).trans fm3).trans fm4).trans fm5
      have bd5 : BKD H t5 bk := bd.fr ok (fun i hi => fm.at (by unfold bkP at hi; omega))
      have ec : fn_Book_read_L8 26 1 (Int32.ofNat (hC H)) K (fu + 1) (bk_in bk) (bk_tk bk) (Int32.ofNat i) s = (if bI (decide (k5 ≠ 0)) = 0 then fn_Book_read_L8 26 1 (Int32.ofNat (hC H)) K fu (bk_in bk ||| bitI v) (bk_tk bk ||| (Int32.ofNat w <<< (Int32.ofNat v &&& 31))) (Int32.ofNat (i + 1)) s5 else fn_Book_read_L8 26 1 (Int32.ofNat (hC H)) K fu (bk_in bk) (bk_tk bk) (Int32.ofNat (i + 1)) s5) := by
        rw [fn_Book_read_L8, if_pos (show Int32.ofNat i < 60 from zl_lt (b := 60) (by omega) (by decide)), c_over te h.1, e_bd, ov0, if_pos (show bI false = 0 from rfl), n1, e_b2, e_let, c_failed h2.1, e_bd, e_jn]
        refine (d1 _).trans ?_
        dsimp only
        rw [n3, e_b2, e_let, show fn_Tape_expect 1 (59 : Int32) s4 = some s5 from g1, e_bd, c_failed h5.1, e_bd, e_jn]
        simp only [e_let, zi_succ]
        rfl
      have em : fn_M_book_L48 52 M (fv + 1) (Int32.ofNat bk.length) (bk_in bk) t = (if k5 = 0 then Option.bind (fn_M_blanks 52 (hp_s (hp_s t5 (484 + bk.length) 0 (Int32.ofNat v)) (484 + bk.length) 1 (Int32.ofNat w))) (fun s27 => fn_M_book_L48 52 M fv (Int32.ofNat (bk.length + 1)) (bk_in bk ||| bitI v) s27) else Option.bind (fn_M_blanks 52 t5) (fun s27 => fn_M_book_L48 52 M fv (Int32.ofNat bk.length) (bk_in bk) s27)) := by
        rw [fn_M_book_L48, h.2.1.1.2.2.1, if_pos ((k_0 h.2.1.2.2.1).mpr k0), h.2.1.1.2.1, h.2.1.1.1, hq k0, if_pos (zl_lt hp (by omega)), m1, e_bd, e_let, h1.2.1.1.2.1, hq1 k0, sm_12, show px_ald t1 56 (3 : Int32) = some (Int32.ofNat (hC H)) from by rw [show px_ald t1 56 (3 : Int32) = some (t1 56 3) from zi_ald (a := 3) (by rw [sn_56]; decide) (by decide), f1.at (by decide), h56], e_bd, n2, e_b2, e_let, e_jn]
        refine (d2 _).trans ?_
        dsimp only
        rw [n4, e_b2, e_let, show fn_M_sign 52 (59 : Int32) t4 = some t5 from g2, e_bd, e_jn, h5.2.1.1.2.2.1]
        by_cases c5 : k5 = 0
        · have c4 := (hk5 c5).1
          have c3 := (hk4 c4).1
          have c2 := (hk3 c3).1
          have hvC := in_prd hv (by omega) (hk2 c2).2.1
          have hlt : bk.length < 5 := by
            have hnd : ((bk ++ [(v, (0 : Int32))]).map Prod.fst).Nodup := by
              rw [List.map_append]
              refine List.nodup_append.mpr ⟨bd.1.2, by simp, ?_⟩
              intro a ha b hb e
              have hb2 : b = v := by simpa using hb
              have hnp := (hk3 c3).2
              have hbh := bk_has bk v (by omega) (fun x hx => by have := (bd.1.1 x hx).1; omega)
              rw [e, hb2] at ha
              rw [decide_eq_true ha] at hbh
              exact hnp (of_decide_eq_true hbh)
            have hl2 := BOK.len ok (bk := bk ++ [(v, (0 : Int32))]) ⟨fun x hx => by
              rcases List.mem_append.mp hx with hx | hx
              · exact bd.1.1 x hx
              · have : x = (v, (0 : Int32)) := by simpa using hx
                rw [this]; exact ⟨hvC, Or.inl rfl⟩, hnd⟩
            rw [List.length_append] at hl2
            have : bk.length + 1 ≤ 5 := hl2
            omega
          rw [if_pos ((k_0 h5.2.1.2.2.1).mpr c5), if_pos c5, if_pos c2, if_pos c4]
          simp only [e_let]
          rw [sm_20, zi_rld (show bk.length < sh_ln 483 by rw [bn_483]; omega) (by omega), e_bd, bf_483, show ∀ (f : hp_I) (x : Int32), px_ast f (484 + bk.length) (0 : Int32) x = some (hp_s f (484 + bk.length) 0 x) from fun f x => zi_ast (a := 0) (by rw [bn_484 _ hlt]; decide) (by decide), e_bd, e_bd, show ∀ (f : hp_I) (x : Int32), px_ast f (484 + bk.length) (1 : Int32) x = some (hp_s f (484 + bk.length) 1 x) from fun f x => zi_ast (a := 1) (by rw [bn_484 _ hlt]; decide) (by decide), e_bd, zi_succ]
          rfl
        · rw [if_neg (fun e => c5 ((k_0 h5.2.1.2.2.1).mp e)), if_neg c5]
      by_cases c5 : k5 = 0
      · have c4 := (hk5 c5).1
        have c3 := (hk4 c4).1
        have c2 := (hk3 c3).1
        have hvC := in_prd hv (by omega) (hk2 c2).2.1
        have hw1 := in_nat (a := 0) (b := 1) hw (by decide) (by decide) (hk4 c4).2.1
        have hnm : v ∉ bk.map Prod.fst := by
          intro ha
          have hbh := bk_has bk v (by omega) (fun x hx => by have := (bd.1.1 x hx).1; omega)
          rw [decide_eq_true ha] at hbh
          exact (hk3 c3).2 (of_decide_eq_true hbh)
        have bo : BOK H (bk ++ [(v, Int32.ofNat w)]) := by
          refine ⟨fun x hx => ?_, ?_⟩
          · rcases List.mem_append.mp hx with hx | hx
            · exact bd.1.1 x hx
            · have : x = (v, Int32.ofNat w) := by simpa using hx
              rw [this]
              refine ⟨hvC, ?_⟩
              have : w = 0 ∨ w = 1 := by omega
              rcases this with rfl | rfl
              · exact Or.inl rfl
              · exact Or.inr rfl
          · rw [List.map_append]
            refine List.nodup_append.mpr ⟨bd.1.2, by simp, ?_⟩
            intro a ha b hb e
            have hb2 : b = v := by simpa using hb
            rw [e, hb2] at ha
            exact hnm ha
        have hl2 := bo.len ok
        rw [List.length_append] at hl2
        have hlt : bk.length + 1 ≤ 5 := hl2
        generalize ht6 : hp_s (hp_s t5 (484 + bk.length) 0 (Int32.ofNat v)) (484 + bk.length) 1 (Int32.ofNat w) = t6 at em
        have g6 : MG bkP noJ t5 t6 := by rw [← ht6]; exact (MG.put (by unfold bkP; omega) (by omega)).trans (MG.put (by unfold bkP; omega) (by omega))
        have h6b : JT X s5 t6 p5 q5 k5 pl5 := by rw [← ht6]; exact ⟨h5.1, (h5.2.1.put (by omega) (by omega)).put (by omega) (by omega), h5.2.2⟩
        have bd6 : BKD H t6 (bk ++ [(v, Int32.ofNat w)]) := by
          refine ⟨bo, fun i hi => ?_⟩
          rw [List.length_append] at hi
          have hi2 : i < bk.length + 1 := hi
          by_cases e : i < bk.length
          · rw [List.getElem_append_left e, ← ht6, hp_s_n (by omega), hp_s_n (by omega)]
            exact bd5.2 i e
          · have e2 : i = bk.length := by omega
            subst e2
            rw [List.getElem_append_right (by omega), ← ht6, hp_s_i]
            simp only [Nat.sub_self, List.getElem_singleton]
            rw [upd_n (by decide), hp_s_i, upd_i, upd_i]
            exact ⟨rfl, rfl⟩
        obtain ⟨t7, q7, m7, h7, f7, hq7⟩ := b_blanks te h6b
        obtain ⟨s', t', p', q', k', pl', bk', z1, z2, z3, z4, z5, z6⟩ := ih s5 t7 p5 q7 k5 pl5 (bk ++ [(v, Int32.ofNat w)]) fu fv (i + 1) (by have := (hk2 c2).2.2; have := (hk4 c4).2.2; have := (hk5 c5).2; have := h5.le; omega) (by omega) (by omega) (by have := (hk2 c2).2.2; have := (hk4 c4).2.2; have := (hk5 c5).2; omega) h7 hq7 (bd6.fr ok (fun i hi => f7.at (by unfold bkP at hi; omega))) (by rw [f7.at (by decide), ← ht6, hp_s_n (by omega), hp_s_n (by omega), fm.at (by decide)]; exact h56)
        refine ⟨s', t', p', q', k', pl', bk', ?_, ?_, z3, fx.trans z4, (((fm.g).trans g6).trans f7.g).trans z5, z6⟩
        · rw [ec, if_pos (by rw [c5]; rfl), ← z1, bk_in_snoc, bk_tk_snoc]
        · rw [em, if_pos c5, m7, e_bd, ← z2, bk_in_snoc, List.length_append]
          rfl
      · obtain ⟨t7, q7, m7, h7, f7, hq7⟩ := b_blanks te h5
        have ov5 : ovB X p5 k5 = true := by unfold ovB; rw [decide_eq_true (show k5 ≠ 0 from c5)]; rfl
        obtain ⟨fu, rfl⟩ : ∃ f, fu = f + 1 := ⟨fu - 1, by omega⟩
        obtain ⟨fv, rfl⟩ : ∃ f, fv = f + 1 := ⟨fv - 1, by omega⟩
        refine ⟨s5, t7, p5, q7, k5, pl5, bk, ?_, ?_, h7, fx, fm.g.trans f7.g, bd5.fr ok (fun i hi => f7.at (by unfold bkP at hi; omega))⟩
        · rw [ec, decide_eq_true (show k5 ≠ 0 from c5), if_neg (show ¬ bI true = 0 from by decide)]
          exact bk_xc te h5.1 ov5
        · rw [em, if_neg c5, m7, e_bd]
          exact bk_xm te h7.2.1 (Or.inl c5)
end BK

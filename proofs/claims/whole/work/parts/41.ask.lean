/-! one call of the law: the class asked, the model asked, the answers held against each other -/
theorem sn_601 : sh_ln 601 = 1 := by decide +kernel
theorem tau_st (τ : hp_L) (v : Int64) : px_lst τ 601 0 v = some (hp_t τ 601 0 v) := by
  unfold px_lst
  rw [show px_in 0 (sh_ln 601) = true by rw [sn_601]; decide, if_pos rfl]
  rfl
theorem tau_ld (τ : hp_L) (v : Int64) : px_lld (hp_t τ 601 0 v) 601 0 = some v := by
  unfold px_lld
  rw [show px_in 0 (sh_ln 601) = true by rw [sn_601]; decide, if_pos rfl]
  show some (hp_t τ 601 0 v 601 0) = some v
  rw [hp_t_i]
  simp [vp_updL]
theorem cmp_self (v : Int64) : lg_cmp v v = 0 := by
  unfold lg_cmp
  simp
theorem e_b3 {ρ : Type} {x : Int32} {s : hp_I} {u : hp_L} {f : Int32 → hp_I → hp_L → Option ρ} : px_b3 (some (x, s, u)) f = f x s u := Eq.trans rfl rfl
theorem e_c0r {α ρ : Type} {a : α} {h : hp_I → Option ρ} {f : α → Option ρ} : px_c0 (some (.inr a)) h f = f a := Eq.trans rfl rfl
theorem e_c1r {α ρ : Type} {a : α} {h : hp_I → Option ρ} {f : α → Option ρ} : px_c1 (some (.inr a)) h f = f a := Eq.trans rfl rfl
theorem e_c2r {α ρ : Type} {a : α} {h g : hp_I → Option ρ} {f : α → Option ρ} : px_c2 (some (.inr a)) h g f = f a := Eq.trans rfl rfl
theorem e_c0l {α ρ : Type} {s : hp_I} {h : hp_I → Option ρ} {f : α → Option ρ} : px_c0 (some (.inl (0, s))) h f = h s := Eq.trans rfl rfl
theorem e_c1l {α ρ : Type} {s : hp_I} {h : hp_I → Option ρ} {f : α → Option ρ} : px_c1 (some (.inl (1, s))) h f = h s := Eq.trans rfl rfl
theorem e_c2l {α ρ : Type} {s : hp_I} {h g : hp_I → Option ρ} {f : α → Option ρ} : px_c2 (some (.inl (0, s))) h g f = h s := Eq.trans rfl rfl
theorem e_c2m {α ρ : Type} {s : hp_I} {h g : hp_I → Option ρ} {f : α → Option ρ} : px_c2 (some (.inl (1, s))) h g f = g s := Eq.trans rfl rfl
/-- what the law does behind both answers -/
def ltail (k : Int32) (b : Int32) (s : hp_I) (u : hp_L) (j : hp_I → hp_L → Option Int32) : Option Int32 :=
  Option.bind (fn_M_thrown 52 s) fun t => if t = k then (if k = 0 then (Option.bind (px_lld u 601 (0 : Int32)) fun z => if (lg_cmp z b.toInt64) = 0 then j s u else some (0 : Int32)) else j s u) else some (0 : Int32)
theorem ct_0 {σ σ' : hp_I} (h : CT σ) (f : Fc SXQ σ σ') : CT σ' := by
  unfold CT
  rw [f 52 (SXQ_hi (by decide)), f 54 (SXQ_hi (by decide)), f 0 (by decide)]
  exact h
theorem tp_0 {σ σ' : hp_I} (h : TP σ) (f : Fc SXQ σ σ') : TP σ' := by
  unfold TP
  rw [f 52 (SXQ_hi (by decide)), f 53 (SXQ_hi (by decide)), f 1 (by decide), f 2 (by decide)]
  exact ⟨h.1, h.2.1, h.2.2.fr (f 42 (by decide)) (f 43 (by decide))⟩
theorem tp_m {σ σ' : hp_I} (h : TP σ) (f : FM σ σ') : TP σ' := by
  unfold TP
  rw [f.2 1 (by decide), f.2 3 (by decide), f.1 53 (by decide), f.1 1 (by decide), f.1 2 (by decide)]
  exact ⟨h.1, h.2.1, h.2.2.fr (f.1 42 (by decide)) (f.1 43 (by decide))⟩
/-- behind an answer, or a refusal, of either kind -/
theorem ask_end {σ s1 : hp_I} {A : ab_A} {q : Nat} {v t2 : Int32} {m : hp_I → Option (Int32 × hp_I)} {k : Int32} {u : hp_L} {j : hp_I → hp_L → Option Int32}
    (ok : AOK A) (cx : CX σ A) (cm : CM σ A) (tp : TP σ) (ct : CT σ) (hm : ∀ s, CM s A → s 52 32 = σ 52 32 → MQs s (m s) q v t2)
    (h : (q = 0 ∧ Fc SXQ σ s1 ∧ k = 0 ∧ px_lld u 601 0 = some v.toInt64) ∨ (q = 1 ∧ s1 = hp_s σ 0 14 (σ 0 14 + 1) ∧ k = 1) ∨ (q = 2 ∧ s1 = hp_s σ 0 15 (σ 0 15 + 1) ∧ k = t2 ∧ t2 ≠ 0)) :
    ∃ s3, (px_b2 (m s1) fun b s => ltail k b s u j) = j s3 u ∧ REL s3 := by
  have hhi : ∀ i, 52 ≤ i → s1 i = σ i := by
    rcases h with h | h | h
    · exact fun i hi => h.2.1 i (SXQ_hi hi)
    · exact fun i hi => by rw [h.2.1]; exact hp_s_n (by omega)
    · exact fun i hi => by rw [h.2.1]; exact hp_s_n (by omega)
  have cm1 : CM s1 A := cm.hi ok hhi
  have cx1 : CX s1 A := by
    rcases h with h | h | h
    · exact cx.x h.2.1
    · rw [h.2.1]; exact cx.fr (fun i hi => hp_s_n (fun e0 => by rw [e0] at hi; exact absurd hi (by decide)))
    · rw [h.2.1]; exact cx.fr (fun i hi => hp_s_n (fun e0 => by rw [e0] at hi; exact absurd hi (by decide)))
  have tp1 : TP s1 := by
    rcases h with h | h | h
    · exact tp_0 tp h.2.1
    · rw [h.2.1]; exact tp
    · rw [h.2.1]; exact tp
  obtain ⟨v', s3, g1, g2, g3, g4, g5⟩ := hm s1 cm1 (congrFun (hhi 52 (by decide)) 32)
  refine ⟨s3, ?_, A, ok, cx1.lo g2.lo, cm1.m ok g2, tp_m tp1 g2, ?_⟩
  · rw [g1, e_b2]
    unfold ltail fn_M_thrown
    rw [e_bd]
    rcases h with ⟨h1, h2, h3, h4⟩ | ⟨h1, h2, h3⟩ | ⟨h1, h2, h3, h4⟩
    · obtain ⟨a1, a2, -⟩ := g3 h1
      rw [a2, h3, if_pos rfl, if_pos rfl, h4, e_bd, a1, cmp_self, if_pos rfl]
    · obtain ⟨a1, -, -⟩ := g4 h1
      rw [a1, h3, if_pos rfl, if_neg (by decide)]
    · obtain ⟨a1, -, -⟩ := g5 h1
      rw [a1, h3, if_pos rfl, if_neg h4]
  · unfold CT
    rw [g2.2 32 (by decide), g2.lo 0 (by decide)]
    rcases h with ⟨h1, h2, h3, h4⟩ | ⟨h1, h2, h3⟩ | ⟨h1, h2, h3, h4⟩
    · obtain ⟨-, -, a3⟩ := g3 h1
      rw [a3]
      exact ct_0 ct h2
    · obtain ⟨-, a2, a3⟩ := g4 h1
      rw [a2, a3, h2, hp_s_n (show 52 ≠ 0 by decide), hp_s_n (show 54 ≠ 0 by decide), hp_s_i, upd_n (by decide), upd_i, upd_n (by decide)]
      exact ⟨ct.1, by rw [ct.2.1], ct.2.2⟩
    · obtain ⟨-, a2, a3⟩ := g5 h1
      rw [a2, a3, h2, hp_s_n (show 52 ≠ 0 by decide), hp_s_n (show 54 ≠ 0 by decide), hp_s_i, upd_n (by decide), upd_n (by decide), upd_i]
      exact ⟨ct.1, ct.2.1, by rw [ct.2.2]⟩
section ASK
variable {σ : hp_I} {A : ab_A} {e : Option (px_X (Int32 × hp_I))} {q : Nat} {v : Int32} {m : hp_I → Option (Int32 × hp_I)} {τ : hp_L} {j : hp_I → hp_L → Option Int32}
theorem ask_1 (ok : AOK A) (cx : CX σ A) (cm : CM σ A) (tp : TP σ) (ct : CT σ) (hx : XQ σ e q v) (hq : q ≠ 1) (hm : ∀ s, CM s A → s 52 32 = σ 52 32 → MQs s (m s) q v 1) :
    ∃ s3 u3, (px_b3 (px_c1 e (fun s => some ((1 : Int32), s, τ)) (fun a => Option.bind (px_lst τ 601 (0 : Int32) a.1.toInt64) fun u2 => some ((0 : Int32), a.2, u2))) fun k s1 u => px_b2 (m s1) fun b s => ltail k b s u j) = j s3 u3 ∧ REL s3 := by
  rcases hx with ⟨rfl, s1, he, hf⟩ | ⟨rfl, he⟩ | ⟨rfl, he⟩
  · obtain ⟨s3, h1, h2⟩ := ask_end (u := hp_t τ 601 0 v.toInt64) (k := 0) (j := j) ok cx cm tp ct hm (Or.inl ⟨rfl, hf, rfl, tau_ld τ _⟩)
    refine ⟨s3, hp_t τ 601 0 v.toInt64, ?_, h2⟩
    rw [he, ← h1, e_c1r, tau_st, e_bd, e_b3]
  · exact absurd rfl hq
  · obtain ⟨s3, h1, h2⟩ := ask_end (u := τ) (k := 1) (j := j) ok cx cm tp ct hm (Or.inr (Or.inr ⟨rfl, rfl, rfl, by decide⟩))
    refine ⟨s3, τ, ?_, h2⟩
    rw [he, ← h1, e_c1l, e_b3]
theorem ask_0 (ok : AOK A) (cx : CX σ A) (cm : CM σ A) (tp : TP σ) (ct : CT σ) (hx : XQ σ e q v) (hq : q ≠ 2) (hm : ∀ s, CM s A → s 52 32 = σ 52 32 → MQs s (m s) q v 1) :
    ∃ s3 u3, (px_b3 (px_c0 e (fun s => some ((1 : Int32), s, τ)) (fun a => Option.bind (px_lst τ 601 (0 : Int32) a.1.toInt64) fun u2 => some ((0 : Int32), a.2, u2))) fun k s1 u => px_b2 (m s1) fun b s => ltail k b s u j) = j s3 u3 ∧ REL s3 := by
  rcases hx with ⟨rfl, s1, he, hf⟩ | ⟨rfl, he⟩ | ⟨rfl, he⟩
  · obtain ⟨s3, h1, h2⟩ := ask_end (u := hp_t τ 601 0 v.toInt64) (k := 0) (j := j) ok cx cm tp ct hm (Or.inl ⟨rfl, hf, rfl, tau_ld τ _⟩)
    refine ⟨s3, hp_t τ 601 0 v.toInt64, ?_, h2⟩
    rw [he, ← h1, e_c0r, tau_st, e_bd, e_b3]
  · obtain ⟨s3, h1, h2⟩ := ask_end (u := τ) (k := 1) (j := j) ok cx cm tp ct hm (Or.inr (Or.inl ⟨rfl, rfl, rfl⟩))
    refine ⟨s3, τ, ?_, h2⟩
    rw [he, ← h1, e_c0l, e_b3]
  · exact absurd rfl hq
theorem ask_2 (ok : AOK A) (cx : CX σ A) (cm : CM σ A) (tp : TP σ) (ct : CT σ) (hx : XQ σ e q v) (hm : ∀ s, CM s A → s 52 32 = σ 52 32 → MQs s (m s) q v 2) :
    ∃ s3 u3, (px_b3 (px_c2 e (fun s => some ((1 : Int32), s, τ)) (fun s => some ((2 : Int32), s, τ)) (fun a => Option.bind (px_lst τ 601 (0 : Int32) a.1.toInt64) fun u2 => some ((0 : Int32), a.2, u2))) fun k s1 u => px_b2 (m s1) fun b s => ltail k b s u j) = j s3 u3 ∧ REL s3 := by
  rcases hx with ⟨rfl, s1, he, hf⟩ | ⟨rfl, he⟩ | ⟨rfl, he⟩
  · obtain ⟨s3, h1, h2⟩ := ask_end (u := hp_t τ 601 0 v.toInt64) (k := 0) (j := j) ok cx cm tp ct hm (Or.inl ⟨rfl, hf, rfl, tau_ld τ _⟩)
    refine ⟨s3, hp_t τ 601 0 v.toInt64, ?_, h2⟩
    rw [he, ← h1, e_c2r, tau_st, e_bd, e_b3]
  · obtain ⟨s3, h1, h2⟩ := ask_end (u := τ) (k := 1) (j := j) ok cx cm tp ct hm (Or.inr (Or.inl ⟨rfl, rfl, rfl⟩))
    refine ⟨s3, τ, ?_, h2⟩
    rw [he, ← h1, e_c2l, e_b3]
  · obtain ⟨s3, h1, h2⟩ := ask_end (u := τ) (k := 2) (j := j) ok cx cm tp ct hm (Or.inr (Or.inr ⟨rfl, rfl, rfl, by decide⟩))
    refine ⟨s3, τ, ?_, h2⟩
    rw [he, ← h1, e_c2m, e_b3]
end ASK

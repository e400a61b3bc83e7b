/-! SEASONS, SPANS -/
def sea1 (H : ab_H) (a : ab_R × Int32) : ab_R × Int32 := if 0 < hS H then (if hasB (a.1 1) (sd_d (sd_n a.2) (hS H)) = true then sp_hide H 5 (sd_d (sd_n a.2) (hS H)) (sd_d (sd_n (sd_n a.2)) (hR H)) a.1 else a.1, sd_n (sd_n a.2)) else a
def sea2 (H : ab_H) (q : Int32) (a : ab_R × Int32) : ab_R × Int32 := if 0 < hC H then (if Int32.ofNat (sd_d (sd_n a.2) 16) < q then (sp_hide H 37 (sd_d (sd_n (sd_n a.2)) (hC H)) (sd_d (sd_n (sd_n (sd_n a.2))) (hR H)) a.1, sd_n (sd_n (sd_n a.2))) else (a.1, sd_n a.2)) else a
def seaN (A : ab_A) (q : Int32) (_ : Nat) (a : ab_R × Int32) : ab_R × Int32 := (sp_night (aH A) (aL A) (sea2 (aH A) q (sea1 (aH A) a)).1, (sea2 (aH A) q (sea1 (aH A) a)).2)
def sp_sea (A : ab_A) (n : Nat) (q x : Int32) : ab_R := (zF (seaN A q) n 0 (aR A, x)).1
def TXS (A : ab_A) (σ s : hp_I) (a : ab_R × Int32) : Prop := TX A σ s a.1 ∧ s 51 1 = a.2
def TMS (A : ab_A) (σ s : hp_I) (a : ab_R × Int32) : Prop := TM A 573 σ s a.1 ∧ s 52 44 = a.2
theorem hok_R {H : ab_H} (ok : HOK H) (h : 0 < hS H ∨ 0 < hC H) : 0 < hR H := by
  rcases h with h | h
  · obtain ⟨k, hk, -⟩ := (ok.2.2.2.2.2.2.1 0 h).1
    omega
  · obtain ⟨k, hk, -⟩ := (ok.2.2.2.2.2.2.2 0 h).1
    omega
section SEB
variable {σ s : hp_I} {A : ab_A} {a : ab_R × Int32}
theorem TX.sd {ρ : ab_R} {v : Int32} (h : TX A σ s ρ) : TXS A σ (hp_s s 51 1 v) (ρ, v) := ⟨⟨h.1.trans (Fc.put (by decide)), h.2.1.fr (hp_s_n (by decide)), h.2.2⟩, by rw [hp_s_i, upd_i]⟩
theorem TX.row {s' : hp_I} {ρ ρ' : ab_R} (h : TX A σ s ρ) (rx : RX s' 36 (aH A) ρ') (f : Fc [36] s s') (ro : ROK (aH A) ρ') : TX A σ s' ρ' := ⟨h.1.trans (fc_x f (by decide)), rx, ro⟩
theorem xs_sea1 {β : Type} (J : hp_I → Option β) (ok : AOK A) (cx : CX σ A) (h : TXS A σ s a) : ∃ s', (if 0 < s 3 2 then px_b2 (fn_Season_draw 51 (s 3 2) s) (fun z s1 => px_b2 (fn_Season_draw 51 (s1 3 0) s1) fun z' s2 => px_b2 (fn_State_hideScheme 35 z z' s2) fun _ s3 => J s3) else J s) = J s' ∧ TXS A σ s' (sea1 (aH A) a) := by
  have c1 := h.1.cx cx
  have hc := cnt_lt ok.1
  rw [hx_S c1.1]
  unfold sea1
  by_cases h0 : 0 < hS (aH A)
  · have hr := hok_R ok.1 (Or.inl h0)
    rw [if_pos (show (0 : Int32) < Int32.ofNat (hS (aH A)) from zl_lt (a := 0) h0 (by omega)), if_pos h0, xs_draw h0 (by omega), h.2, e_b2]
    have t1 := h.1.sd (v := sd_n a.2)
    have c2 := t1.1.cx cx
    have v1 : hp_s s 51 1 (sd_n a.2) 51 1 = sd_n a.2 := t1.2
    rw [hx_R c2.1, xs_draw hr (by omega), v1, e_b2]
    have t2 := t1.1.sd (v := sd_n (sd_n a.2))
    have c3 := t2.1.cx cx
    have r2 : RX (hp_s (hp_s s 51 1 (sd_n a.2)) 51 1 (sd_n (sd_n a.2))) 36 (aH A) a.1 := t2.1.2.1
    obtain ⟨v, s', g1, -, g2, g3⟩ := xs_hide so_35 c3.1 r2 ok.1 (t := sd_d (sd_n a.2) (hS (aH A))) (q := sd_d (sd_n (sd_n a.2)) (hR (aH A))) (sd_lt _ h0)
    rw [g1, e_b2]
    refine ⟨s', rfl, t2.1.row g2 g3 ?_, ?_⟩
    · split
      · exact rok_hide ok.1 h.1.2.2 (sd_lt _ h0) (sd_lt _ hr)
      · exact h.1.2.2
    · rw [g3 51 (by decide)]
      exact t2.2
  · rw [if_neg (show ¬ (0 : Int32) < Int32.ofNat (hS (aH A)) from zl_nlt (a := 0) (by omega) (by decide)), if_neg h0]
    exact ⟨s, rfl, h⟩
theorem xs_sea2 {β : Type} (J : hp_I → Option β) (q : Int32) (ok : AOK A) (cx : CX σ A) (h : TXS A σ s a) : ∃ s', (if 0 < s 3 3 then px_b2 (fn_Season_draw 51 (16 : Int32) s) (fun z s1 => if z < q then px_b2 (fn_Season_draw 51 (s1 3 3) s1) (fun z' s2 => px_b2 (fn_Season_draw 51 (s2 3 0) s2) fun z'' s3 => px_b2 (fn_State_callCat 35 z' z'' s3) fun _ s4 => J s4) else J s1) else J s) = J s' ∧ TXS A σ s' (sea2 (aH A) q a) := by
  have c1 := h.1.cx cx
  have hc := cnt_lt ok.1
  rw [hx_C c1.1]
  unfold sea2
  by_cases h0 : 0 < hC (aH A)
  · have hr := hok_R ok.1 (Or.inr h0)
    rw [if_pos (show (0 : Int32) < Int32.ofNat (hC (aH A)) from zl_lt (a := 0) h0 (by omega)), if_pos h0, show fn_Season_draw 51 (16 : Int32) s = _ from xs_draw (n := 16) (by decide) (by decide), h.2, e_b2]
    have t1 := h.1.sd (v := sd_n a.2)
    have c2 := t1.1.cx cx
    have v1 : hp_s s 51 1 (sd_n a.2) 51 1 = sd_n a.2 := t1.2
    by_cases h1 : Int32.ofNat (sd_d (sd_n a.2) 16) < q
    · rw [if_pos h1, if_pos h1, hx_C c2.1, xs_draw h0 (by omega), v1, e_b2]
      have t2 := t1.1.sd (v := sd_n (sd_n a.2))
      have c3 := t2.1.cx cx
      have v2 : hp_s (hp_s s 51 1 (sd_n a.2)) 51 1 (sd_n (sd_n a.2)) 51 1 = sd_n (sd_n a.2) := t2.2
      rw [hx_R c3.1, xs_draw hr (by omega), v2, e_b2]
      have t3 := t2.1.sd (v := sd_n (sd_n (sd_n a.2)))
      have c4 := t3.1.cx cx
      have r3 : RX (hp_s (hp_s (hp_s s 51 1 (sd_n a.2)) 51 1 (sd_n (sd_n a.2))) 51 1 (sd_n (sd_n (sd_n a.2)))) 36 (aH A) a.1 := t3.1.2.1
      obtain ⟨v, s', g1, -, g2, g3⟩ := xs_call so_35 c4.1 r3 ok.1 (t := sd_d (sd_n (sd_n a.2)) (hC (aH A))) (q := sd_d (sd_n (sd_n (sd_n a.2))) (hR (aH A))) (sd_lt _ h0)
      rw [g1, e_b2]
      refine ⟨s', rfl, t3.1.row g2 g3 (rok_call ok.1 h.1.2.2 (sd_lt _ h0) (sd_lt _ hr)), ?_⟩
      rw [g3 51 (by decide)]
      exact t3.2
    · rw [if_neg h1, if_neg h1]
      exact ⟨_, rfl, t1⟩
  · rw [if_neg (show ¬ (0 : Int32) < Int32.ofNat (hC (aH A)) from zl_nlt (a := 0) (by omega) (by decide)), if_neg h0]
    exact ⟨s, rfl, h⟩
theorem xs_play (ok : AOK A) (cx : CX σ A) (x q : Int32) {n : Nat} (hn : n < 100) {ρ : ab_R} (h : TX A σ s ρ) : ∃ s', fn_Season_play 51 35 x (Int32.ofNat n) q s = some s' ∧ TXS A σ s' (zF (seaN A q) n 0 (ρ, x)) := by
  unfold fn_Season_play
  rw [e_let, e_let]
  refine zL_R0 (L := fun fu s i => fn_Season_play_L8 51 35 (Int32.ofNat n) q (fun s => some s) fu i s) (k := fun s => some s) (N := n) (seaN A q) (fun i s a => TXS A σ s a) (by omega) (fun fu s u h => ?_) (fun fu i s a hi h => ?_) (hp_s s 51 1 x) (ρ, x) h.sd
  · try dsimp only
    rw [fn_Season_play_L8, if_neg Int32.lt_irrefl]
  · try dsimp only
    rw [fn_Season_play_L8, if_pos (zl_lt hi (by omega))]
    simp only [xf12_0, e_jn, e_let, zi_succ]
    obtain ⟨s1, e1, t1⟩ := xs_sea1 (fun s3 => if 0 < s3 3 3 then px_b2 (fn_Season_draw 51 (16 : Int32) s3) (fun z s1 => if z < q then px_b2 (fn_Season_draw 51 (s1 3 3) s1) (fun z' s2 => px_b2 (fn_Season_draw 51 (s2 3 0) s2) fun z'' s3 => px_b2 (fn_State_callCat 35 z' z'' s3) fun _ s4 => px_b2 (fn_State_passNight 35 s4) fun z5 s6 => fn_Season_play_L8 51 35 (Int32.ofNat n) q (fun s => some s) fu (Int32.ofNat (i + 1)) s6) else px_b2 (fn_State_passNight 35 s1) fun z5 s6 => fn_Season_play_L8 51 35 (Int32.ofNat n) q (fun s => some s) fu (Int32.ofNat (i + 1)) s6) else px_b2 (fn_State_passNight 35 s3) fun z5 s6 => fn_Season_play_L8 51 35 (Int32.ofNat n) q (fun s => some s) fu (Int32.ofNat (i + 1)) s6) ok cx h
    obtain ⟨s2, e2, t2⟩ := xs_sea2 (fun s4 => px_b2 (fn_State_passNight 35 s4) fun z5 s6 => fn_Season_play_L8 51 35 (Int32.ofNat n) q (fun s => some s) fu (Int32.ofNat (i + 1)) s6) q ok cx t1
    obtain ⟨s3, g1, g2, -, g3⟩ := tx_night ok cx t2.1
    refine ⟨s3, ?_, g2, ?_⟩
    · rw [e1, e2, g1, e_b2]
    · rw [g3 51 (by decide)]
      exact t2.2
end SEB

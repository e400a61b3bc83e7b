/-! HUNT: the model -/
theorem hn_598 : sh_ln 598 = 5 := by decide +kernel
theorem hn_599 : sh_ln 599 = 5 := by decide +kernel
def BS (A : ab_A) (s : hp_I) (B : Option ht) : Prop := match B with
  | none => s 52 41 = -1
  | some y => s 52 41 = Int32.ofNat y.1 ∧ s 52 42 = Int32.ofNat y.2.1 ∧ ∀ k, k < hC (aH A) → s 599 k = y.2.2 k
theorem BS.fr {A : ab_A} {s s' : hp_I} {B : Option ht} (h : BS A s B) (e1 : s' 52 = s 52) (e2 : s' 599 = s 599) : BS A s' B := by
  cases B with
  | none => show s' 52 41 = -1; rw [e1]; exact h
  | some y => show s' 52 41 = _ ∧ s' 52 42 = _ ∧ ∀ k, k < hC (aH A) → s' 599 k = _; rw [e1, e2]; exact h
def BB (B : Option ht) : Prop := ∀ y, B = some y → y.1 ≤ 9 ∧ y.2.1 ≤ 90
theorem BB.bet {B : Option ht} {x : ht} (h : BB B) (hx : x.1 ≤ 9 ∧ x.2.1 ≤ 90) : BB (hbet B x) := by
  intro y hy
  unfold hbet at hy
  cases B with
  | none => cases hy; exact hx
  | some z =>
    dsimp only at hy
    split at hy
    · cases hy; exact hx
    · cases hy; exact h y rfl
section HM
variable {σ s : hp_I} {A : ab_A}
theorem GM.put {k : Nat} {v : Int32} (h : GM σ s) (hk : k ≠ 0) (h2 : k ∉ [1, 3, 15, 30, 31, 32, 33]) : GM σ (hp_s s 52 k v) := by
  refine ⟨h.1.trans ⟨Fc.put (by decide), fun j hj => ?_⟩, ?_, ?_⟩
  · rw [hp_s_i, upd_n (by intro e; rw [e] at hj; exact h2 hj)]
  · rw [hp_s_i, upd_n (by omega)]; exact h.2.1
  · rw [hp_s_n (by decide)]; exact h.2.2
theorem GM.put2 {i k : Nat} {v : Int32} (h : GM σ s) (hi : i ∈ LMQ) : GM σ (hp_s s i k v) := by
  have h52 : i ≠ 52 ∧ i ≠ 54 := by
    constructor
    · intro e; rw [e] at hi; exact absurd hi (by decide)
    · intro e; rw [e] at hi; exact absurd hi (by decide)
  refine ⟨h.1.trans (fm_f (Fc.put hi)), ?_, ?_⟩
  · rw [hp_s_n (by omega)]; exact h.2.1
  · rw [hp_s_n (by omega)]; exact h.2.2
theorem ms_leaf (ok : AOK A) (cm : CM σ A) (r : Nat → Int32 → Int32 → Int32 → Int32 → hp_I → Option hp_I) {g w : Nat} (hg : g ≤ 9) (hw : w ≤ 90) {u : Int32} {B : Option ht} {pre : Nat → Int32} (hs : GM σ s) (hb : BS A s B) (hbb : BB B) (hp : ∀ k, k < hC (aH A) → s 598 k = pre k) : ∃ s', bd_M_hunts r 52 (Int32.ofNat (hC (aH A))) (Int32.ofNat g) (Int32.ofNat w) u s = some s' ∧ GM σ s' ∧ s' 598 = s 598 ∧ BS A s' (hbet B (hsh g w (hC (aH A)) pre (0, 0, fun _ => -1))) := by
  have h5 := ok.1.2.2.2.1
  have c1 : CM s A := cm.m ok hs.1
  unfold bd_M_hunts
  rw [sm_12, (hm_n c1.1).2.2.2, e_bd, if_pos rfl, e_jn]
  have upd1 : ∃ s', (px_let (hp_s s 52 41 (Int32.ofNat g)) fun s3 => px_let (hp_s s3 52 42 (Int32.ofNat w)) fun s4 => px_let (0 : Int32) fun v5_5 => bd_M_hunts_L48 r 52 (fun s_9 => some s_9) FU v5_5 s4) = some s' ∧ GM σ s' ∧ s' 598 = s 598 ∧ BS A s' (some (hsh g w (hC (aH A)) pre (0, 0, fun _ => -1))) := by
    simp only [e_let]
    refine Exists.elim (zL_R0 (L := fun fu s i => bd_M_hunts_L48 r 52 (fun s => some s) fu i s) (k := fun s => some s) (N := 5) (fun _ (u : Unit) => u) (fun i s' _ => GM σ s' ∧ s' 598 = s 598 ∧ (s' 52 41 = Int32.ofNat g ∧ s' 52 42 = Int32.ofNat w) ∧ ∀ k, k < i → s' 599 k = s 598 k) (by decide) (fun fu s u h => ?_) (fun fu i s2 u hi h => ?_) (hp_s (hp_s s 52 41 (Int32.ofNat g)) 52 42 (Int32.ofNat w)) () ⟨(hs.put (by decide) (by decide)).put (by decide) (by decide), by rw [hp_s_n (by decide), hp_s_n (by decide)], ⟨by rw [hp_s_i, upd_n (by decide), hp_s_i, upd_i], by rw [hp_s_i, upd_i]⟩, fun k hk => absurd hk (Nat.not_lt_zero _)⟩) (fun s' hs' => ⟨s', hs'.1, hs'.2.1, hs'.2.2.1, ?_, ?_, fun k hk => ?_⟩)
    · try dsimp only
      rw [bd_M_hunts_L48, if_neg (by decide)]
    · try dsimp only
      refine ⟨hp_s s2 599 i (s2 598 i), ?_, h.1.put2 (by decide), by rw [hp_s_n (by decide)]; exact h.2.1, ⟨by rw [hp_s_n (by decide)]; exact h.2.2.1.1, by rw [hp_s_n (by decide)]; exact h.2.2.1.2⟩, fun k hk => ?_⟩
      · rw [bd_M_hunts_L48, if_pos (show Int32.ofNat i < 5 from zl_lt (b := 5) hi (by decide)), sm_39, zi_ald (by rw [hn_598]; omega) (by omega), e_bd, sm_40, zi_ast (by rw [hn_599]; omega) (by omega), e_bd, e_let, zi_succ]
      · rw [hp_s_i]
        by_cases e : k = i
        · rw [e, upd_i, h.2.1]
        · rw [upd_n e]; exact h.2.2.2 k (by omega)
    · show s' 52 41 = Int32.ofNat (g + 0)
      exact hs'.2.2.2.1.1
    · show s' 52 42 = Int32.ofNat (w + 0)
      exact hs'.2.2.2.1.2
    · show s' 599 k = if k < hC (aH A) then pre k else -1
      rw [if_pos hk, hs'.2.2.2.2 k (by omega), hp k hk]
  have hkey0 : hkey (hsh g w (hC (aH A)) pre (0, 0, fun _ => -1)) = 100 * (g : Int) - w := by unfold hkey hsh; dsimp only; omega
  cases B with
  | none =>
    have hb0 : s 52 41 = -1 := hb
    have hm1 : (-1 : Int32) ≤ Int32.ofNat g := Int32.le_trans (by decide) (zi_pos (by omega))
    rw [hb0, if_pos hm1, e_jn, if_neg (show ¬ Int32.ofNat g = -1 from fun e => by
      have h3 := oI_m (some g) (fun t' h' => by cases h'; omega)
      have e3 : oI (some g) = -1 := e
      rw [h3] at e3
      cases e3)]
    exact upd1
  | some y =>
    obtain ⟨b1, b2, b3⟩ := hb
    have hby := hbb y rfl
    have hky : hkey y = 100 * (y.1 : Int) - y.2.1 := rfl
    rw [b1, b2, e_jn]
    show ∃ s', _ = some s' ∧ _ ∧ _ ∧ BS A s' (if hkey y < hkey (hsh g w (hC (aH A)) pre (0, 0, fun _ => -1)) then some _ else some y)
    rw [hkey0, hky]
    by_cases c2 : y.1 ≤ g
    · rw [if_pos (zl_le c2 (by omega))]
      by_cases c3 : g = y.1
      · rw [if_pos (by rw [c3])]
        by_cases c4 : y.2.1 ≤ w
        · rw [if_pos (zl_le c4 (by omega)), if_neg (by omega)]
          exact ⟨s, rfl, hs, rfl, b1, b2, b3⟩
        · rw [if_neg (zl_nle (by omega) (by omega)), if_pos (by omega)]
          exact upd1
      · rw [if_neg (zl_ne c3 (by omega) (by omega)), if_pos (by omega)]
        exact upd1
    · rw [if_neg (zl_nle (by omega) (by omega)), if_neg (by omega)]
      exact ⟨s, rfl, hs, rfl, b1, b2, b3⟩
theorem ms_hunts (ok : AOK A) (cm : CM σ A) : ∀ (n c d g w : Nat) (u : Int32) (s : hp_I) (B : Option ht) (pre : Nat → Int32), c + n = hC (aH A) → n < d → g ≤ c → w ≤ 9 * g → GM σ s → BS A s B → BB B → (∀ k, k < c → s 598 k = pre k) → ∃ s', gr_M_hunts d 52 (Int32.ofNat c) (Int32.ofNat g) (Int32.ofNat w) u s = some s' ∧ GM σ s' ∧ (∀ k, k < c → s' 598 k = pre k) ∧ BS A s' (hbet B (hsh g w c pre (hR' (hPt A) (hS (aH A)) n c u))) := by
  have h5 := ok.1.2.2.2.1
  have h8 := ok.1.2.2.1
  have hR8 := ok.1.1
  intro n
  induction n with
  | zero =>
    intro c d g w u s B pre hc hd hg hw hs hb hbb hp
    obtain ⟨d, rfl⟩ : ∃ e, d = e + 1 := ⟨d - 1, by omega⟩
    have hcN : c = hC (aH A) := by omega
    obtain ⟨s', k1, k2, k3, k4⟩ := ms_leaf ok cm (gr_M_hunts d) (g := g) (w := w) (by omega) (by omega) (u := u) hs hb hbb (fun k hk => hp k (by omega))
    rw [← hcN] at k1 k4
    exact ⟨s', k1, k2, fun k hk => by rw [k3]; exact hp k hk, k4⟩
  | succ n ih =>
    intro c d g w u s B pre hc hd hg hw hs hb hbb hp
    obtain ⟨d, rfl⟩ : ∃ e, d = e + 1 := ⟨d - 1, by omega⟩
    have hcN : c < hC (aH A) := by omega
    have c1 : CM s A := cm.m ok hs.1
    show ∃ s', bd_M_hunts (gr_M_hunts d) 52 (Int32.ofNat c) (Int32.ofNat g) (Int32.ofNat w) u s = some s' ∧ _
    unfold bd_M_hunts
    rw [sm_12, (hm_n c1.1).2.2.2, e_bd, if_neg (zl_ne (by omega) (by omega) (by omega)), e_let]
    have hbdR := hR_bd (S := hS (aH A)) (hP_le A)
    refine Exists.elim (zL_R0 (L := fun fu s i => bd_M_hunts_L78 (gr_M_hunts d) 52 (Int32.ofNat c) (Int32.ofNat g) (Int32.ofNat w) u (fun s_32 => Option.bind (px_ast s_32 (sh_rf 52 39) (Int32.ofNat c) (-1 : Int32)) fun s33 => Option.bind (gr_M_hunts d 52 (Int32.ofNat c + (1 : Int32)) (Int32.ofNat g) (Int32.ofNat w) u s33) fun s35 => some s35) fu i s) (k := fun s_32 => Option.bind (px_ast s_32 (sh_rf 52 39) (Int32.ofNat c) (-1 : Int32)) fun s33 => Option.bind (gr_M_hunts d 52 (Int32.ofNat c + (1 : Int32)) (Int32.ofNat g) (Int32.ofNat w) u s33) fun s35 => some s35) (N := hS (aH A)) (hst (hPt A) c u (hR' (hPt A) (hS (aH A)) n (c + 1))) (fun i s' a => GM σ s' ∧ (∀ k, k < c → s' 598 k = pre k) ∧ BS A s' (hsB g w c pre B a) ∧ BB (hsB g w c pre B a)) (by omega) (fun fu s2 a h => ?_) (fun fu i s2 a hi h => ?_) s none ⟨hs, hp, hb, hbb⟩) (fun s2 hs2 => ?_)
    · try dsimp only
      have c2 : CM s2 A := cm.m ok h.1.1
      rw [bd_M_hunts_L78, sm_12, (hm_n c2.1).2.2.1, e_bd, if_neg Int32.lt_irrefl]
    · try dsimp only
      obtain ⟨h1, h2, h3, h4⟩ := h
      have c2 : CM s2 A := cm.m ok h1.1
      obtain ⟨x, hx, ex⟩ := ok.2.1.2.1 c hcN
      obtain ⟨e, he, ee⟩ := (ok.2.1.1 i hi).1
      have hfar2 : fn_M_farOf 52 (aR A (37 + c)) (aR A (5 + i)) s2 = some (hfar A c i) := by
        have := ms_far c2.1 c2.2.1 ok.1 hx he
        unfold hfar
        rw [ex, ee, this, zi_nat (by omega), zi_nat (by omega)]
      have hval : (if hasB (aR A 1) i = true then (if hasB u i = true then (-1 : Int32) else (if hV (aH A) 0 (aR A (5 + i)).toNatClampNeg < aR A (13 + i) + hV (aH A) 7 c then hfar A c i else -1)) else -1) = (match hfr (hPt A) c i u with
          | none => -1
          | some d => Int32.ofNat d) := by
        have hpe := hpv_eq A c i
        unfold hfr
        by_cases b2 : hasB u i = true
        · rw [if_pos b2, if_pos b2]
          split <;> rfl
        · rw [if_neg b2, if_neg b2]
          show _ = hpv A c i
          rw [hpe]
          unfold hvis sp_ws
          cases hasB (aR A 1) i with
          | false => rfl
          | true =>
            rw [if_pos rfl, Bool.true_and]
            by_cases b3 : hV (aH A) 0 (aR A (5 + i)).toNatClampNeg < aR A (13 + i) + hV (aH A) 7 c
            · rw [if_pos b3, if_pos (decide_eq_true b3)]
            · rw [if_neg b3, if_neg (by rw [decide_eq_false b3]; decide)]
      rw [bd_M_hunts_L78, sm_12, (hm_n c2.1).2.2.1, e_bd, if_pos (zl_lt hi (by omega)), sm_25, ms_lives c2.2.1, e_bd, e_jn, e_jn, bI_if, ms_has, e_bd, bI_if, rm_13 c2.2.1 ok.1 i hi, e_bd, ms_nose c2.1 ok.1 c hcN, e_bd, rm_5 c2.2.1 ok.1 i hi, e_bd, ms_hide c2.1 ok.1 _ (ok.2.1.1 i hi).1, e_bd, rm_37 c2.2.1 ok.1 c hcN, e_bd, e_bd, hfar2, e_bd]
      simp only [e_let, e_jn, zi_succ]
      have hJ : ∀ J : Int32 → Option hp_I, (if hasB (aR A 1) i = true then (if hasB u i = true then J (-1) else (if hV (aH A) 0 (aR A (5 + i)).toNatClampNeg < aR A (13 + i) + hV (aH A) 7 c then J (hfar A c i) else J (-1))) else J (-1)) = J (match hfr (hPt A) c i u with
          | none => -1
          | some d => Int32.ofNat d) := by
        intro J
        rw [← hval]
        split
        · split
          · rfl
          · split <;> rfl
        · rfl
      have hJ2 := hJ (fun t14 => if t14 = (-1 : Int32) then bd_M_hunts_L78 (gr_M_hunts d) 52 (Int32.ofNat c) (Int32.ofNat g) (Int32.ofNat w) u (fun s_32 => Option.bind (px_ast s_32 (sh_rf 52 39) (Int32.ofNat c) (-1 : Int32)) fun s33 => Option.bind (gr_M_hunts d 52 (Int32.ofNat (c + 1)) (Int32.ofNat g) (Int32.ofNat w) u s33) fun s35 => some s35) fu (Int32.ofNat (i + 1)) s2 else Option.bind (px_ast s2 (sh_rf 52 39) (Int32.ofNat c) (Int32.ofNat i)) fun s19 => Option.bind (gr_M_hunts d 52 (Int32.ofNat (c + 1)) (Int32.ofNat (g + 1)) (Int32.ofNat w + t14) (u ||| ((1 : Int32) <<< (Int32.ofNat i &&& 31))) s19) fun s21 => bd_M_hunts_L78 (gr_M_hunts d) 52 (Int32.ofNat c) (Int32.ofNat g) (Int32.ofNat w) u (fun s_32 => Option.bind (px_ast s_32 (sh_rf 52 39) (Int32.ofNat c) (-1 : Int32)) fun s33 => Option.bind (gr_M_hunts d 52 (Int32.ofNat (c + 1)) (Int32.ofNat g) (Int32.ofNat w) u s33) fun s35 => some s35) fu (Int32.ofNat (i + 1)) s21)
      simp only [] at hJ2
      rw [hJ2]
      unfold hst
      cases hf : hfr (hPt A) c i u with
      | none =>
        dsimp only
        rw [if_pos rfl]
        exact ⟨s2, rfl, h1, h2, h3, h4⟩
      | some dd =>
        dsimp only
        have hdd : dd ≤ 9 := by
          unfold hfr at hf
          split at hf
          · cases hf
          · exact hP_le A c i dd hf
        rw [if_neg (show ¬ Int32.ofNat dd = -1 from fun e => by
          have h3 := oI_m (some dd) (fun t' h' => by cases h'; omega)
          have e3 : oI (some dd) = -1 := e
          rw [h3] at e3
          cases e3), sm_39, zi_ast (by rw [hn_598]; omega) (by omega), e_bd, zi_add]
        obtain ⟨s3, k1, k2, k3, k4⟩ := ih (c + 1) d (g + 1) (w + dd) (u ||| bitI i) (hp_s s2 598 c (Int32.ofNat i)) (hsB g w c pre B a) (fun k => if k = c then Int32.ofNat i else pre k) (by omega) (by omega) (by omega) (by omega) (h1.put2 (by decide)) (h3.fr (hp_s_n (by decide)) (hp_s_n (by decide))) h4 (fun k hk => by
          rw [hp_s_i]
          by_cases e : k = c
          · rw [e, upd_i, if_pos rfl]
          · rw [upd_n e, if_neg e]; exact h2 k (by omega))
        rw [hsh_cand, hsB_bet] at k4
        rw [show gr_M_hunts d 52 (Int32.ofNat (c + 1)) (Int32.ofNat (g + 1)) (Int32.ofNat (w + dd)) (u ||| ((1 : Int32) <<< (Int32.ofNat i &&& 31))) (hp_s s2 598 c (Int32.ofNat i)) = _ from k1, e_bd]
        refine ⟨s3, rfl, k2, fun k hk => ?_, k4, ?_⟩
        · rw [k3 k (by omega), if_neg (by omega)]
        · rw [← hsB_bet]
          have hbr := hbdR n (c + 1) (u ||| bitI i)
          refine h4.bet ?_
          show g + ((hR' (hPt A) (hS (aH A)) n (c + 1) (u ||| bitI i)).1 + 1) ≤ 9 ∧ w + ((hR' (hPt A) (hS (aH A)) n (c + 1) (u ||| bitI i)).2.1 + dd) ≤ 90
          have := hbr.1
          have := hbr.2
          omega
    · obtain ⟨k0, h1, h2, h3, h4⟩ := hs2
      obtain ⟨s3, k1, k2, k3, k4⟩ := ih (c + 1) d g w u (hp_s s2 598 c (-1)) _ (fun k => if k = c then -1 else pre k) (by omega) (by omega) (by omega) hw (h1.put2 (by decide)) (h3.fr (hp_s_n (by decide)) (hp_s_n (by decide))) h4 (fun k hk => by
        rw [hp_s_i]
        by_cases e : k = c
        · rw [e, upd_i, if_pos rfl]
        · rw [upd_n e, if_neg e]; exact h2 k (by omega))
      rw [hsh_none, hsB_fin] at k4
      refine ⟨s3, ?_, k2, fun k hk => by rw [k3 k (by omega), if_neg (by omega)], k4⟩
      refine k0.trans ?_
      rw [sm_39, zi_ast (by rw [hn_598]; omega) (by omega), e_bd, zi_succ, k1, e_bd]
theorem ms_lays (ok : AOK A) (cm : CM σ A) : ∃ s, fn_M_laysHunt 52 σ = some s ∧ GM σ s ∧ s 52 41 = Int32.ofNat (hun A).1 ∧ s 52 42 = Int32.ofNat (hun A).2.1 ∧ ∀ k, k < hC (aH A) → s 599 k = (hun A).2.2 k := by
  have h5 := ok.1.2.2.2.1
  unfold fn_M_laysHunt fn_M_hunts
  simp only [e_let]
  have g0 : GM σ (hp_s (hp_s σ 52 41 (-1)) 52 42 0) := (GM.put (s := σ) ⟨FM.refl, rfl, rfl⟩ (by decide) (by decide)).put (by decide) (by decide)
  obtain ⟨s, k1, k2, k3, k4⟩ := ms_hunts ok cm (hC (aH A)) 0 64 0 0 0 (hp_s (hp_s σ 52 41 (-1)) 52 42 0) none (fun _ => 0) (by omega) (by omega) (by omega) (by omega) g0 (by show hp_s (hp_s σ 52 41 (-1)) 52 42 0 52 41 = -1; rw [hp_s_i, upd_n (by decide), hp_s_i, upd_i]) (fun y h => by cases h) (fun k hk => absurd hk (Nat.not_lt_zero _))
  refine ⟨s, ?_, k2, ?_⟩
  · rw [show gr_M_hunts 64 52 0 0 0 0 (hp_s (hp_s σ 52 41 (-1)) 52 42 0) = _ from k1, e_bd]
  · obtain ⟨b1, b2, b3⟩ := k4
    refine ⟨?_, ?_, fun k hk => ?_⟩
    · rw [b1]
      show Int32.ofNat (0 + (hun A).1) = _
      rw [Nat.zero_add]
    · rw [b2]
      show Int32.ofNat (0 + (hun A).2.1) = _
      rw [Nat.zero_add]
    · rw [b3 k hk]
      show (if k < 0 then (0 : Int32) else (hun A).2.2 k) = _
      rw [if_neg (Nat.not_lt_zero _)]
theorem mq_gm {s2 : hp_I} {v t2 : Int32} {e : Option (Int32 × hp_I)} (h : e = some (v, s2)) (t : GM (hp_s σ 52 0 0) s2) : MQs σ e 0 v t2 := mq_v h t.1 (t.2.1.trans s0_0) (t.2.2.trans (hp_s_n (by decide)))
theorem mq_hunt (ok : AOK A) (cm : CM σ A) (w : Int32) : MQs σ (fn_M_hunt 52 w σ) (qb_i (inB w 0 1) 0) (if w = 0 then Int32.ofNat (hun A).1 else Int32.ofNat (hun A).2.1) 1 := by
  unfold fn_M_hunt
  simp only [e_let, e_jn]
  have cm0 := cm_0 ok cm
  rw [ms_in', e_bd]
  refine mb_b fun _ => ?_
  obtain ⟨s, g1, g2, g3, g4, -⟩ := ms_lays ok cm0
  refine mq_gm ?_ g2
  rw [g1, e_bd, g3, g4]
  exact ite_g (rM s) (fun _ => rfl) (fun _ => rfl)
theorem mq_prey (ok : AOK A) (cm : CM σ A) (p : Int32) : MQs σ (fn_M_prey 52 p σ) (qb_o (oneB p (hC (aH A))) 0) ((hun A).2.2 p.toNatClampNeg) 1 := by
  unfold fn_M_prey
  simp only [e_let, e_jn]
  have cm0 := cm_0 ok cm
  have h5 := ok.1.2.2.2.1
  rw [mt_C cm.1 ok.1, e_bd]
  refine mb_a fun h1 => ?_
  obtain ⟨k, hk, rfl⟩ := oneB_z (by omega) h1
  obtain ⟨s, g1, g2, -, -, g5⟩ := ms_lays ok cm0
  refine mq_gm ?_ g2
  rw [g1, e_bd, sm_40, zi_ald (by rw [hn_599]; omega) (by omega), e_bd, g5 k hk, zi_nat (by omega)]
end HM

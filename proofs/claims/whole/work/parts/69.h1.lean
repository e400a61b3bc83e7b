/-! HUNT: the best that cats can have -/
abbrev ht : Type := Nat × Nat × (Nat → Int32)
def hkey (x : ht) : Int := 100 * (x.1 : Int) - x.2.1
def hcand (c s d : Nat) (y : ht) : ht := (y.1 + 1, y.2.1 + d, fun k => if k = c then Int32.ofNat s else y.2.2 k)
def hnone (c : Nat) (y : ht) : ht := (y.1, y.2.1, fun k => if k = c then -1 else y.2.2 k)
def hbet (a : Option ht) (x : ht) : Option ht := match a with
  | none => some x
  | some y => if hkey y < hkey x then some x else some y
def hfin (a : Option ht) (z : ht) : ht := match a with
  | none => z
  | some y => if hkey y < hkey z then z else y
def hfr (P : Nat → Nat → Option Nat) (c s : Nat) (u : Int32) : Option Nat := if hasB u s = true then none else P c s
def hst (P : Nat → Nat → Option Nat) (c : Nat) (u : Int32) (f : Int32 → ht) (s : Nat) (a : Option ht) : Option ht := match hfr P c s u with
  | none => a
  | some d => hbet a (hcand c s d (f (u ||| bitI s)))
def hR' (P : Nat → Nat → Option Nat) (S : Nat) : Nat → Nat → Int32 → ht
  | 0, _, _ => (0, 0, fun _ => -1)
  | n + 1, c, u => hfin (zF (hst P c u (hR' P S n (c + 1))) S 0 none) (hnone c (hR' P S n (c + 1) u))
theorem hb_b (B : Option ht) (a b : ht) : hbet (hbet B a) b = hbet B (if hkey a < hkey b then b else a) := by
  cases B with
  | none =>
    show (if hkey a < hkey b then some b else some a) = some _
    split <;> rfl
  | some y =>
    unfold hbet
    dsimp only
    by_cases h1 : hkey y < hkey a
    · rw [if_pos h1]
      dsimp only
      by_cases h2 : hkey a < hkey b
      · rw [if_pos h2, if_pos h2, if_pos (by omega)]
      · rw [if_neg h2, if_neg h2, if_pos h1]
    · rw [if_neg h1]
      dsimp only
      by_cases h2 : hkey a < hkey b
      · rw [if_pos h2]
      · rw [if_neg h2, if_neg h1, if_neg (by omega)]
/-- behind a prefix -/
def hsh (g w c : Nat) (pre : Nat → Int32) (x : ht) : ht := (g + x.1, w + x.2.1, fun k => if k < c then pre k else x.2.2 k)
theorem hsh_key (g w c : Nat) (pre : Nat → Int32) (x : ht) : hkey (hsh g w c pre x) = hkey x + (100 * (g : Int) - w) := by
  unfold hkey hsh
  dsimp only
  omega
def hsB (g w c : Nat) (pre : Nat → Int32) (B a : Option ht) : Option ht := match a with
  | none => B
  | some y => hbet B (hsh g w c pre y)
theorem hsB_bet (g w c : Nat) (pre : Nat → Int32) (B a : Option ht) (x : ht) : hbet (hsB g w c pre B a) (hsh g w c pre x) = hsB g w c pre B (hbet a x) := by
  cases a with
  | none => rfl
  | some y =>
    show hbet (hbet B (hsh g w c pre y)) (hsh g w c pre x) = hsB g w c pre B (if hkey y < hkey x then some x else some y)
    rw [hb_b, hsh_key, hsh_key]
    by_cases h : hkey y < hkey x
    · rw [if_pos (by omega), if_pos h]; rfl
    · rw [if_neg (by omega), if_neg h]; rfl
theorem hsB_fin (g w c : Nat) (pre : Nat → Int32) (B a : Option ht) (z : ht) : hbet (hsB g w c pre B a) (hsh g w c pre z) = hbet B (hsh g w c pre (hfin a z)) := by
  rw [hsB_bet]
  cases a with
  | none => rfl
  | some y =>
    show hsB g w c pre B (if hkey y < hkey z then some z else some y) = hbet B (hsh g w c pre (if hkey y < hkey z then z else y))
    split <;> rfl
theorem hsh_cand (g w c s d : Nat) (pre : Nat → Int32) (y : ht) : hsh (g + 1) (w + d) (c + 1) (fun k => if k = c then Int32.ofNat s else pre k) y = hsh g w c pre (hcand c s d y) := by
  unfold hsh hcand
  refine Prod.ext ?_ (Prod.ext ?_ ?_)
  · show g + 1 + y.1 = g + (y.1 + 1); omega
  · show w + d + y.2.1 = w + (y.2.1 + d); omega
  · funext k
    show (if k < c + 1 then (if k = c then Int32.ofNat s else pre k) else y.2.2 k) = if k < c then pre k else if k = c then Int32.ofNat s else y.2.2 k
    by_cases h1 : k < c
    · rw [if_pos (by omega), if_neg (by omega), if_pos h1]
    · by_cases h2 : k = c
      · rw [if_pos (by omega), if_pos h2, if_neg h1, if_pos h2]
      · rw [if_neg (by omega), if_neg h1, if_neg h2]
theorem hsh_none (g w c : Nat) (pre : Nat → Int32) (y : ht) : hsh g w (c + 1) (fun k => if k = c then -1 else pre k) y = hsh g w c pre (hnone c y) := by
  unfold hsh hnone
  refine Prod.ext rfl (Prod.ext rfl ?_)
  funext k
  show (if k < c + 1 then (if k = c then -1 else pre k) else y.2.2 k) = if k < c then pre k else if k = c then -1 else y.2.2 k
  by_cases h1 : k < c
  · rw [if_pos (by omega), if_neg (by omega), if_pos h1]
  · by_cases h2 : k = c
    · rw [if_pos (by omega), if_pos h2, if_neg h1, if_pos h2]
    · rw [if_neg (by omega), if_neg h1, if_neg h2]
/-- bounds -/
def hbd (n : Nat) (x : ht) : Prop := x.1 ≤ n ∧ x.2.1 ≤ 9 * x.1
theorem hR_bd {P : Nat → Nat → Option Nat} {S : Nat} (hP : ∀ c s d, P c s = some d → d ≤ 9) : ∀ n c u, hbd n (hR' P S n c u) := by
  intro n
  induction n with
  | zero => intro c u; exact ⟨Nat.le_refl _, Nat.le_refl _⟩
  | succ n ih =>
    intro c u
    have hz : hbd (n + 1) (hnone c (hR' P S n (c + 1) u)) := ⟨Nat.le_succ_of_le (ih (c + 1) u).1, (ih (c + 1) u).2⟩
    have hacc := zF_inv (hst P c u (hR' P S n (c + 1))) (fun a => ∀ y, a = some y → hbd (n + 1) y) S (fun s a _ ha y hy => by
      unfold hst at hy
      cases hf : hfr P c s u with
      | none => rw [hf] at hy; exact ha y hy
      | some d =>
        rw [hf] at hy
        dsimp only at hy
        have hd : d ≤ 9 := by
          unfold hfr at hf
          split at hf
          · cases hf
          · exact hP c s d hf
        have hc : hbd (n + 1) (hcand c s d (hR' P S n (c + 1) (u ||| bitI s))) := by
          have h1 := ih (c + 1) (u ||| bitI s)
          refine ⟨Nat.succ_le_succ h1.1, ?_⟩
          show (hR' P S n (c + 1) (u ||| bitI s)).2.1 + d ≤ 9 * ((hR' P S n (c + 1) (u ||| bitI s)).1 + 1)
          have := h1.2
          omega
        unfold hbet at hy
        cases a with
        | none => cases hy; exact hc
        | some y2 =>
          dsimp only at hy
          split at hy
          · cases hy; exact hc
          · cases hy; exact ha y rfl) S 0 none (by omega) (fun y h => by cases h)
    show hbd (n + 1) (hfin _ _)
    unfold hfin
    cases ha : zF (hst P c u (hR' P S n (c + 1))) S 0 none with
    | none => exact hz
    | some y =>
      dsimp only
      split
      · exact hz
      · exact hacc y ha
def hVl (P : Nat → Nat → Option Nat) (S n c : Nat) (u : Int32) : Nat := 100 * (hR' P S n c u).1 - (hR' P S n c u).2.1
theorem hV_key {P : Nat → Nat → Option Nat} {S : Nat} (hP : ∀ c s d, P c s = some d → d ≤ 9) (n c : Nat) (u : Int32) : hkey (hR' P S n c u) = (hVl P S n c u : Int) ∧ hVl P S n c u ≤ 100 * n := by
  have h := hR_bd (S := S) hP n c u
  unfold hVl hkey
  have h1 := h.1
  have h2 := h.2
  omega
theorem key_cand (c s d : Nat) (y : ht) : hkey (hcand c s d y) = hkey y + 100 - d := by
  unfold hkey hcand
  dsimp only
  omega
theorem key_none (c : Nat) (y : ht) : hkey (hnone c y) = hkey y := rfl
/-- the greatest, step by step -/
def hmx (P : Nat → Nat → Option Nat) (S n c : Nat) (u : Int32) (s : Nat) (m : Nat) : Nat := match hfr P c s u with
  | none => m
  | some d => max m (100 - d + hVl P S n (c + 1) (u ||| bitI s))
theorem hmx_ok {P : Nat → Nat → Option Nat} {S : Nat} (hP : ∀ c s d, P c s = some d → d ≤ 9) (n c : Nat) (u : Int32) : zF (hmx P S n c u) S 0 (hVl P S n (c + 1) u) = hVl P S (n + 1) c u := by
  have key : ∀ m i a (b : Option ht), (match b with
      | none => a = hVl P S n (c + 1) u
      | some y => (a : Int) = max (hVl P S n (c + 1) u : Int) (hkey y)) → (match zF (hst P c u (hR' P S n (c + 1))) m i b with
      | none => zF (hmx P S n c u) m i a = hVl P S n (c + 1) u
      | some y => ((zF (hmx P S n c u) m i a : Nat) : Int) = max (hVl P S n (c + 1) u : Int) (hkey y)) := by
    intro m
    induction m with
    | zero => intro i a b h; exact h
    | succ m ih =>
      intro i a b h
      show (match zF (hst P c u (hR' P S n (c + 1))) m (i + 1) (hst P c u (hR' P S n (c + 1)) i b) with
        | none => zF (hmx P S n c u) m (i + 1) (hmx P S n c u i a) = hVl P S n (c + 1) u
        | some y => ((zF (hmx P S n c u) m (i + 1) (hmx P S n c u i a) : Nat) : Int) = max (hVl P S n (c + 1) u : Int) (hkey y))
      refine ih (i + 1) _ _ ?_
      unfold hst hmx
      cases hf : hfr P c i u with
      | none => exact h
      | some d =>
        have hd : d ≤ 9 := by
          unfold hfr at hf
          split at hf
          · cases hf
          · exact hP c i d hf
        have hk := (hV_key (S := S) hP n (c + 1) (u ||| bitI i)).1
        have hc := key_cand c i d (hR' P S n (c + 1) (u ||| bitI i))
        cases b with
        | none =>
          dsimp only at h ⊢
          show ((max a (100 - d + hVl P S n (c + 1) (u ||| bitI i)) : Nat) : Int) = max (hVl P S n (c + 1) u : Int) (hkey (hcand c i d (hR' P S n (c + 1) (u ||| bitI i))))
          rw [hc, hk, h]
          omega
        | some y =>
          dsimp only at h ⊢
          unfold hbet
          dsimp only
          by_cases hlt : hkey y < hkey (hcand c i d (hR' P S n (c + 1) (u ||| bitI i)))
          · rw [if_pos hlt]
            dsimp only
            rw [hc, hk] at hlt ⊢
            omega
          · rw [if_neg hlt]
            dsimp only
            rw [hc, hk] at hlt
            omega
  have h := key S 0 (hVl P S n (c + 1) u) none rfl
  have hv := (hV_key (S := S) hP (n + 1) c u).1
  have hz := (hV_key (S := S) hP n (c + 1) u).1
  have hRR : hR' P S (n + 1) c u = hfin (zF (hst P c u (hR' P S n (c + 1))) S 0 none) (hnone c (hR' P S n (c + 1) u)) := rfl
  rw [hRR] at hv
  unfold hfin at hv
  cases ha : zF (hst P c u (hR' P S n (c + 1))) S 0 none with
  | none =>
    rw [ha] at h hv
    dsimp only at h hv
    rw [key_none, hz] at hv
    omega
  | some y =>
    rw [ha] at h hv
    dsimp only at h hv
    rw [key_none, hz] at hv
    by_cases hlt : hkey y < (hVl P S n (c + 1) u : Int)
    · rw [if_pos hlt, key_none, hz] at hv
      omega
    · rw [if_neg hlt] at hv
      omega
/-- the first that is best -/
def hfb (P : Nat → Nat → Option Nat) (S n c : Nat) (u : Int32) : Nat → Nat → Option (Nat × Nat)
  | 0, _ => none
  | m + 1, i => match hfr P c i u with
    | none => hfb P S n c u m (i + 1)
    | some d => if 100 - d + hVl P S n (c + 1) (u ||| bitI i) = hVl P S (n + 1) c u then some (i, d) else hfb P S n c u m (i + 1)
theorem hR_max {P : Nat → Nat → Option Nat} {S : Nat} (hP : ∀ c s d, P c s = some d → d ≤ 9) (n c : Nat) (u : Int32) : hVl P S n (c + 1) u ≤ hVl P S (n + 1) c u ∧ ∀ s d, s < S → hfr P c s u = some d → 100 - d + hVl P S n (c + 1) (u ||| bitI s) ≤ hVl P S (n + 1) c u := by
  rw [← hmx_ok hP n c u]
  have mono : ∀ m i a, a ≤ zF (hmx P S n c u) m i a := by
    intro m
    induction m with
    | zero => intro i a; exact Nat.le_refl _
    | succ m ih =>
      intro i a
      show a ≤ zF (hmx P S n c u) m (i + 1) (hmx P S n c u i a)
      refine Nat.le_trans ?_ (ih (i + 1) _)
      unfold hmx
      cases hfr P c i u with
      | none => exact Nat.le_refl _
      | some d => exact Nat.le_max_left _ _
  refine ⟨mono _ _ _, fun s d hs hf => ?_⟩
  have : ∀ m i a, i ≤ s → s < i + m → 100 - d + hVl P S n (c + 1) (u ||| bitI s) ≤ zF (hmx P S n c u) m i a := by
    intro m
    induction m with
    | zero => intro i a h1 h2; omega
    | succ m ih =>
      intro i a h1 h2
      show _ ≤ zF (hmx P S n c u) m (i + 1) (hmx P S n c u i a)
      by_cases e : s = i
      · refine Nat.le_trans ?_ (mono m (i + 1) _)
        unfold hmx
        rw [← e, hf]
        exact Nat.le_max_right _ _
      · exact ih (i + 1) _ (by omega) (by omega)
  exact this S 0 _ (by omega) (by omega)
theorem hfb_ok {P : Nat → Nat → Option Nat} {S : Nat} (hP : ∀ c s d, P c s = some d → d ≤ 9) (n c : Nat) (u : Int32) : hR' P S (n + 1) c u = match hfb P S n c u S 0 with
    | none => hnone c (hR' P S n (c + 1) u)
    | some q => hcand c q.1 q.2 (hR' P S n (c + 1) (u ||| bitI q.1)) := by
  have hmax := hR_max (S := S) hP n c u
  have key : ∀ m i (b : Option ht), i + m = S → (∀ y, b = some y → hkey y < (hVl P S (n + 1) c u : Int)) → (match hfb P S n c u m i with
      | none => ∀ y, zF (hst P c u (hR' P S n (c + 1))) m i b = some y → hkey y < (hVl P S (n + 1) c u : Int)
      | some q => zF (hst P c u (hR' P S n (c + 1))) m i b = some (hcand c q.1 q.2 (hR' P S n (c + 1) (u ||| bitI q.1))) ∧ hkey (hcand c q.1 q.2 (hR' P S n (c + 1) (u ||| bitI q.1))) = (hVl P S (n + 1) c u : Int)) := by
    intro m
    induction m with
    | zero => intro i b _ hb; exact hb
    | succ m ih =>
      intro i b hi hb
      unfold hfb
      cases hf : hfr P c i u with
      | none =>
        dsimp only
        have e : hst P c u (hR' P S n (c + 1)) i b = b := by unfold hst; rw [hf]
        show (match hfb P S n c u m (i + 1) with
          | none => ∀ y, zF (hst P c u (hR' P S n (c + 1))) m (i + 1) (hst P c u (hR' P S n (c + 1)) i b) = some y → hkey y < (hVl P S (n + 1) c u : Int)
          | some q => zF (hst P c u (hR' P S n (c + 1))) m (i + 1) (hst P c u (hR' P S n (c + 1)) i b) = some (hcand c q.1 q.2 (hR' P S n (c + 1) (u ||| bitI q.1))) ∧ hkey (hcand c q.1 q.2 (hR' P S n (c + 1) (u ||| bitI q.1))) = (hVl P S (n + 1) c u : Int))
        rw [e]
        exact ih (i + 1) b (by omega) hb
      | some d =>
        have hd : d ≤ 9 := by
          unfold hfr at hf
          split at hf
          · cases hf
          · exact hP c i d hf
        have hk := (hV_key (S := S) hP n (c + 1) (u ||| bitI i)).1
        have hc := key_cand c i d (hR' P S n (c + 1) (u ||| bitI i))
        rw [hk] at hc
        have hle := hmax.2 i d (by omega) hf
        have e : hst P c u (hR' P S n (c + 1)) i b = hbet b (hcand c i d (hR' P S n (c + 1) (u ||| bitI i))) := by unfold hst; rw [hf]
        dsimp only
        by_cases hv : 100 - d + hVl P S n (c + 1) (u ||| bitI i) = hVl P S (n + 1) c u
        · rw [if_pos hv]
          dsimp only
          have hkv : hkey (hcand c i d (hR' P S n (c + 1) (u ||| bitI i))) = (hVl P S (n + 1) c u : Int) := by rw [hc]; omega
          refine ⟨?_, hkv⟩
          show zF (hst P c u (hR' P S n (c + 1))) m (i + 1) (hst P c u (hR' P S n (c + 1)) i b) = _
          rw [e]
          have eb : hbet b (hcand c i d (hR' P S n (c + 1) (u ||| bitI i))) = some (hcand c i d (hR' P S n (c + 1) (u ||| bitI i))) := by
            unfold hbet
            cases b with
            | none => rfl
            | some y =>
              dsimp only
              rw [if_pos (by rw [hkv]; exact hb y rfl)]
          rw [eb]
          have stay : ∀ m j, j + m ≤ S → ∀ x, hkey x = (hVl P S (n + 1) c u : Int) → zF (hst P c u (hR' P S n (c + 1))) m j (some x) = some x := by
            intro m
            induction m with
            | zero => intro j _ x _; rfl
            | succ m ih2 =>
              intro j hj x hx
              show zF (hst P c u (hR' P S n (c + 1))) m (j + 1) (hst P c u (hR' P S n (c + 1)) j (some x)) = some x
              have e2 : hst P c u (hR' P S n (c + 1)) j (some x) = some x := by
                unfold hst
                cases hf2 : hfr P c j u with
                | none => rfl
                | some d2 =>
                  have hd2 : d2 ≤ 9 := by
                    unfold hfr at hf2
                    split at hf2
                    · cases hf2
                    · exact hP c j d2 hf2
                  have hk2 := (hV_key (S := S) hP n (c + 1) (u ||| bitI j)).1
                  have hc2 := key_cand c j d2 (hR' P S n (c + 1) (u ||| bitI j))
                  rw [hk2] at hc2
                  have hle2 := hmax.2 j d2 (by omega) hf2
                  unfold hbet
                  dsimp only
                  rw [if_neg (by rw [hx, hc2]; omega)]
              rw [e2]
              exact ih2 (j + 1) (by omega) x hx
          exact stay m (i + 1) (by omega) _ hkv
        · rw [if_neg hv]
          show (match hfb P S n c u m (i + 1) with
            | none => ∀ y, zF (hst P c u (hR' P S n (c + 1))) m (i + 1) (hst P c u (hR' P S n (c + 1)) i b) = some y → hkey y < (hVl P S (n + 1) c u : Int)
            | some q => zF (hst P c u (hR' P S n (c + 1))) m (i + 1) (hst P c u (hR' P S n (c + 1)) i b) = some (hcand c q.1 q.2 (hR' P S n (c + 1) (u ||| bitI q.1))) ∧ hkey (hcand c q.1 q.2 (hR' P S n (c + 1) (u ||| bitI q.1))) = (hVl P S (n + 1) c u : Int))
          rw [e]
          refine ih (i + 1) _ (by omega) fun y hy => ?_
          unfold hbet at hy
          cases b with
          | none => cases hy; rw [hc]; omega
          | some y2 =>
            dsimp only at hy
            split at hy
            · cases hy; rw [hc]; omega
            · cases hy; exact hb y rfl
  have h := key S 0 none (by omega) (fun y h => by cases h)
  have hRR : hR' P S (n + 1) c u = hfin (zF (hst P c u (hR' P S n (c + 1))) S 0 none) (hnone c (hR' P S n (c + 1) u)) := rfl
  have hv := (hV_key (S := S) hP (n + 1) c u).1
  have hz := (hV_key (S := S) hP n (c + 1) u).1
  cases hb : hfb P S n c u S 0 with
  | some q =>
    rw [hb] at h
    dsimp only at h ⊢
    rw [hRR, h.1]
    unfold hfin
    dsimp only
    rw [if_neg (by rw [h.2, key_none, hz]; have := hmax.1; omega)]
  | none =>
    rw [hb] at h
    dsimp only at h ⊢
    rw [hRR] at hv ⊢
    unfold hfin at hv ⊢
    cases ha : zF (hst P c u (hR' P S n (c + 1))) S 0 none with
    | none => rfl
    | some y =>
      rw [ha] at hv
      dsimp only at hv ⊢
      have hlt := h y ha
      by_cases h2 : hkey y < hkey (hnone c (hR' P S n (c + 1) u))
      · rw [if_pos h2]
      · rw [if_neg h2] at hv
        omega

/-! WORK: steps read -/
theorem SEG.self {H : ab_H} {S : ab_S} : ∀ n lo d, SEG H S n lo lo d := by
  intro n lo d
  cases n with
  | zero => rfl
  | succ n => exact Or.inl rfl
theorem SEG.up {H : ab_H} {S : ab_S} : ∀ n lo hi d, SEG H S n lo hi d → SEG H S (n + 1) lo hi d := by
  intro n
  induction n with
  | zero => intro lo hi d h; exact Or.inl h
  | succ n ih =>
    intro lo hi d h
    rcases h with h | ⟨h1, h2, h3, h4, h5⟩
    · exact Or.inl h
    · refine Or.inr ⟨h1, h2, h3, ?_, ih _ _ _ h5⟩
      rcases h4 with ⟨a1, a2, a3, a4⟩ | h4
      · exact Or.inl ⟨a1, a2, a3, ih _ _ _ a4⟩
      · exact Or.inr h4
theorem SEG.ups {H : ab_H} {S : ab_S} {n lo hi d : Nat} (h : SEG H S n lo hi d) : ∀ m, SEG H S (n + m) lo hi d := by
  intro m
  induction m with
  | zero => exact h
  | succ m ih => exact SEG.up _ _ _ _ ih
theorem SEG.app {H : ab_H} {S : ab_S} : ∀ n m lo mid hi d, SEG H S n lo mid d → mid ≤ hi → SEG H S m mid hi d → SEG H S (n + m) lo hi d := by
  intro n
  induction n with
  | zero =>
    intro m lo mid hi d h1 _ h2
    have e : lo = mid := h1
    subst e
    rw [Nat.zero_add]; exact h2
  | succ n ih =>
    intro m lo mid hi d h1 hmh h2
    rcases h1 with e | ⟨a1, a2, a3, a4, a5⟩
    · subst e
      rw [Nat.add_comm]; exact h2.ups _
    · rw [show n + 1 + m = (n + m) + 1 by omega]
      refine Or.inr ⟨by omega, a2, by omega, ?_, ih m _ mid hi d a5 hmh h2⟩
      rcases a4 with ⟨b1, b2, b3, b4⟩ | a4
      · exact Or.inl ⟨b1, b2, b3, b4.ups m⟩
      · exact Or.inr a4
theorem SEG.congr {H : ab_H} {S S' : ab_S} : ∀ n lo hi d, (∀ i, lo ≤ i → i < hi → S' i = S i) → SEG H S n lo hi d → SEG H S' n lo hi d := by
  intro n
  induction n with
  | zero => intro lo hi d _ h; exact h
  | succ n ih =>
    intro lo hi d he h
    rcases h with h | ⟨h1, h2, h3, h4, h5⟩
    · exact Or.inl h
    · have e := he lo (Nat.le_refl _) h1
      have eK : sK S' lo = sK S lo := congrArg (fun v => v.1) e
      have eA : sA S' lo = sA S lo := congrArg (fun v => v.2.1) e
      have eB : sB S' lo = sB S lo := congrArg (fun v => v.2.2.1) e
      have eE : sE S' lo = sE S lo := congrArg (fun v => v.2.2.2) e
      refine Or.inr ⟨h1, by rw [eE]; exact h2, by rw [eE]; exact h3, ?_, by rw [eE]; exact ih _ _ _ (fun i a b => he i (by omega) b) h5⟩
      rw [eK, eA, eB, eE]
      rcases h4 with ⟨a1, a2, a3, a4⟩ | h4
      · exact Or.inl ⟨a1, a2, a3, ih _ _ _ (fun i a b => he i (by omega) (by omega)) a4⟩
      · exact Or.inr h4
def wkP (i : Nat) : Prop := 27 ≤ i ∧ i ≤ 31
def wmP (i : Nat) : Prop := 492 ≤ i ∧ i < 572
def wmJ (j : Nat) : Prop := j = 8 ∨ j = 24
def CTN (s t : hp_I) (N : Nat) : Prop := s 27 4 = Int32.ofNat N ∧ t 52 24 = Int32.ofNat N
def SXR (s t : hp_I) (S : ab_S) (lo hi : Nat) : Prop := hi ≤ 25 ∧ ∀ i, lo ≤ i → i < hi → (s 28 i = Int32.ofNat (sK S i) ∧ s 29 i = Int32.ofNat (sA S i) ∧ s 30 i = Int32.ofNat (sB S i) ∧ s 31 i = Int32.ofNat (sE S i)) ∧ t (492 + i) 0 = Int32.ofNat (sK S i) ∧ (sK S i ≠ 5 → t (492 + i) 1 = Int32.ofNat (sA S i)) ∧ (sK S i < 4 → t (492 + i) 2 = Int32.ofNat (sB S i)) ∧ t (492 + i) 3 = Int32.ofNat (sE S i)
def FB (s t s' t' : hp_I) (N : Nat) : Prop := ∀ i, i < N → (s' 28 i = s 28 i ∧ s' 29 i = s 29 i ∧ s' 30 i = s 30 i ∧ s' 31 i = s 31 i) ∧ t' (492 + i) = t (492 + i)
theorem FB.trans {s t s1 t1 s2 t2 : hp_I} {N M : Nat} (h1 : FB s t s1 t1 N) (h2 : FB s1 t1 s2 t2 M) (h : N ≤ M) : FB s t s2 t2 N := fun i hi => by
  obtain ⟨⟨a1, a2, a3, a4⟩, a5⟩ := h1 i hi
  obtain ⟨⟨b1, b2, b3, b4⟩, b5⟩ := h2 i (by omega)
  exact ⟨⟨b1.trans a1, b2.trans a2, b3.trans a3, b4.trans a4⟩, b5.trans a5⟩
theorem FB.mf {s t s' t' : hp_I} {N : Nat} (fx : XF s s') (fm : MF t t') : FB s t s' t' N := fun i _ => by
  rw [fx.1 28 (by decide), fx.1 29 (by decide), fx.1 30 (by decide), fx.1 31 (by decide), fm.1 _ (by omega)]
  exact ⟨⟨rfl, rfl, rfl, rfl⟩, rfl⟩
theorem SXR.fb {s t s' t' : hp_I} {S : ab_S} {lo hi M : Nat} (h : SXR s t S lo hi) (f : FB s t s' t' M) (hM : hi ≤ M) : SXR s' t' S lo hi := ⟨h.1, fun i a b => by
  obtain ⟨⟨a1, a2, a3, a4⟩, a5⟩ := f i (by omega)
  rw [a1, a2, a3, a4, a5]
  exact h.2 i a b⟩
theorem SXR.congr {s t : hp_I} {S S' : ab_S} {lo hi : Nat} (h : SXR s t S lo hi) (e : ∀ i, lo ≤ i → i < hi → S' i = S i) : SXR s t S' lo hi := ⟨h.1, fun i a b => by
  have := h.2 i a b
  dsimp only [sK, sA, sB, sE] at this ⊢
  rw [e i a b]
  exact this⟩
theorem CTN.fr {s t s' t' : hp_I} {N : Nat} (h : CTN s t N) (fx : XF s s') (fm : MF t t') : CTN s' t' N := ⟨by rw [fx.1 27 (by decide)]; exact h.1, by rw [fm.2 24 (by decide) (by decide) (by decide)]; exact h.2⟩
def CNX (s : hp_I) (H : ab_H) : Prop := s 3 0 = Int32.ofNat (hR H) ∧ s 3 1 = Int32.ofNat (hW H) ∧ s 3 2 = Int32.ofNat (hS H) ∧ s 3 3 = Int32.ofNat (hC H)
def CNM (t : hp_I) (H : ab_H) : Prop := t 56 0 = Int32.ofNat (hR H) ∧ t 56 1 = Int32.ofNat (hW H) ∧ t 56 2 = Int32.ofNat (hS H) ∧ t 56 3 = Int32.ofNat (hC H)
theorem CNX.fr {s s' : hp_I} {H : ab_H} (h : CNX s H) (e : s' 3 = s 3) : CNX s' H := by unfold CNX; rw [e]; exact h
theorem CNM.fr {t t' : hp_I} {H : ab_H} (h : CNM t H) (e : t' 56 = t 56) : CNM t' H := by unfold CNM; rw [e]; exact h
theorem zB.xg {s s' : hp_I} (h : zB (s 27 4) 26) (fx : XF s s') : zB (s' 27 4) 26 := by rw [fx.1 27 (by decide)]; exact h
def PS (X : tx) (H : ab_H) (s t : hp_I) (p : Nat) (N d : Nat) (s' t' : hp_I) : Prop := ∃ p' q' k' pl', JT X s' t' p' q' k' pl' ∧ XG wkP s s' ∧ MG wmP wmJ t t' ∧ zB (s' 27 4) 26 ∧ (k' = 0 → ∃ S' N', N < N' ∧ 6 * N' + p ≤ 6 * N + p' ∧ CTN s' t' N' ∧ FB s t s' t' N ∧ SXR s' t' S' N N' ∧ SEG H S' (N' - N) N N' d ∧ t' 52 8 = Int32.ofNat d)
theorem c_sput {s : hp_I} {kI a b : Int32} (hz : zB (s 27 4) 26) : ∃ s', fn_Steps_put 27 kI a b s = some s' ∧ XG wkP s s' ∧ zB (s' 27 4) 26 ∧ s' 1 = s 1 ∧ s' 2 = s 2 ∧ ∀ N, N < 25 → s 27 4 = Int32.ofNat N → s' 27 4 = Int32.ofNat (N + 1) ∧ (s' 28 N = kI ∧ s' 29 N = a ∧ s' 30 N = b ∧ s' 31 N = Int32.ofNat (N + 1)) ∧ ∀ j, j ≠ N → s' 28 j = s 28 j ∧ s' 29 j = s 29 j ∧ s' 30 j = s 30 j ∧ s' 31 j = s 31 j := by
  obtain ⟨m, hm, e⟩ := hz
  unfold fn_Steps_put
  rw [e_jn, e]
  by_cases c : m < 25
  · rw [if_pos (show Int32.ofNat m < 25 from zl_lt (b := 25) c (by decide)), kf_0, kf_1, kf_2, kf_3, zi_ast (by rw [kn_28]; exact c) (by omega), e_bd, hp_s_n (show 27 ≠ 28 by decide), e, zi_ast (by rw [kn_29]; exact c) (by omega), e_bd, hp_s_n (show 27 ≠ 29 by decide), hp_s_n (show 27 ≠ 28 by decide), e, zi_ast (by rw [kn_30]; exact c) (by omega), e_bd, hp_s_n (show 27 ≠ 30 by decide), hp_s_n (show 27 ≠ 29 by decide), hp_s_n (show 27 ≠ 28 by decide), e, zi_succ, e_let, hs_at, zi_sub1 (by omega), Nat.add_sub_cancel, zi_ast (by rw [kn_31]; exact c) (by omega), e_bd]
    refine ⟨_, rfl, ⟨fun i h1 h2 => ?_, ?_⟩, ⟨m + 1, by omega, ?_⟩, ?_, ?_, fun N hN eN => ?_⟩
    · unfold wkP at h2
      rw [hp_s_n (by omega), hp_s_n (by omega), hp_s_n (by omega), hp_s_n (by omega), hp_s_n (by omega)]
    · rw [hp_s_n (by decide), hp_s_n (by decide), hp_s_n (by decide), hp_s_n (by decide), hp_s_n (by decide)]
    · rw [hs_ne (by omega), hs_at]
    · rw [hp_s_n (by decide), hp_s_n (by decide), hp_s_n (by decide), hp_s_n (by decide), hp_s_n (by decide)]
    · rw [hp_s_n (by decide), hp_s_n (by decide), hp_s_n (by decide), hp_s_n (by decide), hp_s_n (by decide)]
    · have em : m = N := by
        rw [zi_inj (by omega) (by omega)] at eN
        exact eN
      subst em
      refine ⟨by rw [hs_ne (by omega), hs_at], ⟨?_, ?_, ?_, ?_⟩, fun j hj => ⟨?_, ?_, ?_, ?_⟩⟩
      · rw [hs_ne (by omega), hs_ne (by omega), hs_ne (by omega), hs_ne (by omega), hs_at]
      · rw [hs_ne (by omega), hs_ne (by omega), hs_ne (by omega), hs_at]
      · rw [hs_ne (by omega), hs_ne (by omega), hs_at]
      · rw [hs_at]
      · rw [hs_ne (by omega), hs_ne (by omega), hs_ne (by omega), hs_ne (by omega), hs_ne (by omega)]
      · rw [hs_ne (by omega), hs_ne (by omega), hs_ne (by omega), hs_ne (by omega), hs_ne (by omega)]
      · rw [hs_ne (by omega), hs_ne (by omega), hs_ne (by omega), hs_ne (by omega), hs_ne (by omega)]
      · rw [hs_ne (by omega), hs_ne (by omega), hs_ne (by omega), hs_ne (by omega), hs_ne (by omega)]
  · rw [if_neg (show ¬ Int32.ofNat m < 25 from zl_nlt (b := 25) (by omega) (by omega))]
    refine ⟨s, rfl, XG.refl, ⟨m, hm, e⟩, rfl, rfl, fun N hN eN => ?_⟩
    rw [zi_inj (by omega) (by omega)] at eN
    omega
def updS (S : ab_S) (N : Nat) (v : Nat × Nat × Nat × Nat) : ab_S := fun i => if i = N then v else S i
theorem updS_i {S : ab_S} {N : Nat} {v : Nat × Nat × Nat × Nat} : updS S N v N = v := if_pos rfl
theorem updS_n {S : ab_S} {N i : Nat} {v : Nat × Nat × Nat × Nat} (h : i ≠ N) : updS S N v i = S i := if_neg h
theorem rd_56 {t : hp_I} {k : Nat} (hk : k < 4) : px_ald t 56 (Int32.ofNat k) = some (t 56 k) := zi_ald (by rw [sn_56]; exact hk) (by omega)
theorem wr_492 {t : hp_I} {a j : Nat} {v : Int32} (ha : a < 80) (hj : j < 4) : px_ast t (492 + a) (Int32.ofNat j) v = some (hp_s t (492 + a) j v) := zi_ast (by rw [kn_492 a ha]; exact hj) (by omega)
section WS
variable {X : tx} {s t t2 : hp_I} {p N d : Nat} {H : ab_H} {rm : Nat → hp_I → Option hp_I}
theorem b_shide (te : TE X) (hX : X.2 ≤ 150) (x2 : XT X s (sk X (p + [104, 105, 100, 101].length)) 0 (-1)) (m2 : MT X t2 p 0 (-1)) (g : wdB X p 0 [104, 105, 100, 101] = true) (ok : HOK H) (cx : CNX s H) (cm : CNM t2 H) (sd : CTN s t2 N) (h8 : t2 52 8 = Int32.ofNat d) (h6 : 6 * N ≤ p) (hk : fn_M_stepHere 52 t = some (0, t2)) : ∃ s3 s' t', (∀ {α : Type} (G : hp_I → Option α), (px_b2 (fn_Tape_number 1 (0 : Int32) ((s 3 2) - (1 : Int32)) s) fun z10 s11 => px_b2 (fn_Tape_number 1 (0 : Int32) ((s11 3 0) - (1 : Int32)) s11) fun z12 s13 => Option.bind (fn_Steps_put 27 (0 : Int32) z10 z12 s13) fun s15 => G s15) = G s3) ∧ fn_Tape_expect 1 (59 : Int32) s3 = some s' ∧ bd_M_readsStep rm 52 t = some t' ∧ PS X H s t2 p N d s' t' := by
  obtain ⟨o1, o2, o3, o4, -⟩ := ok
  obtain ⟨sd1, sd2⟩ := sd
  obtain ⟨cxR, cxW, cxS, cxC⟩ := cx
  obtain ⟨cmR, cmW, cmS, cmC⟩ := cm
  have hpX := m2.2.1
  have hskl : p + 4 ≤ sk X (p + [104, 105, 100, 101].length) := sk_ge
  obtain ⟨t3, y1, y2, y3, y4⟩ := b_skip te x2 m2 w_hide g
  have hle0 := y2.le
  have hN25 : N < 25 := by omega
  have hz : zB (s 27 4) 26 := ⟨N, by omega, sd1⟩
  have e24 : t3 52 24 = Int32.ofNat N := by rw [y3.2 24 (by decide) (by decide) (by decide)]; exact sd2
  have b4 := (y2.ws (j := 24) (x := Int32.ofNat (N + 1)) (by decide) (by decide) (by decide) (by decide)).wm (a := 492 + N) (b := 0) (x := 0) (by omega) (by omega)
  obtain ⟨a0, c0, v0, p0, q0, k0, pl0, n0, m0, h0, fx0, fm0, l0, hv0, hk0, -⟩ := b_num te b4 (0 : Int32) (Int32.ofNat (hS H) - 1)
  have w0 := h0.wm (a := 492 + N) (b := 1) (x := if k0 = 0 then Int32.ofNat v0 else 0) (by omega) (by omega)
  obtain ⟨a1, c1, v1, p1, q1, k1, pl1, n1, m1, h1, fx1, fm1, l1, hv1, hk1, -⟩ := b_num te w0 (0 : Int32) (Int32.ofNat (hR H) - 1)
  have w1 := h1.wm (a := 492 + N) (b := 2) (x := if k1 = 0 then Int32.ofNat v1 else 0) (by omega) (by omega)
  obtain ⟨s3, u1, u2, u3, u4, u5, u6⟩ := c_sput (kI := 0) (a := (Int32.ofNat v0)) (b := (Int32.ofNat v1)) (hz.xg (fx0.trans fx1))
  have e24f : (hp_s c1 (492 + N) 2 (if k1 = 0 then Int32.ofNat v1 else 0)) 52 24 = Int32.ofNat (N + 1) := by rw [hs_ne (by omega), fm1.2 24 (by decide) (by decide) (by decide), hs_ne (by omega), fm0.2 24 (by decide) (by decide) (by decide), hs_ne (by omega), hs_at]
  have b5 : JT X s3 (hp_s (hp_s c1 (492 + N) 2 (if k1 = 0 then Int32.ofNat v1 else 0)) (492 + N) 3 (Int32.ofNat (N + 1))) p1 q1 k1 pl1 := ⟨w1.1.fr u4 u5, w1.2.1.put (by omega) (by omega), w1.2.2⟩
  obtain ⟨s8, t8, p8, q8, k8, pl8, g1, g2, h8s, fx8, fm8, hk8, -⟩ := b_sign te b5 (c := 59) (by decide)
  refine ⟨s3, s8, t8, fun G => ?_, g1, ?_, p8, q8, k8, pl8, h8s, ((fx0.trans fx1).g.trans u2).trans fx8.g, ?_, u3.xg fx8, fun ck => ?_⟩
  · rw [cxS, n0, e_b2, show a0 3 0 = Int32.ofNat (hR H) from by rw [fx0.1 3 (by decide)]; exact cxR, n1, e_b2, u1, e_bd]
  · unfold bd_M_readsStep
    rw [hk, e_b2, e_let, e_jn, if_neg (show ¬ (0 : Int32) = -1 from by decide)]
    try dsimp only
    rw [e_jn, if_neg (show ¬ (0 : Int32) = 6 from by decide)]
    try dsimp only
    rw [m2.1.2.2.1, if_pos (show Int32.ofNat 0 = 0 from rfl), y1, e_bd, sm_23, sm_12, e24, zi_rld (show N < sh_ln 491 by rw [kn_491]; omega) (by omega), kf_491, e_bd, zi_succ, e_let, show ∀ (f : hp_I) (x : Int32), px_ast f (492 + N) (0 : Int32) x = some (hp_s f (492 + N) 0 x) from fun f x => wr_492 (j := 0) (by omega) (by decide), e_bd, e_jn, e_jn, if_pos (show (0 : Int32) = 0 from rfl), show px_ald (hp_s (hp_s t3 52 24 (Int32.ofNat (N + 1))) (492 + N) 0 0) 56 (2 : Int32) = some (Int32.ofNat (hS H)) from by rw [show px_ald (hp_s (hp_s t3 52 24 (Int32.ofNat (N + 1))) (492 + N) 0 0) 56 (2 : Int32) = some _ from rd_56 (k := 2) (by decide), hs_ne (by omega), hs_ne (by omega), y3.1 56 (by decide)]; exact congrArg some cmS, e_bd, m0, e_b2, show ∀ (f : hp_I) (x : Int32), px_ast f (492 + N) (1 : Int32) x = some (hp_s f (492 + N) 1 x) from fun f x => wr_492 (j := 1) (by omega) (by decide), e_bd]
    try dsimp only
    rw [e_jn, if_neg (show ¬ (0 : Int32) = 1 from by decide)]
    try dsimp only
    rw [e_jn, if_neg (show ¬ (0 : Int32) = 4 from by decide)]
    try dsimp only
    rw [e_jn, if_pos (show (0 : Int32) < 2 from by decide), show px_ald (hp_s c0 (492 + N) 1 (if k0 = 0 then Int32.ofNat v0 else 0)) 56 (0 : Int32) = some (Int32.ofNat (hR H)) from by rw [show px_ald (hp_s c0 (492 + N) 1 (if k0 = 0 then Int32.ofNat v0 else 0)) 56 (0 : Int32) = some _ from rd_56 (k := 0) (by decide), hs_ne (by omega), fm0.1 56 (by decide), hs_ne (by omega), hs_ne (by omega), y3.1 56 (by decide)]; exact congrArg some cmR, e_bd, m1, e_b2, show ∀ (f : hp_I) (x : Int32), px_ast f (492 + N) (2 : Int32) x = some (hp_s f (492 + N) 2 x) from fun f x => wr_492 (j := 2) (by omega) (by decide), e_bd]
    try dsimp only
    rw [e_jn, if_neg (show ¬ (0 : Int32) = 2 from by decide)]
    try dsimp only
    rw [e_jn, if_neg (show ¬ (0 : Int32) = 3 from by decide)]
    try dsimp only
    rw [e_jn, if_neg (show ¬ (0 : Int32) = 6 from by decide)]
    try dsimp only
    rw [e24f, show ∀ (f : hp_I) (x : Int32), px_ast f (492 + N) (3 : Int32) x = some (hp_s f (492 + N) 3 x) from fun f x => wr_492 (j := 3) (by omega) (by decide), e_bd, show fn_M_sign 52 (59 : Int32) _ = some t8 from g2, e_bd]
  · exact (((((((y3.g.trans (MG.slot (k := 24) (v := Int32.ofNat (N + 1)) (Or.inr rfl))).trans (MG.put (i := 492 + N) (k := 0) (v := 0) (by unfold wmP; omega) (by omega))).trans fm0.g).trans (MG.put (i := 492 + N) (k := 1) (v := if k0 = 0 then Int32.ofNat v0 else 0) (by unfold wmP; omega) (by omega))).trans fm1.g).trans (MG.put (i := 492 + N) (k := 2) (v := if k1 = 0 then Int32.ofNat v1 else 0) (by unfold wmP; omega) (by omega))).trans (MG.put (by unfold wmP; omega) (by omega))).trans fm8.g
  · have ckl := (hk8 ck).1
    have ck1 := ckl
    have ck0 := (hk1 ck1).1
    have r0 : v0 < hS H := in_prd hv0 (by omega) (hk0 ck0).2.1
    have r1 : v1 < hR H := in_prd hv1 (by omega) (hk1 ck1).2.1
    obtain ⟨z1, ⟨z2, z3, z4, z5⟩, z6⟩ := u6 N hN25 (by rw [fx1.1 27 (by decide), fx0.1 27 (by decide)]; exact sd1)
    refine ⟨fun _ => (0, v0, v1, N + 1), N + 1, by omega, by have := (hk0 ck0).2.2; have := (hk1 ck1).2.2; have := (hk8 ck).2; omega, ⟨?_, ?_⟩, fun i hi => ⟨?_, ?_⟩, ⟨by omega, fun i hi1 hi2 => ?_⟩, ?_, ?_⟩
    · rw [fx8.1 27 (by decide)]; exact z1
    · rw [fm8.2 24 (by decide) (by decide) (by decide), hs_ne (by omega)]; exact e24f
    · have e : i ≠ N := by omega
      rw [fx8.1 28 (by decide), fx8.1 29 (by decide), fx8.1 30 (by decide), fx8.1 31 (by decide), (z6 i e).1, (z6 i e).2.1, (z6 i e).2.2.1, (z6 i e).2.2.2, fx1.1 28 (by decide), fx1.1 29 (by decide), fx1.1 30 (by decide), fx1.1 31 (by decide), fx0.1 28 (by decide), fx0.1 29 (by decide), fx0.1 30 (by decide), fx0.1 31 (by decide)]
      exact ⟨rfl, rfl, rfl, rfl⟩
    · rw [fm8.1 (492 + i) (by omega), hp_s_n (by omega), hp_s_n (by omega), fm1.1 (492 + i) (by omega), hp_s_n (by omega), fm0.1 (492 + i) (by omega), hp_s_n (by omega), hp_s_n (by omega), y3.1 (492 + i) (by omega)]
    · have e : i = N := by omega
      subst e
      rw [fx8.1 28 (by decide), fx8.1 29 (by decide), fx8.1 30 (by decide), fx8.1 31 (by decide), fm8.1 _ (by omega)]
      exact ⟨⟨z2, z3, z4, z5⟩, by rw [hs_ne (by omega), hs_ne (by omega), fm1.1 _ (by omega), hs_ne (by omega), fm0.1 _ (by omega), hs_at]; rfl, fun _ => by rw [hs_ne (by omega), hs_ne (by omega), fm1.1 _ (by omega), hs_at, if_pos ck0], fun _ => by rw [hs_ne (by omega), hs_at, if_pos ck1], by rw [hs_at]⟩
    · rw [show N + 1 - N = 0 + 1 by omega]
      refine Or.inr ⟨by omega, ?_, ?_, Or.inr ⟨?_, ?_⟩, ?_⟩
      · exact Nat.lt_succ_self N
      · exact Nat.le_refl _
      · rfl
      · exact Or.inl ⟨rfl, r0, r1⟩
      · exact SEG.self 0 _ _
    · rw [fm8.2 8 (by decide) (by decide) (by decide), hs_ne (by omega), hs_ne (by omega), fm1.2 8 (by decide) (by decide) (by decide), hs_ne (by omega), fm0.2 8 (by decide) (by decide) (by decide), hs_ne (by omega), hs_ne (by omega), y3.2 8 (by decide) (by decide) (by decide)]; exact h8
theorem b_scall (te : TE X) (hX : X.2 ≤ 150) (x2 : XT X s (sk X (p + [99, 97, 108, 108].length)) 0 (-1)) (m2 : MT X t2 p 0 (-1)) (g : wdB X p 0 [99, 97, 108, 108] = true) (ok : HOK H) (cx : CNX s H) (cm : CNM t2 H) (sd : CTN s t2 N) (h8 : t2 52 8 = Int32.ofNat d) (h6 : 6 * N ≤ p) (hk : fn_M_stepHere 52 t = some (1, t2)) : ∃ s3 s' t', (∀ {α : Type} (G : hp_I → Option α), (px_b2 (fn_Tape_number 1 (0 : Int32) ((s 3 3) - (1 : Int32)) s) fun z10 s11 => px_b2 (fn_Tape_number 1 (0 : Int32) ((s11 3 0) - (1 : Int32)) s11) fun z12 s13 => Option.bind (fn_Steps_put 27 (1 : Int32) z10 z12 s13) fun s15 => G s15) = G s3) ∧ fn_Tape_expect 1 (59 : Int32) s3 = some s' ∧ bd_M_readsStep rm 52 t = some t' ∧ PS X H s t2 p N d s' t' := by
  obtain ⟨o1, o2, o3, o4, -⟩ := ok
  obtain ⟨sd1, sd2⟩ := sd
  obtain ⟨cxR, cxW, cxS, cxC⟩ := cx
  obtain ⟨cmR, cmW, cmS, cmC⟩ := cm
  have hpX := m2.2.1
  have hskl : p + 4 ≤ sk X (p + [99, 97, 108, 108].length) := sk_ge
  obtain ⟨t3, y1, y2, y3, y4⟩ := b_skip te x2 m2 w_call g
  have hle0 := y2.le
  have hN25 : N < 25 := by omega
  have hz : zB (s 27 4) 26 := ⟨N, by omega, sd1⟩
  have e24 : t3 52 24 = Int32.ofNat N := by rw [y3.2 24 (by decide) (by decide) (by decide)]; exact sd2
  have b4 := (y2.ws (j := 24) (x := Int32.ofNat (N + 1)) (by decide) (by decide) (by decide) (by decide)).wm (a := 492 + N) (b := 0) (x := 1) (by omega) (by omega)
  obtain ⟨a0, c0, v0, p0, q0, k0, pl0, n0, m0, h0, fx0, fm0, l0, hv0, hk0, -⟩ := b_num te b4 (0 : Int32) (Int32.ofNat (hC H) - 1)
  have w0 := h0.wm (a := 492 + N) (b := 1) (x := if k0 = 0 then Int32.ofNat v0 else 0) (by omega) (by omega)
  obtain ⟨a1, c1, v1, p1, q1, k1, pl1, n1, m1, h1, fx1, fm1, l1, hv1, hk1, -⟩ := b_num te w0 (0 : Int32) (Int32.ofNat (hR H) - 1)
  have w1 := h1.wm (a := 492 + N) (b := 2) (x := if k1 = 0 then Int32.ofNat v1 else 0) (by omega) (by omega)
  obtain ⟨s3, u1, u2, u3, u4, u5, u6⟩ := c_sput (kI := 1) (a := (Int32.ofNat v0)) (b := (Int32.ofNat v1)) (hz.xg (fx0.trans fx1))
  have e24f : (hp_s c1 (492 + N) 2 (if k1 = 0 then Int32.ofNat v1 else 0)) 52 24 = Int32.ofNat (N + 1) := by rw [hs_ne (by omega), fm1.2 24 (by decide) (by decide) (by decide), hs_ne (by omega), fm0.2 24 (by decide) (by decide) (by decide), hs_ne (by omega), hs_at]
  have b5 : JT X s3 (hp_s (hp_s c1 (492 + N) 2 (if k1 = 0 then Int32.ofNat v1 else 0)) (492 + N) 3 (Int32.ofNat (N + 1))) p1 q1 k1 pl1 := ⟨w1.1.fr u4 u5, w1.2.1.put (by omega) (by omega), w1.2.2⟩
  obtain ⟨s8, t8, p8, q8, k8, pl8, g1, g2, h8s, fx8, fm8, hk8, -⟩ := b_sign te b5 (c := 59) (by decide)
  refine ⟨s3, s8, t8, fun G => ?_, g1, ?_, p8, q8, k8, pl8, h8s, ((fx0.trans fx1).g.trans u2).trans fx8.g, ?_, u3.xg fx8, fun ck => ?_⟩
  · rw [cxC, n0, e_b2, show a0 3 0 = Int32.ofNat (hR H) from by rw [fx0.1 3 (by decide)]; exact cxR, n1, e_b2, u1, e_bd]
  · unfold bd_M_readsStep
    rw [hk, e_b2, e_let, e_jn, if_neg (show ¬ (1 : Int32) = -1 from by decide)]
    try dsimp only
    rw [e_jn, if_neg (show ¬ (1 : Int32) = 6 from by decide)]
    try dsimp only
    rw [m2.1.2.2.1, if_pos (show Int32.ofNat 0 = 0 from rfl), y1, e_bd, sm_23, sm_12, e24, zi_rld (show N < sh_ln 491 by rw [kn_491]; omega) (by omega), kf_491, e_bd, zi_succ, e_let, show ∀ (f : hp_I) (x : Int32), px_ast f (492 + N) (0 : Int32) x = some (hp_s f (492 + N) 0 x) from fun f x => wr_492 (j := 0) (by omega) (by decide), e_bd, e_jn, e_jn, if_neg (show ¬ (1 : Int32) = 0 from by decide), if_neg (show ¬ (1 : Int32) = 2 from by decide), if_neg (show ¬ (1 : Int32) = 3 from by decide)]
    try dsimp only
    rw [e_jn, if_pos (show (1 : Int32) = 1 from rfl), show px_ald (hp_s (hp_s t3 52 24 (Int32.ofNat (N + 1))) (492 + N) 0 1) 56 (3 : Int32) = some (Int32.ofNat (hC H)) from by rw [show px_ald (hp_s (hp_s t3 52 24 (Int32.ofNat (N + 1))) (492 + N) 0 1) 56 (3 : Int32) = some _ from rd_56 (k := 3) (by decide), hs_ne (by omega), hs_ne (by omega), y3.1 56 (by decide)]; exact congrArg some cmC, e_bd, m0, e_b2, show ∀ (f : hp_I) (x : Int32), px_ast f (492 + N) (1 : Int32) x = some (hp_s f (492 + N) 1 x) from fun f x => wr_492 (j := 1) (by omega) (by decide), e_bd]
    try dsimp only
    rw [e_jn, if_neg (show ¬ (1 : Int32) = 4 from by decide)]
    try dsimp only
    rw [e_jn, if_pos (show (1 : Int32) < 2 from by decide), show px_ald (hp_s c0 (492 + N) 1 (if k0 = 0 then Int32.ofNat v0 else 0)) 56 (0 : Int32) = some (Int32.ofNat (hR H)) from by rw [show px_ald (hp_s c0 (492 + N) 1 (if k0 = 0 then Int32.ofNat v0 else 0)) 56 (0 : Int32) = some _ from rd_56 (k := 0) (by decide), hs_ne (by omega), fm0.1 56 (by decide), hs_ne (by omega), hs_ne (by omega), y3.1 56 (by decide)]; exact congrArg some cmR, e_bd, m1, e_b2, show ∀ (f : hp_I) (x : Int32), px_ast f (492 + N) (2 : Int32) x = some (hp_s f (492 + N) 2 x) from fun f x => wr_492 (j := 2) (by omega) (by decide), e_bd]
    try dsimp only
    rw [e_jn, if_neg (show ¬ (1 : Int32) = 2 from by decide)]
    try dsimp only
    rw [e_jn, if_neg (show ¬ (1 : Int32) = 3 from by decide)]
    try dsimp only
    rw [e_jn, if_neg (show ¬ (1 : Int32) = 6 from by decide)]
    try dsimp only
    rw [e24f, show ∀ (f : hp_I) (x : Int32), px_ast f (492 + N) (3 : Int32) x = some (hp_s f (492 + N) 3 x) from fun f x => wr_492 (j := 3) (by omega) (by decide), e_bd, show fn_M_sign 52 (59 : Int32) _ = some t8 from g2, e_bd]
  · exact (((((((y3.g.trans (MG.slot (k := 24) (v := Int32.ofNat (N + 1)) (Or.inr rfl))).trans (MG.put (i := 492 + N) (k := 0) (v := 1) (by unfold wmP; omega) (by omega))).trans fm0.g).trans (MG.put (i := 492 + N) (k := 1) (v := if k0 = 0 then Int32.ofNat v0 else 0) (by unfold wmP; omega) (by omega))).trans fm1.g).trans (MG.put (i := 492 + N) (k := 2) (v := if k1 = 0 then Int32.ofNat v1 else 0) (by unfold wmP; omega) (by omega))).trans (MG.put (by unfold wmP; omega) (by omega))).trans fm8.g
  · have ckl := (hk8 ck).1
    have ck1 := ckl
    have ck0 := (hk1 ck1).1
    have r0 : v0 < hC H := in_prd hv0 (by omega) (hk0 ck0).2.1
    have r1 : v1 < hR H := in_prd hv1 (by omega) (hk1 ck1).2.1
    obtain ⟨z1, ⟨z2, z3, z4, z5⟩, z6⟩ := u6 N hN25 (by rw [fx1.1 27 (by decide), fx0.1 27 (by decide)]; exact sd1)
    refine ⟨fun _ => (1, v0, v1, N + 1), N + 1, by omega, by have := (hk0 ck0).2.2; have := (hk1 ck1).2.2; have := (hk8 ck).2; omega, ⟨?_, ?_⟩, fun i hi => ⟨?_, ?_⟩, ⟨by omega, fun i hi1 hi2 => ?_⟩, ?_, ?_⟩
    · rw [fx8.1 27 (by decide)]; exact z1
    · rw [fm8.2 24 (by decide) (by decide) (by decide), hs_ne (by omega)]; exact e24f
    · have e : i ≠ N := by omega
      rw [fx8.1 28 (by decide), fx8.1 29 (by decide), fx8.1 30 (by decide), fx8.1 31 (by decide), (z6 i e).1, (z6 i e).2.1, (z6 i e).2.2.1, (z6 i e).2.2.2, fx1.1 28 (by decide), fx1.1 29 (by decide), fx1.1 30 (by decide), fx1.1 31 (by decide), fx0.1 28 (by decide), fx0.1 29 (by decide), fx0.1 30 (by decide), fx0.1 31 (by decide)]
      exact ⟨rfl, rfl, rfl, rfl⟩
    · rw [fm8.1 (492 + i) (by omega), hp_s_n (by omega), hp_s_n (by omega), fm1.1 (492 + i) (by omega), hp_s_n (by omega), fm0.1 (492 + i) (by omega), hp_s_n (by omega), hp_s_n (by omega), y3.1 (492 + i) (by omega)]
    · have e : i = N := by omega
      subst e
      rw [fx8.1 28 (by decide), fx8.1 29 (by decide), fx8.1 30 (by decide), fx8.1 31 (by decide), fm8.1 _ (by omega)]
      exact ⟨⟨z2, z3, z4, z5⟩, by rw [hs_ne (by omega), hs_ne (by omega), fm1.1 _ (by omega), hs_ne (by omega), fm0.1 _ (by omega), hs_at]; rfl, fun _ => by rw [hs_ne (by omega), hs_ne (by omega), fm1.1 _ (by omega), hs_at, if_pos ck0], fun _ => by rw [hs_ne (by omega), hs_at, if_pos ck1], by rw [hs_at]⟩
    · rw [show N + 1 - N = 0 + 1 by omega]
      refine Or.inr ⟨by omega, ?_, ?_, Or.inr ⟨?_, ?_⟩, ?_⟩
      · exact Nat.lt_succ_self N
      · exact Nat.le_refl _
      · rfl
      · exact Or.inr (Or.inl ⟨rfl, r0, r1⟩)
      · exact SEG.self 0 _ _
    · rw [fm8.2 8 (by decide) (by decide) (by decide), hs_ne (by omega), hs_ne (by omega), fm1.2 8 (by decide) (by decide) (by decide), hs_ne (by omega), fm0.2 8 (by decide) (by decide) (by decide), hs_ne (by omega), hs_ne (by omega), y3.2 8 (by decide) (by decide) (by decide)]; exact h8
theorem b_sfeed (te : TE X) (hX : X.2 ≤ 150) (x2 : XT X s (sk X (p + [102, 101, 101, 100].length)) 0 (-1)) (m2 : MT X t2 p 0 (-1)) (g : wdB X p 0 [102, 101, 101, 100] = true) (ok : HOK H) (cx : CNX s H) (cm : CNM t2 H) (sd : CTN s t2 N) (h8 : t2 52 8 = Int32.ofNat d) (h6 : 6 * N ≤ p) (hk : fn_M_stepHere 52 t = some (2, t2)) : ∃ s3 s' t', (∀ {α : Type} (G : hp_I → Option α), (px_b2 (fn_Tape_number 1 (0 : Int32) ((s 3 2) - (1 : Int32)) s) fun z10 s11 => px_b2 (fn_Tape_number 1 (1 : Int32) (60 : Int32) s11) fun z12 s13 => Option.bind (fn_Steps_put 27 (2 : Int32) z10 z12 s13) fun s15 => G s15) = G s3) ∧ fn_Tape_expect 1 (59 : Int32) s3 = some s' ∧ bd_M_readsStep rm 52 t = some t' ∧ PS X H s t2 p N d s' t' := by
  obtain ⟨o1, o2, o3, o4, -⟩ := ok
  obtain ⟨sd1, sd2⟩ := sd
  obtain ⟨cxR, cxW, cxS, cxC⟩ := cx
  obtain ⟨cmR, cmW, cmS, cmC⟩ := cm
  have hpX := m2.2.1
  have hskl : p + 4 ≤ sk X (p + [102, 101, 101, 100].length) := sk_ge
  obtain ⟨t3, y1, y2, y3, y4⟩ := b_skip te x2 m2 w_feed g
  have hle0 := y2.le
  have hN25 : N < 25 := by omega
  have hz : zB (s 27 4) 26 := ⟨N, by omega, sd1⟩
  have e24 : t3 52 24 = Int32.ofNat N := by rw [y3.2 24 (by decide) (by decide) (by decide)]; exact sd2
  have b4 := (y2.ws (j := 24) (x := Int32.ofNat (N + 1)) (by decide) (by decide) (by decide) (by decide)).wm (a := 492 + N) (b := 0) (x := 2) (by omega) (by omega)
  obtain ⟨a0, c0, v0, p0, q0, k0, pl0, n0, m0, h0, fx0, fm0, l0, hv0, hk0, -⟩ := b_num te b4 (0 : Int32) (Int32.ofNat (hS H) - 1)
  have w0 := h0.wm (a := 492 + N) (b := 1) (x := if k0 = 0 then Int32.ofNat v0 else 0) (by omega) (by omega)
  obtain ⟨a1, c1, v1, p1, q1, k1, pl1, n1, m1, h1, fx1, fm1, l1, hv1, hk1, -⟩ := b_num te w0 (1 : Int32) (60 : Int32)
  have w1 := h1.wm (a := 492 + N) (b := 2) (x := if k1 = 0 then Int32.ofNat v1 else 0) (by omega) (by omega)
  obtain ⟨s3, u1, u2, u3, u4, u5, u6⟩ := c_sput (kI := 2) (a := (Int32.ofNat v0)) (b := (Int32.ofNat v1)) (hz.xg (fx0.trans fx1))
  have e24f : (hp_s c1 (492 + N) 2 (if k1 = 0 then Int32.ofNat v1 else 0)) 52 24 = Int32.ofNat (N + 1) := by rw [hs_ne (by omega), fm1.2 24 (by decide) (by decide) (by decide), hs_ne (by omega), fm0.2 24 (by decide) (by decide) (by decide), hs_ne (by omega), hs_at]
  have b5 : JT X s3 (hp_s (hp_s c1 (492 + N) 2 (if k1 = 0 then Int32.ofNat v1 else 0)) (492 + N) 3 (Int32.ofNat (N + 1))) p1 q1 k1 pl1 := ⟨w1.1.fr u4 u5, w1.2.1.put (by omega) (by omega), w1.2.2⟩
  obtain ⟨s8, t8, p8, q8, k8, pl8, g1, g2, h8s, fx8, fm8, hk8, -⟩ := b_sign te b5 (c := 59) (by decide)
  refine ⟨s3, s8, t8, fun G => ?_, g1, ?_, p8, q8, k8, pl8, h8s, ((fx0.trans fx1).g.trans u2).trans fx8.g, ?_, u3.xg fx8, fun ck => ?_⟩
  · rw [cxS, n0, e_b2, n1, e_b2, u1, e_bd]
  · unfold bd_M_readsStep
    rw [hk, e_b2, e_let, e_jn, if_neg (show ¬ (2 : Int32) = -1 from by decide)]
    try dsimp only
    rw [e_jn, if_neg (show ¬ (2 : Int32) = 6 from by decide)]
    try dsimp only
    rw [m2.1.2.2.1, if_pos (show Int32.ofNat 0 = 0 from rfl), y1, e_bd, sm_23, sm_12, e24, zi_rld (show N < sh_ln 491 by rw [kn_491]; omega) (by omega), kf_491, e_bd, zi_succ, e_let, show ∀ (f : hp_I) (x : Int32), px_ast f (492 + N) (0 : Int32) x = some (hp_s f (492 + N) 0 x) from fun f x => wr_492 (j := 0) (by omega) (by decide), e_bd, e_jn, e_jn, if_neg (show ¬ (2 : Int32) = 0 from by decide), if_pos (show (2 : Int32) = 2 from rfl), show px_ald (hp_s (hp_s t3 52 24 (Int32.ofNat (N + 1))) (492 + N) 0 2) 56 (2 : Int32) = some (Int32.ofNat (hS H)) from by rw [show px_ald (hp_s (hp_s t3 52 24 (Int32.ofNat (N + 1))) (492 + N) 0 2) 56 (2 : Int32) = some _ from rd_56 (k := 2) (by decide), hs_ne (by omega), hs_ne (by omega), y3.1 56 (by decide)]; exact congrArg some cmS, e_bd, m0, e_b2, show ∀ (f : hp_I) (x : Int32), px_ast f (492 + N) (1 : Int32) x = some (hp_s f (492 + N) 1 x) from fun f x => wr_492 (j := 1) (by omega) (by decide), e_bd]
    try dsimp only
    rw [e_jn, if_neg (show ¬ (2 : Int32) = 1 from by decide)]
    try dsimp only
    rw [e_jn, if_neg (show ¬ (2 : Int32) = 4 from by decide)]
    try dsimp only
    rw [e_jn, if_neg (show ¬ (2 : Int32) < 2 from by decide)]
    try dsimp only
    rw [e_jn, if_pos (show (2 : Int32) = 2 from rfl), m1, e_b2, show ∀ (f : hp_I) (x : Int32), px_ast f (492 + N) (2 : Int32) x = some (hp_s f (492 + N) 2 x) from fun f x => wr_492 (j := 2) (by omega) (by decide), e_bd]
    try dsimp only
    rw [e_jn, if_neg (show ¬ (2 : Int32) = 3 from by decide)]
    try dsimp only
    rw [e_jn, if_neg (show ¬ (2 : Int32) = 6 from by decide)]
    try dsimp only
    rw [e24f, show ∀ (f : hp_I) (x : Int32), px_ast f (492 + N) (3 : Int32) x = some (hp_s f (492 + N) 3 x) from fun f x => wr_492 (j := 3) (by omega) (by decide), e_bd, show fn_M_sign 52 (59 : Int32) _ = some t8 from g2, e_bd]
  · exact (((((((y3.g.trans (MG.slot (k := 24) (v := Int32.ofNat (N + 1)) (Or.inr rfl))).trans (MG.put (i := 492 + N) (k := 0) (v := 2) (by unfold wmP; omega) (by omega))).trans fm0.g).trans (MG.put (i := 492 + N) (k := 1) (v := if k0 = 0 then Int32.ofNat v0 else 0) (by unfold wmP; omega) (by omega))).trans fm1.g).trans (MG.put (i := 492 + N) (k := 2) (v := if k1 = 0 then Int32.ofNat v1 else 0) (by unfold wmP; omega) (by omega))).trans (MG.put (by unfold wmP; omega) (by omega))).trans fm8.g
  · have ckl := (hk8 ck).1
    have ck1 := ckl
    have ck0 := (hk1 ck1).1
    have r0 : v0 < hS H := in_prd hv0 (by omega) (hk0 ck0).2.1
    have r1 := in_nat (a := 1) (b := 60) hv1 (by decide) (by decide) (hk1 ck1).2.1
    obtain ⟨z1, ⟨z2, z3, z4, z5⟩, z6⟩ := u6 N hN25 (by rw [fx1.1 27 (by decide), fx0.1 27 (by decide)]; exact sd1)
    refine ⟨fun _ => (2, v0, v1, N + 1), N + 1, by omega, by have := (hk0 ck0).2.2; have := (hk1 ck1).2.2; have := (hk8 ck).2; omega, ⟨?_, ?_⟩, fun i hi => ⟨?_, ?_⟩, ⟨by omega, fun i hi1 hi2 => ?_⟩, ?_, ?_⟩
    · rw [fx8.1 27 (by decide)]; exact z1
    · rw [fm8.2 24 (by decide) (by decide) (by decide), hs_ne (by omega)]; exact e24f
    · have e : i ≠ N := by omega
      rw [fx8.1 28 (by decide), fx8.1 29 (by decide), fx8.1 30 (by decide), fx8.1 31 (by decide), (z6 i e).1, (z6 i e).2.1, (z6 i e).2.2.1, (z6 i e).2.2.2, fx1.1 28 (by decide), fx1.1 29 (by decide), fx1.1 30 (by decide), fx1.1 31 (by decide), fx0.1 28 (by decide), fx0.1 29 (by decide), fx0.1 30 (by decide), fx0.1 31 (by decide)]
      exact ⟨rfl, rfl, rfl, rfl⟩
    · rw [fm8.1 (492 + i) (by omega), hp_s_n (by omega), hp_s_n (by omega), fm1.1 (492 + i) (by omega), hp_s_n (by omega), fm0.1 (492 + i) (by omega), hp_s_n (by omega), hp_s_n (by omega), y3.1 (492 + i) (by omega)]
    · have e : i = N := by omega
      subst e
      rw [fx8.1 28 (by decide), fx8.1 29 (by decide), fx8.1 30 (by decide), fx8.1 31 (by decide), fm8.1 _ (by omega)]
      exact ⟨⟨z2, z3, z4, z5⟩, by rw [hs_ne (by omega), hs_ne (by omega), fm1.1 _ (by omega), hs_ne (by omega), fm0.1 _ (by omega), hs_at]; rfl, fun _ => by rw [hs_ne (by omega), hs_ne (by omega), fm1.1 _ (by omega), hs_at, if_pos ck0], fun _ => by rw [hs_ne (by omega), hs_at, if_pos ck1], by rw [hs_at]⟩
    · rw [show N + 1 - N = 0 + 1 by omega]
      refine Or.inr ⟨by omega, ?_, ?_, Or.inr ⟨?_, ?_⟩, ?_⟩
      · exact Nat.lt_succ_self N
      · exact Nat.le_refl _
      · rfl
      · exact Or.inr (Or.inr (Or.inl ⟨rfl, r0, r1.1, r1.2⟩))
      · exact SEG.self 0 _ _
    · rw [fm8.2 8 (by decide) (by decide) (by decide), hs_ne (by omega), hs_ne (by omega), fm1.2 8 (by decide) (by decide) (by decide), hs_ne (by omega), fm0.2 8 (by decide) (by decide) (by decide), hs_ne (by omega), hs_ne (by omega), y3.2 8 (by decide) (by decide) (by decide)]; exact h8
theorem b_sjoin (te : TE X) (hX : X.2 ≤ 150) (x2 : XT X s (sk X (p + [106, 111, 105, 110].length)) 0 (-1)) (m2 : MT X t2 p 0 (-1)) (g : wdB X p 0 [106, 111, 105, 110] = true) (ok : HOK H) (cx : CNX s H) (cm : CNM t2 H) (sd : CTN s t2 N) (h8 : t2 52 8 = Int32.ofNat d) (h6 : 6 * N ≤ p) (hk : fn_M_stepHere 52 t = some (3, t2)) : ∃ s3 s' t', (∀ {α : Type} (G : hp_I → Option α), (px_b2 (fn_Tape_number 1 (0 : Int32) ((s 3 2) - (1 : Int32)) s) fun z10 s11 => px_b2 (fn_Tape_number 1 (0 : Int32) ((s11 3 2) - (1 : Int32)) s11) fun z12 s13 => Option.bind (fn_Steps_put 27 (3 : Int32) z10 z12 s13) fun s15 => G s15) = G s3) ∧ fn_Tape_expect 1 (59 : Int32) s3 = some s' ∧ bd_M_readsStep rm 52 t = some t' ∧ PS X H s t2 p N d s' t' := by
  obtain ⟨o1, o2, o3, o4, -⟩ := ok
  obtain ⟨sd1, sd2⟩ := sd
  obtain ⟨cxR, cxW, cxS, cxC⟩ := cx
  obtain ⟨cmR, cmW, cmS, cmC⟩ := cm
  have hpX := m2.2.1
  have hskl : p + 4 ≤ sk X (p + [106, 111, 105, 110].length) := sk_ge
  obtain ⟨t3, y1, y2, y3, y4⟩ := b_skip te x2 m2 w_join g
  have hle0 := y2.le
  have hN25 : N < 25 := by omega
  have hz : zB (s 27 4) 26 := ⟨N, by omega, sd1⟩
  have e24 : t3 52 24 = Int32.ofNat N := by rw [y3.2 24 (by decide) (by decide) (by decide)]; exact sd2
  have b4 := (y2.ws (j := 24) (x := Int32.ofNat (N + 1)) (by decide) (by decide) (by decide) (by decide)).wm (a := 492 + N) (b := 0) (x := 3) (by omega) (by omega)
  obtain ⟨a0, c0, v0, p0, q0, k0, pl0, n0, m0, h0, fx0, fm0, l0, hv0, hk0, -⟩ := b_num te b4 (0 : Int32) (Int32.ofNat (hS H) - 1)
  have w0 := h0.wm (a := 492 + N) (b := 1) (x := if k0 = 0 then Int32.ofNat v0 else 0) (by omega) (by omega)
  obtain ⟨a1, c1, v1, p1, q1, k1, pl1, n1, m1, h1, fx1, fm1, l1, hv1, hk1, -⟩ := b_num te w0 (0 : Int32) (Int32.ofNat (hS H) - 1)
  have w1 := h1.wm (a := 492 + N) (b := 2) (x := if k1 = 0 then Int32.ofNat v1 else 0) (by omega) (by omega)
  obtain ⟨s3, u1, u2, u3, u4, u5, u6⟩ := c_sput (kI := 3) (a := (Int32.ofNat v0)) (b := (Int32.ofNat v1)) (hz.xg (fx0.trans fx1))
  have e24f : (hp_s c1 (492 + N) 2 (if k1 = 0 then Int32.ofNat v1 else 0)) 52 24 = Int32.ofNat (N + 1) := by rw [hs_ne (by omega), fm1.2 24 (by decide) (by decide) (by decide), hs_ne (by omega), fm0.2 24 (by decide) (by decide) (by decide), hs_ne (by omega), hs_at]
  have b5 : JT X s3 (hp_s (hp_s c1 (492 + N) 2 (if k1 = 0 then Int32.ofNat v1 else 0)) (492 + N) 3 (Int32.ofNat (N + 1))) p1 q1 k1 pl1 := ⟨w1.1.fr u4 u5, w1.2.1.put (by omega) (by omega), w1.2.2⟩
  obtain ⟨s8, t8, p8, q8, k8, pl8, g1, g2, h8s, fx8, fm8, hk8, -⟩ := b_sign te b5 (c := 59) (by decide)
  refine ⟨s3, s8, t8, fun G => ?_, g1, ?_, p8, q8, k8, pl8, h8s, ((fx0.trans fx1).g.trans u2).trans fx8.g, ?_, u3.xg fx8, fun ck => ?_⟩
  · rw [cxS, n0, e_b2, show a0 3 2 = Int32.ofNat (hS H) from by rw [fx0.1 3 (by decide)]; exact cxS, n1, e_b2, u1, e_bd]
  · unfold bd_M_readsStep
    rw [hk, e_b2, e_let, e_jn, if_neg (show ¬ (3 : Int32) = -1 from by decide)]
    try dsimp only
    rw [e_jn, if_neg (show ¬ (3 : Int32) = 6 from by decide)]
    try dsimp only
    rw [m2.1.2.2.1, if_pos (show Int32.ofNat 0 = 0 from rfl), y1, e_bd, sm_23, sm_12, e24, zi_rld (show N < sh_ln 491 by rw [kn_491]; omega) (by omega), kf_491, e_bd, zi_succ, e_let, show ∀ (f : hp_I) (x : Int32), px_ast f (492 + N) (0 : Int32) x = some (hp_s f (492 + N) 0 x) from fun f x => wr_492 (j := 0) (by omega) (by decide), e_bd, e_jn, e_jn, if_neg (show ¬ (3 : Int32) = 0 from by decide), if_neg (show ¬ (3 : Int32) = 2 from by decide), if_pos (show (3 : Int32) = 3 from rfl), show px_ald (hp_s (hp_s t3 52 24 (Int32.ofNat (N + 1))) (492 + N) 0 3) 56 (2 : Int32) = some (Int32.ofNat (hS H)) from by rw [show px_ald (hp_s (hp_s t3 52 24 (Int32.ofNat (N + 1))) (492 + N) 0 3) 56 (2 : Int32) = some _ from rd_56 (k := 2) (by decide), hs_ne (by omega), hs_ne (by omega), y3.1 56 (by decide)]; exact congrArg some cmS, e_bd, m0, e_b2, show ∀ (f : hp_I) (x : Int32), px_ast f (492 + N) (1 : Int32) x = some (hp_s f (492 + N) 1 x) from fun f x => wr_492 (j := 1) (by omega) (by decide), e_bd]
    try dsimp only
    rw [e_jn, if_neg (show ¬ (3 : Int32) = 1 from by decide)]
    try dsimp only
    rw [e_jn, if_neg (show ¬ (3 : Int32) = 4 from by decide)]
    try dsimp only
    rw [e_jn, if_neg (show ¬ (3 : Int32) < 2 from by decide)]
    try dsimp only
    rw [e_jn, if_neg (show ¬ (3 : Int32) = 2 from by decide)]
    try dsimp only
    rw [e_jn, if_pos (show (3 : Int32) = 3 from rfl), show px_ald (hp_s c0 (492 + N) 1 (if k0 = 0 then Int32.ofNat v0 else 0)) 56 (2 : Int32) = some (Int32.ofNat (hS H)) from by rw [show px_ald (hp_s c0 (492 + N) 1 (if k0 = 0 then Int32.ofNat v0 else 0)) 56 (2 : Int32) = some _ from rd_56 (k := 2) (by decide), hs_ne (by omega), fm0.1 56 (by decide), hs_ne (by omega), hs_ne (by omega), y3.1 56 (by decide)]; exact congrArg some cmS, e_bd, m1, e_b2, show ∀ (f : hp_I) (x : Int32), px_ast f (492 + N) (2 : Int32) x = some (hp_s f (492 + N) 2 x) from fun f x => wr_492 (j := 2) (by omega) (by decide), e_bd]
    try dsimp only
    rw [e_jn, if_neg (show ¬ (3 : Int32) = 6 from by decide)]
    try dsimp only
    rw [e24f, show ∀ (f : hp_I) (x : Int32), px_ast f (492 + N) (3 : Int32) x = some (hp_s f (492 + N) 3 x) from fun f x => wr_492 (j := 3) (by omega) (by decide), e_bd, show fn_M_sign 52 (59 : Int32) _ = some t8 from g2, e_bd]
  · exact (((((((y3.g.trans (MG.slot (k := 24) (v := Int32.ofNat (N + 1)) (Or.inr rfl))).trans (MG.put (i := 492 + N) (k := 0) (v := 3) (by unfold wmP; omega) (by omega))).trans fm0.g).trans (MG.put (i := 492 + N) (k := 1) (v := if k0 = 0 then Int32.ofNat v0 else 0) (by unfold wmP; omega) (by omega))).trans fm1.g).trans (MG.put (i := 492 + N) (k := 2) (v := if k1 = 0 then Int32.ofNat v1 else 0) (by unfold wmP; omega) (by omega))).trans (MG.put (by unfold wmP; omega) (by omega))).trans fm8.g
  · have ckl := (hk8 ck).1
    have ck1 := ckl
    have ck0 := (hk1 ck1).1
    have r0 : v0 < hS H := in_prd hv0 (by omega) (hk0 ck0).2.1
    have r1 : v1 < hS H := in_prd hv1 (by omega) (hk1 ck1).2.1
    obtain ⟨z1, ⟨z2, z3, z4, z5⟩, z6⟩ := u6 N hN25 (by rw [fx1.1 27 (by decide), fx0.1 27 (by decide)]; exact sd1)
    refine ⟨fun _ => (3, v0, v1, N + 1), N + 1, by omega, by have := (hk0 ck0).2.2; have := (hk1 ck1).2.2; have := (hk8 ck).2; omega, ⟨?_, ?_⟩, fun i hi => ⟨?_, ?_⟩, ⟨by omega, fun i hi1 hi2 => ?_⟩, ?_, ?_⟩
    · rw [fx8.1 27 (by decide)]; exact z1
    · rw [fm8.2 24 (by decide) (by decide) (by decide), hs_ne (by omega)]; exact e24f
    · have e : i ≠ N := by omega
      rw [fx8.1 28 (by decide), fx8.1 29 (by decide), fx8.1 30 (by decide), fx8.1 31 (by decide), (z6 i e).1, (z6 i e).2.1, (z6 i e).2.2.1, (z6 i e).2.2.2, fx1.1 28 (by decide), fx1.1 29 (by decide), fx1.1 30 (by decide), fx1.1 31 (by decide), fx0.1 28 (by decide), fx0.1 29 (by decide), fx0.1 30 (by decide), fx0.1 31 (by decide)]
      exact ⟨rfl, rfl, rfl, rfl⟩
    · rw [fm8.1 (492 + i) (by omega), hp_s_n (by omega), hp_s_n (by omega), fm1.1 (492 + i) (by omega), hp_s_n (by omega), fm0.1 (492 + i) (by omega), hp_s_n (by omega), hp_s_n (by omega), y3.1 (492 + i) (by omega)]
    · have e : i = N := by omega
      subst e
      rw [fx8.1 28 (by decide), fx8.1 29 (by decide), fx8.1 30 (by decide), fx8.1 31 (by decide), fm8.1 _ (by omega)]
      exact ⟨⟨z2, z3, z4, z5⟩, by rw [hs_ne (by omega), hs_ne (by omega), fm1.1 _ (by omega), hs_ne (by omega), fm0.1 _ (by omega), hs_at]; rfl, fun _ => by rw [hs_ne (by omega), hs_ne (by omega), fm1.1 _ (by omega), hs_at, if_pos ck0], fun _ => by rw [hs_ne (by omega), hs_at, if_pos ck1], by rw [hs_at]⟩
    · rw [show N + 1 - N = 0 + 1 by omega]
      refine Or.inr ⟨by omega, ?_, ?_, Or.inr ⟨?_, ?_⟩, ?_⟩
      · exact Nat.lt_succ_self N
      · exact Nat.le_refl _
      · rfl
      · exact Or.inr (Or.inr (Or.inr (Or.inl ⟨rfl, r0, r1⟩)))
      · exact SEG.self 0 _ _
    · rw [fm8.2 8 (by decide) (by decide) (by decide), hs_ne (by omega), hs_ne (by omega), fm1.2 8 (by decide) (by decide) (by decide), hs_ne (by omega), fm0.2 8 (by decide) (by decide) (by decide), hs_ne (by omega), hs_ne (by omega), y3.2 8 (by decide) (by decide) (by decide)]; exact h8
theorem b_sshut (te : TE X) (hX : X.2 ≤ 150) (x2 : XT X s (sk X (p + [115, 104, 117, 116].length)) 0 (-1)) (m2 : MT X t2 p 0 (-1)) (g : wdB X p 0 [115, 104, 117, 116] = true) (ok : HOK H) (cx : CNX s H) (cm : CNM t2 H) (sd : CTN s t2 N) (h8 : t2 52 8 = Int32.ofNat d) (h6 : 6 * N ≤ p) (hk : fn_M_stepHere 52 t = some (4, t2)) : ∃ s3 s' t', (∀ {α : Type} (G : hp_I → Option α), (px_b2 (fn_Tape_number 1 (0 : Int32) ((s 3 1) - (1 : Int32)) s) fun z46 s47 => Option.bind (fn_Steps_put 27 (4 : Int32) z46 (0 : Int32) s47) fun s49 => G s49) = G s3) ∧ fn_Tape_expect 1 (59 : Int32) s3 = some s' ∧ bd_M_readsStep rm 52 t = some t' ∧ PS X H s t2 p N d s' t' := by
  obtain ⟨o1, o2, o3, o4, -⟩ := ok
  obtain ⟨sd1, sd2⟩ := sd
  obtain ⟨cxR, cxW, cxS, cxC⟩ := cx
  obtain ⟨cmR, cmW, cmS, cmC⟩ := cm
  have hpX := m2.2.1
  have hskl : p + 4 ≤ sk X (p + [115, 104, 117, 116].length) := sk_ge
  obtain ⟨t3, y1, y2, y3, y4⟩ := b_skip te x2 m2 w_shut g
  have hle0 := y2.le
  have hN25 : N < 25 := by omega
  have hz : zB (s 27 4) 26 := ⟨N, by omega, sd1⟩
  have e24 : t3 52 24 = Int32.ofNat N := by rw [y3.2 24 (by decide) (by decide) (by decide)]; exact sd2
  have b4 := (y2.ws (j := 24) (x := Int32.ofNat (N + 1)) (by decide) (by decide) (by decide) (by decide)).wm (a := 492 + N) (b := 0) (x := 4) (by omega) (by omega)
  obtain ⟨a0, c0, v0, p0, q0, k0, pl0, n0, m0, h0, fx0, fm0, l0, hv0, hk0, -⟩ := b_num te b4 (0 : Int32) (Int32.ofNat (hW H) - 1)
  have w0 := h0.wm (a := 492 + N) (b := 1) (x := if k0 = 0 then Int32.ofNat v0 else 0) (by omega) (by omega)
  obtain ⟨s3, u1, u2, u3, u4, u5, u6⟩ := c_sput (kI := 4) (a := (Int32.ofNat v0)) (b := (0 : Int32)) (hz.xg fx0)
  have e24f : (hp_s c0 (492 + N) 1 (if k0 = 0 then Int32.ofNat v0 else 0)) 52 24 = Int32.ofNat (N + 1) := by rw [hs_ne (by omega), fm0.2 24 (by decide) (by decide) (by decide), hs_ne (by omega), hs_at]
  have b5 : JT X s3 (hp_s (hp_s c0 (492 + N) 1 (if k0 = 0 then Int32.ofNat v0 else 0)) (492 + N) 3 (Int32.ofNat (N + 1))) p0 q0 k0 pl0 := ⟨w0.1.fr u4 u5, w0.2.1.put (by omega) (by omega), w0.2.2⟩
  obtain ⟨s8, t8, p8, q8, k8, pl8, g1, g2, h8s, fx8, fm8, hk8, -⟩ := b_sign te b5 (c := 59) (by decide)
  refine ⟨s3, s8, t8, fun G => ?_, g1, ?_, p8, q8, k8, pl8, h8s, (fx0.g.trans u2).trans fx8.g, ?_, u3.xg fx8, fun ck => ?_⟩
  · rw [cxW, n0, e_b2, u1, e_bd]
  · unfold bd_M_readsStep
    rw [hk, e_b2, e_let, e_jn, if_neg (show ¬ (4 : Int32) = -1 from by decide)]
    try dsimp only
    rw [e_jn, if_neg (show ¬ (4 : Int32) = 6 from by decide)]
    try dsimp only
    rw [m2.1.2.2.1, if_pos (show Int32.ofNat 0 = 0 from rfl), y1, e_bd, sm_23, sm_12, e24, zi_rld (show N < sh_ln 491 by rw [kn_491]; omega) (by omega), kf_491, e_bd, zi_succ, e_let, show ∀ (f : hp_I) (x : Int32), px_ast f (492 + N) (0 : Int32) x = some (hp_s f (492 + N) 0 x) from fun f x => wr_492 (j := 0) (by omega) (by decide), e_bd, e_jn, e_jn, if_neg (show ¬ (4 : Int32) = 0 from by decide), if_neg (show ¬ (4 : Int32) = 2 from by decide), if_neg (show ¬ (4 : Int32) = 3 from by decide)]
    try dsimp only
    rw [e_jn, if_neg (show ¬ (4 : Int32) = 1 from by decide)]
    try dsimp only
    rw [e_jn, if_pos (show (4 : Int32) = 4 from rfl), show px_ald (hp_s (hp_s t3 52 24 (Int32.ofNat (N + 1))) (492 + N) 0 4) 56 (1 : Int32) = some (Int32.ofNat (hW H)) from by rw [show px_ald (hp_s (hp_s t3 52 24 (Int32.ofNat (N + 1))) (492 + N) 0 4) 56 (1 : Int32) = some _ from rd_56 (k := 1) (by decide), hs_ne (by omega), hs_ne (by omega), y3.1 56 (by decide)]; exact congrArg some cmW, e_bd, m0, e_b2, show ∀ (f : hp_I) (x : Int32), px_ast f (492 + N) (1 : Int32) x = some (hp_s f (492 + N) 1 x) from fun f x => wr_492 (j := 1) (by omega) (by decide), e_bd]
    try dsimp only
    rw [e_jn, if_neg (show ¬ (4 : Int32) < 2 from by decide)]
    try dsimp only
    rw [e_jn, if_neg (show ¬ (4 : Int32) = 2 from by decide)]
    try dsimp only
    rw [e_jn, if_neg (show ¬ (4 : Int32) = 3 from by decide)]
    try dsimp only
    rw [e_jn, if_neg (show ¬ (4 : Int32) = 6 from by decide)]
    try dsimp only
    rw [e24f, show ∀ (f : hp_I) (x : Int32), px_ast f (492 + N) (3 : Int32) x = some (hp_s f (492 + N) 3 x) from fun f x => wr_492 (j := 3) (by omega) (by decide), e_bd, show fn_M_sign 52 (59 : Int32) _ = some t8 from g2, e_bd]
  · exact (((((y3.g.trans (MG.slot (k := 24) (v := Int32.ofNat (N + 1)) (Or.inr rfl))).trans (MG.put (i := 492 + N) (k := 0) (v := 4) (by unfold wmP; omega) (by omega))).trans fm0.g).trans (MG.put (i := 492 + N) (k := 1) (v := if k0 = 0 then Int32.ofNat v0 else 0) (by unfold wmP; omega) (by omega))).trans (MG.put (by unfold wmP; omega) (by omega))).trans fm8.g
  · have ckl := (hk8 ck).1
    have ck0 := ckl
    have r0 : v0 < hW H := in_prd hv0 (by omega) (hk0 ck0).2.1
    obtain ⟨z1, ⟨z2, z3, z4, z5⟩, z6⟩ := u6 N hN25 (by rw [fx0.1 27 (by decide)]; exact sd1)
    refine ⟨fun _ => (4, v0, 0, N + 1), N + 1, by omega, by have := (hk0 ck0).2.2; have := (hk8 ck).2; omega, ⟨?_, ?_⟩, fun i hi => ⟨?_, ?_⟩, ⟨by omega, fun i hi1 hi2 => ?_⟩, ?_, ?_⟩
    · rw [fx8.1 27 (by decide)]; exact z1
    · rw [fm8.2 24 (by decide) (by decide) (by decide), hs_ne (by omega)]; exact e24f
    · have e : i ≠ N := by omega
      rw [fx8.1 28 (by decide), fx8.1 29 (by decide), fx8.1 30 (by decide), fx8.1 31 (by decide), (z6 i e).1, (z6 i e).2.1, (z6 i e).2.2.1, (z6 i e).2.2.2, fx0.1 28 (by decide), fx0.1 29 (by decide), fx0.1 30 (by decide), fx0.1 31 (by decide)]
      exact ⟨rfl, rfl, rfl, rfl⟩
    · rw [fm8.1 (492 + i) (by omega), hp_s_n (by omega), hp_s_n (by omega), fm0.1 (492 + i) (by omega), hp_s_n (by omega), hp_s_n (by omega), y3.1 (492 + i) (by omega)]
    · have e : i = N := by omega
      subst e
      rw [fx8.1 28 (by decide), fx8.1 29 (by decide), fx8.1 30 (by decide), fx8.1 31 (by decide), fm8.1 _ (by omega)]
      exact ⟨⟨z2, z3, z4, z5⟩, by rw [hs_ne (by omega), hs_ne (by omega), fm0.1 _ (by omega), hs_at]; rfl, fun _ => by rw [hs_ne (by omega), hs_at, if_pos ck0], fun e => absurd e (by show ¬ 4 < 4; decide), by rw [hs_at]⟩
    · rw [show N + 1 - N = 0 + 1 by omega]
      refine Or.inr ⟨by omega, ?_, ?_, Or.inr ⟨?_, ?_⟩, ?_⟩
      · exact Nat.lt_succ_self N
      · exact Nat.le_refl _
      · rfl
      · exact Or.inr (Or.inr (Or.inr (Or.inr (Or.inl ⟨rfl, r0⟩))))
      · exact SEG.self 0 _ _
    · rw [fm8.2 8 (by decide) (by decide) (by decide), hs_ne (by omega), hs_ne (by omega), fm0.2 8 (by decide) (by decide) (by decide), hs_ne (by omega), hs_ne (by omega), y3.2 8 (by decide) (by decide) (by decide)]; exact h8
theorem b_snight (te : TE X) (hX : X.2 ≤ 150) (x2 : XT X s (sk X (p + [110, 105, 103, 104, 116].length)) 0 (-1)) (m2 : MT X t2 p 0 (-1)) (g : wdB X p 0 [110, 105, 103, 104, 116] = true) (ok : HOK H) (cx : CNX s H) (cm : CNM t2 H) (sd : CTN s t2 N) (h8 : t2 52 8 = Int32.ofNat d) (h6 : 6 * N ≤ p) (hk : fn_M_stepHere 52 t = some (5, t2)) : ∃ s3 s' t', (∀ {α : Type} (G : hp_I → Option α), (Option.bind (fn_Steps_put 27 (5 : Int32) (0 : Int32) (0 : Int32) s) fun s54 => G s54) = G s3) ∧ fn_Tape_expect 1 (59 : Int32) s3 = some s' ∧ bd_M_readsStep rm 52 t = some t' ∧ PS X H s t2 p N d s' t' := by
  obtain ⟨o1, o2, o3, o4, -⟩ := ok
  obtain ⟨sd1, sd2⟩ := sd
  obtain ⟨cxR, cxW, cxS, cxC⟩ := cx
  obtain ⟨cmR, cmW, cmS, cmC⟩ := cm
  have hpX := m2.2.1
  have hskl : p + 5 ≤ sk X (p + [110, 105, 103, 104, 116].length) := sk_ge
  obtain ⟨t3, y1, y2, y3, y4⟩ := b_skip te x2 m2 w_night g
  have hle0 := y2.le
  have hN25 : N < 25 := by omega
  have hz : zB (s 27 4) 26 := ⟨N, by omega, sd1⟩
  have e24 : t3 52 24 = Int32.ofNat N := by rw [y3.2 24 (by decide) (by decide) (by decide)]; exact sd2
  have b4 := (y2.ws (j := 24) (x := Int32.ofNat (N + 1)) (by decide) (by decide) (by decide) (by decide)).wm (a := 492 + N) (b := 0) (x := 5) (by omega) (by omega)
  obtain ⟨s3, u1, u2, u3, u4, u5, u6⟩ := c_sput (kI := 5) (a := (0 : Int32)) (b := (0 : Int32)) (hz.xg XF.refl)
  have e24f : (hp_s (hp_s t3 52 24 (Int32.ofNat (N + 1))) (492 + N) 0 5) 52 24 = Int32.ofNat (N + 1) := by rw [hs_ne (by omega), hs_at]
  have b5 : JT X s3 (hp_s (hp_s (hp_s t3 52 24 (Int32.ofNat (N + 1))) (492 + N) 0 5) (492 + N) 3 (Int32.ofNat (N + 1))) (sk X (p + [110, 105, 103, 104, 116].length)) (p + [110, 105, 103, 104, 116].length) 0 (-1) := ⟨b4.1.fr u4 u5, b4.2.1.put (by omega) (by omega), b4.2.2⟩
  obtain ⟨s8, t8, p8, q8, k8, pl8, g1, g2, h8s, fx8, fm8, hk8, -⟩ := b_sign te b5 (c := 59) (by decide)
  refine ⟨s3, s8, t8, fun G => ?_, g1, ?_, p8, q8, k8, pl8, h8s, (XF.refl.g.trans u2).trans fx8.g, ?_, u3.xg fx8, fun ck => ?_⟩
  · rw [u1, e_bd]
  · unfold bd_M_readsStep
    rw [hk, e_b2, e_let, e_jn, if_neg (show ¬ (5 : Int32) = -1 from by decide)]
    try dsimp only
    rw [e_jn, if_neg (show ¬ (5 : Int32) = 6 from by decide)]
    try dsimp only
    rw [m2.1.2.2.1, if_pos (show Int32.ofNat 0 = 0 from rfl), y1, e_bd, sm_23, sm_12, e24, zi_rld (show N < sh_ln 491 by rw [kn_491]; omega) (by omega), kf_491, e_bd, zi_succ, e_let, show ∀ (f : hp_I) (x : Int32), px_ast f (492 + N) (0 : Int32) x = some (hp_s f (492 + N) 0 x) from fun f x => wr_492 (j := 0) (by omega) (by decide), e_bd, e_jn, e_jn, if_neg (show ¬ (5 : Int32) = 0 from by decide), if_neg (show ¬ (5 : Int32) = 2 from by decide), if_neg (show ¬ (5 : Int32) = 3 from by decide)]
    try dsimp only
    rw [e_jn, if_neg (show ¬ (5 : Int32) = 1 from by decide)]
    try dsimp only
    rw [e_jn, if_neg (show ¬ (5 : Int32) = 4 from by decide)]
    try dsimp only
    rw [e_jn, if_neg (show ¬ (5 : Int32) < 2 from by decide)]
    try dsimp only
    rw [e_jn, if_neg (show ¬ (5 : Int32) = 2 from by decide)]
    try dsimp only
    rw [e_jn, if_neg (show ¬ (5 : Int32) = 3 from by decide)]
    try dsimp only
    rw [e_jn, if_neg (show ¬ (5 : Int32) = 6 from by decide)]
    try dsimp only
    rw [e24f, show ∀ (f : hp_I) (x : Int32), px_ast f (492 + N) (3 : Int32) x = some (hp_s f (492 + N) 3 x) from fun f x => wr_492 (j := 3) (by omega) (by decide), e_bd, show fn_M_sign 52 (59 : Int32) _ = some t8 from g2, e_bd]
  · exact (((y3.g.trans (MG.slot (k := 24) (v := Int32.ofNat (N + 1)) (Or.inr rfl))).trans (MG.put (i := 492 + N) (k := 0) (v := 5) (by unfold wmP; omega) (by omega))).trans (MG.put (by unfold wmP; omega) (by omega))).trans fm8.g
  · obtain ⟨z1, ⟨z2, z3, z4, z5⟩, z6⟩ := u6 N hN25 sd1
    refine ⟨fun _ => (5, 0, 0, N + 1), N + 1, by omega, by have := (hk8 ck).2; omega, ⟨?_, ?_⟩, fun i hi => ⟨?_, ?_⟩, ⟨by omega, fun i hi1 hi2 => ?_⟩, ?_, ?_⟩
    · rw [fx8.1 27 (by decide)]; exact z1
    · rw [fm8.2 24 (by decide) (by decide) (by decide), hs_ne (by omega)]; exact e24f
    · have e : i ≠ N := by omega
      rw [fx8.1 28 (by decide), fx8.1 29 (by decide), fx8.1 30 (by decide), fx8.1 31 (by decide), (z6 i e).1, (z6 i e).2.1, (z6 i e).2.2.1, (z6 i e).2.2.2]
      exact ⟨rfl, rfl, rfl, rfl⟩
    · rw [fm8.1 (492 + i) (by omega), hp_s_n (by omega), hp_s_n (by omega), hp_s_n (by omega), y3.1 (492 + i) (by omega)]
    · have e : i = N := by omega
      subst e
      rw [fx8.1 28 (by decide), fx8.1 29 (by decide), fx8.1 30 (by decide), fx8.1 31 (by decide), fm8.1 _ (by omega)]
      exact ⟨⟨z2, z3, z4, z5⟩, by rw [hs_ne (by omega), hs_at]; rfl, fun e => absurd rfl e, fun e => absurd e (by show ¬ 5 < 4; decide), by rw [hs_at]⟩
    · rw [show N + 1 - N = 0 + 1 by omega]
      refine Or.inr ⟨by omega, ?_, ?_, Or.inr ⟨?_, ?_⟩, ?_⟩
      · exact Nat.lt_succ_self N
      · exact Nat.le_refl _
      · rfl
      · exact Or.inr (Or.inr (Or.inr (Or.inr (Or.inr rfl))))
      · exact SEG.self 0 _ _
    · rw [fm8.2 8 (by decide) (by decide) (by decide), hs_ne (by omega), hs_ne (by omega), hs_ne (by omega), y3.2 8 (by decide) (by decide) (by decide)]; exact h8
end WS

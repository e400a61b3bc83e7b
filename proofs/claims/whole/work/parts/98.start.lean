theorem kc_L_8 : kc_ok RL 8 11 [none, none, none, none, none, none, none, none, none, none, none, none, none, some (.inr 0), some (.inr 0), some (.inr 0)] := ⟨_, tyX11, rfl, fw_11, gw_in (gt_1 (List.mem_of_getElem? (i := 26) rfl)) rfl, gw_in (gt_1 (List.mem_of_getElem? (i := 27) rfl)) rfl, gw_in (gt_1 (List.mem_of_getElem? (i := 1) rfl)) rfl, tyX11_ok, by decide, rfl, fun b j hj => by
  have hj : j < 16 := hj
  match j, hj with
  | 0, _ => rfl
  | 1, _ => rfl
  | 2, _ => rfl
  | 3, _ => rfl
  | 4, _ => rfl
  | 5, _ => rfl
  | 6, _ => rfl
  | 7, _ => rfl
  | 8, _ => rfl
  | 9, _ => rfl
  | 10, _ => rfl
  | 11, _ => rfl
  | 12, _ => rfl
  | 13, _ => rfl
  | 14, _ => rfl
  | 15, _ => rfl
  | j + 16, hj => exact absurd hj (by omega)⟩
theorem kc_L_117 : kc_ok RL 117 12 [some (.inr 0), some (.inr 0), some (.inr 0), some (.inr 0), some (.inr 0), some (.inr 0), some (.inr 0), some (.inr 0), some (.inr 0), none, none, none, none, none, none, some (.inr 0), some (.inr 0), none, none, none, none, none, none, none, some (.inr 0), none, none, none, none, none, some (.inr 0), some (.inr 0), some (.inr 0), some (.inr 0), some (.inr 0), some (.inr 0), some (.inr 0), none, none, none, none, some (.inr 0), some (.inr 0), none, some (.inr 0)] := ⟨_, tyX12, rfl, fw_12, gw_in (gt_6 (List.mem_of_getElem? (i := 210) rfl)) rfl, gw_in (gt_6 (List.mem_of_getElem? (i := 211) rfl)) rfl, gw_in (gt_1 (List.mem_of_getElem? (i := 13) rfl)) rfl, tyX12_ok, by decide, rfl, fun b j hj => by
  have hj : j < 45 := hj
  match j, hj with
  | 0, _ => rfl
  | 1, _ => rfl
  | 2, _ => rfl
  | 3, _ => rfl
  | 4, _ => rfl
  | 5, _ => rfl
  | 6, _ => rfl
  | 7, _ => rfl
  | 8, _ => rfl
  | 9, _ => rfl
  | 10, _ => rfl
  | 11, _ => rfl
  | 12, _ => rfl
  | 13, _ => rfl
  | 14, _ => rfl
  | 15, _ => rfl
  | 16, _ => rfl
  | 17, _ => rfl
  | 18, _ => rfl
  | 19, _ => rfl
  | 20, _ => rfl
  | 21, _ => rfl
  | 22, _ => rfl
  | 23, _ => rfl
  | 24, _ => rfl
  | 25, _ => rfl
  | 26, _ => rfl
  | 27, _ => rfl
  | 28, _ => rfl
  | 29, _ => rfl
  | 30, _ => rfl
  | 31, _ => rfl
  | 32, _ => rfl
  | 33, _ => rfl
  | 34, _ => rfl
  | 35, _ => rfl
  | 36, _ => rfl
  | 37, _ => rfl
  | 38, _ => rfl
  | 39, _ => rfl
  | 40, _ => rfl
  | 41, _ => rfl
  | 42, _ => rfl
  | 43, _ => rfl
  | 44, _ => rfl
  | j + 45, hj => exact absurd hj (by omega)⟩
theorem kl_L_116 : Cond.methodLink RL 116 yX11_init ∈ gw_tbl := gw_in (gt_1 (List.mem_of_getElem? (i := 28) rfl)) rfl
theorem kl_L_119 : Cond.methodLink RL 119 yX12_init ∈ gw_tbl := gw_in (gt_6 (List.mem_of_getElem? (i := 212) rfl)) rfl
theorem ks_K {s : State} {a : Array Value} (hts : ∀ w ∈ gw_tbl, w.before a s = true) : ∀ c : Nat, ∃ r : ClassId × (Nat → Nat), ∀ q : vw_C, vwCl[c]? = some q → u_Kn s q.1 q.2.1 q.2.2 r.1 r.2 := by
  intro c
  match c with
  | 0 =>
    obtain ⟨cC, iS, h⟩ := u_known (n := 2) hts fw_0 (hts _ (gw_in (gt_1 (List.mem_of_getElem? (i := 170) rfl)) rfl))
    exact ⟨(cC, iS), fun q hq => by cases hq; exact h⟩
  | 1 =>
    obtain ⟨cC, iS, h⟩ := u_known (n := 6) hts fw_1 (hts _ (gw_in (gt_2 (List.mem_of_getElem? (i := 55) rfl)) rfl))
    exact ⟨(cC, iS), fun q hq => by cases hq; exact h⟩
  | 2 =>
    obtain ⟨cC, iS, h⟩ := u_known (n := 4) hts fw_2 (hts _ (gw_in (gt_2 (List.mem_of_getElem? (i := 83) rfl)) rfl))
    exact ⟨(cC, iS), fun q hq => by cases hq; exact h⟩
  | 3 =>
    obtain ⟨cC, iS, h⟩ := u_known (n := 12) hts fw_3 (hts _ (gw_in (gt_1 (List.mem_of_getElem? (i := 64) rfl)) rfl))
    exact ⟨(cC, iS), fun q hq => by cases hq; exact h⟩
  | 4 =>
    obtain ⟨cC, iS, h⟩ := u_known (n := 6) hts fw_4 (hts _ (gw_in (gt_1 (List.mem_of_getElem? (i := 145) rfl)) rfl))
    exact ⟨(cC, iS), fun q hq => by cases hq; exact h⟩
  | 5 =>
    obtain ⟨cC, iS, h⟩ := u_known (n := 5) hts fw_5 (hts _ (gw_in (gt_1 (List.mem_of_getElem? (i := 237) rfl)) rfl))
    exact ⟨(cC, iS), fun q hq => by cases hq; exact h⟩
  | 6 =>
    obtain ⟨cC, iS, h⟩ := u_known (n := 2) hts fw_6 (hts _ (gw_in (gt_2 (List.mem_of_getElem? (i := 104) rfl)) rfl))
    exact ⟨(cC, iS), fun q hq => by cases hq; exact h⟩
  | 7 =>
    obtain ⟨cC, iS, h⟩ := u_known (n := 9) hts fw_7 (hts _ (gw_in (gt_2 (List.mem_of_getElem? (i := 21) rfl)) rfl))
    exact ⟨(cC, iS), fun q hq => by cases hq; exact h⟩
  | 8 =>
    obtain ⟨cC, iS, h⟩ := u_known (n := 4) hts fw_8 (hts _ (gw_in (gt_1 (List.mem_of_getElem? (i := 216) rfl)) rfl))
    exact ⟨(cC, iS), fun q hq => by cases hq; exact h⟩
  | 9 =>
    obtain ⟨cC, iS, h⟩ := u_known (n := 8) hts fw_9 (hts _ (gw_in (gt_1 (List.mem_of_getElem? (i := 183) rfl)) rfl))
    exact ⟨(cC, iS), fun q hq => by cases hq; exact h⟩
  | 10 =>
    obtain ⟨cC, iS, h⟩ := u_known (n := 7) hts fw_10 (hts _ (gw_in (gt_1 (List.mem_of_getElem? (i := 35) rfl)) rfl))
    exact ⟨(cC, iS), fun q hq => by cases hq; exact h⟩
  | 11 =>
    obtain ⟨cC, iS, h⟩ := u_known (n := 16) hts fw_11 (hts _ (gw_in (gt_1 (List.mem_of_getElem? (i := 27) rfl)) rfl))
    exact ⟨(cC, iS), fun q hq => by cases hq; exact h⟩
  | 12 =>
    obtain ⟨cC, iS, h⟩ := u_known (n := 45) hts fw_12 (hts _ (gw_in (gt_6 (List.mem_of_getElem? (i := 211) rfl)) rfl))
    exact ⟨(cC, iS), fun q hq => by cases hq; exact h⟩
  | c + 13 => exact ⟨(0, fun _ => 0), fun q hq => by cases hq⟩
theorem ws_lt {G : wd_G} {σ : hp_I} {τ : hp_L} {H : Heap} {i : Nat} (hN : i < G.2.1) (hP : va_P (wd_D G) vwCl (wd_W G σ τ) H) : wd_b G + i < H.size := (hP i _ (wd_get σ τ hN)).lt
theorem ws_app {s : State} {N : Nat} {r : va_G × ClassId × ClassId × ClassId × ClassId} {σ : hp_I} {τ : hp_L} : wd_W (s, N + 1, r) σ τ = wd_W (s, N, r) σ τ ++ [(s.heap.size + N, wd_E (s, N + 1, r) σ τ N)] := by
  unfold wd_W
  show (List.range (N + 1)).map _ = (List.range N).map _ ++ _
  rw [List.range_succ, List.map_append]
  rfl
theorem sh_n601 : sh_ln 601 = 1 := by decide +kernel
theorem ws_grow {s : State} {N : Nat} {r : va_G × ClassId × ClassId × ClassId × ClassId} {σ : hp_I} {τ : hp_L} {H H1 : Heap} (hk : sh_kd N = 14) (hn : sh_ln N = 1) (ht : τ N = fun _ => 0) (hP : va_P r.1 vwCl (wd_W (s, N, r) σ τ) H) (hz : H.size = s.heap.size + N) (g1 : H1[s.heap.size + N]? = some (arrV r.2.2.1 1 (fun _ => .long 0))) (g3 : ∀ q, q < s.heap.size + N → H1[q]? = H[q]?) : va_P r.1 vwCl (wd_W (s, N + 1, r) σ τ) H1 := by
  rw [ws_app]
  refine (hP.kept (fun k0 x0 hx0 => g3 x0.1 (by have := (hP k0 x0 hx0).lt; omega))).app (fun k0 x0 hx0 => ?_)
  have h0 : k0 < 1 := (List.getElem?_eq_some_iff.mp hx0).1
  rw [show k0 = 0 by omega] at hx0
  cases hx0
  rw [wd_E_J hk, hn, ht]
  exact g1
def R_law : String := "IdeaMousersLaw"
def lw_P (b : Addr) (xs : List Int32) (args : Array Value) (s : State) : Prop := args = #[.ref b] ∧ s.IntsAt b xs ∧ xs.length ≤ 4096 ∧ (Jvm.Cond.and given_1 narrow_1).before args s = true
def lw_Q (_ : Array Value) (s : State) (o : Outcome) (t : State) : Prop := o = .returned (some (.int 1)) ∧ Framed s o t [] 601024 7293034
def lw_Z (below : List Frame) (a : Array Value) (s : State) : State → Prop := fun t => ∃ o, t.status = .running ∧ Ended t below o ∧ lw_Q a s o t
theorem lw_ret {p : Program} {l : Launch} {e : Env} {s : State} {m : MethodId} {below : List Frame} {meth : Method} {c : Code} {b : Nat} (hx : p.tables.exec = Jvm.exec) (hb : c.code = code) (hr : meth.sig.returnType = ret) (hlocks : meth.locks = false) {pc : Nat} {H : Heap} {ls : Array Slot} (hdg : decode code pc = .ok (.ireturn, 1)) : W p l e room_1 s m #[Value.ref b] below meth c H [] 601024 7293034 (lw_Z below #[Value.ref b] s) (F0 m pc ls [.int 1]) := by
  intro T hT X
  obtain ⟨fs, hret, hrun, hended, hW, hframe⟩ := X.leave (v := some (.int 1)) (hlocks := hlocks) (fun h => by rw [hr] at h; cases h)
  have hmeth' : T.vm.method? m = some meth := X.method'
  refine ⟨T.setFrames fs, ?_, .returned (some (.int 1)), hrun, hended, rfl, ⟨_, rfl⟩, hW, hframe⟩
  jvm_step X.here [X.here.top, hx, hb, hdg, hmeth', hr, ret, narrow_b1]
  (try refine ⟨rfl, ?_⟩); (try refine ⟨rfl, ?_⟩)
  first | (intro acts; rw [hret _ acts rfl rfl rfl]) | rw [hret _ _ rfl rfl rfl]
  exact Steps.refl _
def lw_At (p : Program) (s : State) (m : MethodId) (meth : Method) (c : Code) (b L : Nat) (xs : Nat → Int32) : Prop :=
  p.tables.exec = Jvm.exec ∧ c.code = code ∧ meth.sig.returnType = ret ∧ c.maxLocals = 8 ∧ s.vm.findClass R_law = some m.cls ∧ (∀ w ∈ lw_tbl, w.before #[Value.ref b] s = true) ∧ va_X b L xs s s.heap ∧ b < s.heap.size ∧ meth.locks = false ∧ (Jvm.Cond.and given_1 narrow_1).before #[Value.ref b] s = true
/-- what is to be proved of the expressions: the model is made, and the law's loop answers 1 -/
def PURE : Prop := ∃ σ1, fn_M_made kS_i = some σ1 ∧ ∀ (L : Nat) (xs : Nat → Int32), L ≤ 4096 → fn_law L xs 513 0 σ1 kT_i = some 1
set_option maxHeartbeats 4000000 in
theorem ws_start (hpure : PURE) {p : Program} {e : Env} {s : State} {m : MethodId} {below : List Frame} {meth : Method} {c : Code} (l : Launch) (htr : l.stackTraces = false) {b L : Nat} {xs : Nat → Int32} (hL : L ≤ 4096) (C0 : lw_At p s m meth c b L xs) : W p l e room_1 s m #[Value.ref b] below meth c s.heap [] 0 0 (lw_Z below #[Value.ref b] s) (entryFrame m ([Value.ref b] : List Value).toArray 8) := by
  obtain ⟨σ1, hmade, hlaw⟩ := hpure
  obtain ⟨hx, hb, hr, hml, hown, hts, hX, hbl, hlocks, hgv⟩ := C0
  have htg : ∀ w ∈ gw_tbl, w.before #[Value.ref b] s = true := fun w hw => hts w (List.mem_filter.mp hw).1
  obtain ⟨f, hf⟩ := Classical.skolem.mp (ks_K htg)
  obtain ⟨cI, kI, coI, hfI, hkI, hkdI⟩ := Cond.arrayClass_spec (htg _ ka_int)
  obtain ⟨cJ, kJ, coJ, hfJ, hkJ, hkdJ⟩ := Cond.arrayClass_spec (htg _ ka_long)
  obtain ⟨cZ, kZ, coZ, hfZ, hkZ, hkdZ⟩ := Cond.arrayClass_spec (htg _ ka_boolean)
  obtain ⟨cI2, cA, kA, hfI2, hkA, hkdA, hfA⟩ := mu_over (hts _ ka_over)
  have hKK : va_K (fun c => (f c).1, fun c => (f c).2) vwCl [(cI, .int), (cJ, .long), (cZ, .boolean), (cA, .array .int)] s := by
    refine ⟨fun c q hq => hf c q hq, fun k q hq => ?_⟩
    match k, hq with
    | 0, hq => cases hq; exact ⟨fun n z => ⟨(fun q hq => by cases hq), kI, hkI, coI, hkdI⟩, hfI⟩
    | 1, hq => cases hq; exact ⟨fun n z => ⟨(fun q hq => by cases hq), kJ, hkJ, coJ, hkdJ⟩, hfJ⟩
    | 2, hq => cases hq; exact ⟨fun n z => ⟨(fun q hq => by cases hq), kZ, hkZ, coZ, hkdZ⟩, hfZ⟩
    | 3, hq => cases hq; exact ⟨fun n z => ⟨(fun q hq => by cases hq), kA, hkA, cI2, hkdA⟩, hfA⟩
    | k + 4, hq => cases hq
  let G1 : wd_G := (s, 601, (fun c => (f c).1, fun c => (f c).2), cI, cJ, cZ, cA)
  let G2 : wd_G := (s, 602, (fun c => (f c).1, fun c => (f c).2), cI, cJ, cZ, cA)
  let M : wd_M := (p, l, e, room_1, s, m, #[Value.ref b], below, meth, c)
  have hg1 : gd_ok G1 := ⟨Nat.le_refl _, #[Value.ref b], hts, hgv⟩
  have hg2 : gd_ok G2 := ⟨Nat.le_succ _, #[Value.ref b], hts, hgv⟩
  have hwS : ∀ G : wd_G, G.1 = s → wd_S G s := fun G hG => by
    unfold wd_S wd_b
    rw [hG]
    exact ⟨State.WarmedH.refl s, Nat.le_refl _, fun _ _ => rfl⟩
  have C1 : cx_C G1 M RL code 8 80 (some .boolean) := ⟨hx, hb, hml, hown, htg, hKK, hwS G1 rfl, hg1, (Nat.le_of_ble_eq_true rfl), (Nat.le_of_ble_eq_true rfl), hr, hlocks⟩
  have C2 : cx_C G2 M RL code 8 80 (some .boolean) := ⟨hx, hb, hml, hown, htg, hKK, hwS G2 rfl, hg2, (Nat.le_of_ble_eq_true rfl), (Nat.le_of_ble_eq_true rfl), hr, hlocks⟩
  have hl := lv_entry [Value.ref b] (n := 8) (Nat.le_of_ble_eq_true rfl)
  rw [lg_entry_eq]
  have start : kn_D G1 M 8 0 0 (lw_Z below #[Value.ref b] s) 0 [(0, .ref b)] [] [] := by
    refine kn_new C1 kc_L_8 (Nat.le_of_ble_eq_true rfl) (Nat.le_of_ble_eq_true rfl) dL_law__0 rfl ?_
    refine kn_dup C1 dL_law__3 rfl rfl ?_
    refine kn_call (As := []) (st := [.ref (wd_b G1 + 0)]) C1 (ct_X11_init hg1) ki_X11_init kl_L_116 (by decide) rfl ⟨(Nat.le_of_ble_eq_true rfl), (Nat.le_of_ble_eq_true rfl)⟩ (Nat.le_of_ble_eq_true rfl) dL_law__4 rfl rfl ?_
    refine kn_astore_n (lv0 := [(0, .ref b)]) C1 dL_law__7 rfl (by decide) rfl rfl ?_
    refine kn_new C1 kc_L_117 (Nat.le_of_ble_eq_true rfl) (Nat.le_of_ble_eq_true rfl) dL_law__8 rfl ?_
    refine kn_dup C1 dL_law__11 rfl rfl ?_
    show kn_D G1 M 8 53 6667 _ 12 [(1, .ref (wd_b G1 + 0)), (0, .ref b)] [.ref (wd_b G1 + kX_all.length), .ref (wd_b G1 + kX_all.length)] (kX_all ++ [_])
    rw [kX_len]
    intro H locs ls hP hz hS hls
    have hrun := va_runI (p := mx_P M) (l := mx_L M) (e := mx_E M) (R := mx_R M) (s := mx_S M) (m := mx_I M) (args := mx_A M) (below := mx_B M) (meth := mx_M M) (c := mx_C M) (H := H) (locs := locs) (cells := 53) (slots := 6667) (g := F0 (mx_I M) 12 ls [.ref (wd_b G1 + 52), .ref (wd_b G1 + 52)]) (n := 0) (b := wd_b G1 + 52) (As := []) (rest := [.ref (wd_b G1 + 52)]) ⟨cx_x C1, cx_b C1, cx_m C1, cx_o C1, cx_w C1⟩ (ct_X12_init hg1 rfl hmade) ⟨callB_of 0 (cx_w C1) (gw_cons ki_X12_init.1) rfl rfl rfl (cx_w C1 _ ki_X12_init.1.2.1) (cx_w C1 _ kl_L_119) ki_X12_init.1.2.2.1 ⟨(Nat.le_of_ble_eq_true rfl), (Nat.le_of_ble_eq_true rfl)⟩, rfl, cx_w C1 _ ki_X12_init.2.2⟩ ⟨kl_blind, fun U hU hW => ⟨rfl, by rw [hU]; exact hP, by rw [hU]; exact hz, va_K.moved hW.alike (cx_k C1), (cx_s C1).step hS hU hW⟩⟩ rfl rfl hls.1 rfl (lv_room (Nat.le_of_ble_eq_true rfl)) dL_law__12 ⟨(Nat.le_of_ble_eq_true rfl), (Nat.le_of_ble_eq_true rfl)⟩
    intro T hT X
    obtain ⟨v2, st₀, t, T', Lc, h0, X', hLc, e1, e2, ⟨hv, hPt, hzt, hk⟩, stp⟩ := hrun T hT X
    cases hv
    rw [h0] at hzt hk
    have hS' : va_S (wd_A G1) s.heap T'.heap (locs ++ Lc) := ⟨Nat.le_trans hS.1 (by rw [e1]; exact hzt), fun q h1 h2 => by rw [e1, hk q (Nat.lt_of_lt_of_le h1 hS.1) h2]; exact hS.2.1 q h1 h2, fun q hq => by
      rcases List.mem_append.mp hq with h | h
      · exact hS.2.2 q h
      · exact hLc q h⟩
    have hP1 : va_P (wd_D G1) vwCl (wd_W G1 σ1 kT_i) T'.heap := by rw [e1]; exact hPt
    have hz1 : T'.heap.size = wd_b G1 + 601 := by
      have h1 := ws_lt (i := 600) (Nat.le_of_ble_eq_true rfl) hP1
      have h2 : T'.heap.size ≤ s.heap.size + 601 := X'.heapSize
      have h3 : wd_b G1 = s.heap.size := rfl
      have h4 : wd_b G1 + 600 < T'.heap.size := h1
      omega
    have goal2 : ∀ (ls : Array Slot), lv_has ls 8 [(1, .ref (wd_b G1 + 0)), (0, .ref b)] → W p l e room_1 s m #[Value.ref b] below meth c T'.heap (locs ++ Lc) 601 28554 (lw_Z below #[Value.ref b] s) (F0 m 15 ls [.ref (wd_b G1 + 52)]) := by
      intro ls hls
      refine lv_astore_n hx hb dL_law__15 rfl hls (by decide) rfl (fun ls2 hls2 => ?_)
      refine lv_iconst hx hb dL_law__16 ic_i_1 ?_
      refine va_newaK hx hb (htg _ ka_long) rfl dL_law__17 rfl (by decide) (N := 1) (by decide) (by decide) (Nat.le_of_ble_eq_true rfl) (Nat.le_of_ble_eq_true rfl) hz1 fun H1 cJ' g1 g2 g3 g4 g5 => ?_
      cases Option.some.inj (g5.symm.trans hfJ)
      refine lv_astore_n hx hb dL_law__19 rfl hls2 (by decide) rfl (fun ls3 hls3 => ?_)
      refine lv_iconst hx hb dL_law__20 ic_i_0 ?_
      refine lv_istore hx hb dL_law__21 hls3 (by decide) rfl (fun ls4 hls4 => ?_)
      have hS2 : va_S (wd_A G2) s.heap H1 (locs ++ Lc) := ⟨Nat.le_trans hS'.1 (by omega), fun q h1 h2 => by rw [g3 q (by have : wd_b G1 = s.heap.size := rfl; omega)]; exact hS'.2.1 q h1 h2, hS'.2.2⟩
      have hP2 : va_P (wd_D G2) vwCl (wd_W G2 σ1 kT_i) H1 := ws_grow (N := 601) sh_601 sh_n601 rfl hP1 hz1 g1 g3
      have key := pf_law (b0 := b) (L := L) (xs := xs) (Q1 := lw_Z below #[Value.ref b] s) C2 ⟨rfl, htr, (Nat.le_of_ble_eq_true rfl)⟩ ⟨hX, hbl, fun h => absurd hbl (Nat.not_lt.mpr h)⟩ (fun c0 sl0 H0 locs0 ls0 h1 h2 h3 => va_forget (fun q hq => h3.2.2 q hq) (W.widen h1 h2 (lw_ret hx hb hr hlocks dL_law__2602))) 513 602 28555 0 σ1 kT_i (by decide) (by decide) 1 (hlaw L xs hL) H1 (locs ++ Lc) ls4 hP2 hS2 (lv_sub hls4 [4, 3, 2, 1, 0] rfl)
      intro T9 hT9 X9
      obtain ⟨t9, a9, b9⟩ := key T9 hT9 X9
      exact ⟨t9, a9, b9 rfl⟩
    obtain ⟨t2, a1, b1⟩ := goal2 ls hls T' rfl X'
    exact ⟨t2, stp t2 a1, b1⟩
  exact start s.heap [] _ (fun k q hq => by cases hq) rfl va_S.rf hl
set_option maxHeartbeats 4000000 in
theorem lw_walk (hpure : PURE) (l : Launch) (htr : l.stackTraces = false) (b : Addr) (xs : List Int32) : MetFree l x (headSpec (Jvm.Cond.code x code maxLocals ret :: tables_1) room_1) (lw_P b xs) (fun _ _ _ _ _ => True) lw_Q := by
  refine MetFree.of_bodyS (code := code) (maxLocals := maxLocals) (ret := ret) (by decide) ?_ ?_
  · intro args s m h hn
    obtain ⟨meth, c, h1, h2, h3, h4, h5, h6, -, -⟩ := Cond.code_spec hn (atoms_spec (ws := Jvm.Cond.code x code maxLocals ret :: tables_1) h _ List.mem_cons_self)
    exact ⟨meth, c, h1, h2, h3, h4, h5, h6⟩
  · intro p e s m args below meth c s₁ B hml0 hP _
    obtain ⟨rfl, hx, hbd, hgv⟩ := hP
    obtain ⟨scr, harrAt, hlist, hof, hsmall⟩ := hx
    obtain ⟨hcb, hkn, -, -⟩ := State.arrayAt?_spec harrAt
    have hown : s.vm.findClass R_law = some m.cls := findClass_of_methodNamed B.named
    have hts0 : ∀ c ∈ (Jvm.Cond.code x code maxLocals ret :: tables_1), c.before #[Value.ref b] s = true := atoms_spec (ws := Jvm.Cond.code x code maxLocals ret :: tables_1) B.pre
    have hts : ∀ w ∈ lw_tbl, w.before #[Value.ref b] s = true := k2_hts_sels lw_privs (fun w hw => hts0 w (List.mem_cons_of_mem _ hw)) lw_privs_ok
    have hml : c.maxLocals = 8 := B.maxLocals_eq (hts0 _ List.mem_cons_self)
    have X₀ : Stand p l e room_1 s m #[Value.ref b] below meth c s₁ [] 0 0 := Stand.of_body B
    have hh0 : s₁.heap = s.heap := by rw [B.state]; rfl
    have hsz : scr.slots.size = xs.length := by rw [← Array.length_toList, hlist, List.length_map]
    have hval : ∀ j : Nat, j < xs.length → scr.slots[j]? = some (.int (xs.getD j 0)) := fun j hj => by
      rw [← Array.getElem?_toList, hlist]
      simp [hj]
    have hbl : b < s.heap.size := (Array.getElem?_eq_some_iff.mp hcb).1
    have hX : va_X b xs.length (fun j => xs.getD j 0) s s.heap := ⟨scr, hcb, hof, hkn, hsz, hval⟩
    have K : W p l e room_1 s m #[Value.ref b] below meth c s₁.heap [] 0 0 (lw_Z below #[Value.ref b] s) (entryFrame m ([Value.ref b] : List Value).toArray 8) := by
      rw [hh0]
      exact ws_start hpure l htr hbd ⟨B.exec, B.bytes, B.returns, hml, hown, hts, hX, hbl, B.notSynchronized, hgv⟩
    obtain ⟨t, a1, o, b1, b2, b3⟩ := K s₁ rfl X₀
    exact ⟨t, o, a1, b1, b2, b3⟩
theorem lw_pre_spec {args : Array Value} {s : State} (h : (Jvm.Cond.and given_1 narrow_1).before args s = true) (hr : rest_1_c.before args s = true) : ∃ (b : Addr) (xs : List Int32), lw_P b xs args s := by
  have hs := flat_of_before _ h
  have hq := flat_of_before _ hr
  have hc : (Cond.count 1).before args s = true := hs _ (by decide +kernel)
  have harr : (Cond.arrayOf (.arg 0) .int).before args s = true := hs _ (by decide +kernel)
  have hle : (Cond.le (.length (.arg 0)) (.int 4096)).before args s = true := hs _ (by decide +kernel)
  have hlen : (Cond.isInt (.length (.arg 0))).before args s = true := hq _ (by decide +kernel)
  have hall : (Cond.all (.arg 0) (.isInt (.elem (.arg 0) (.index 0)))).before args s = true := hq _ (by decide +kernel)
  obtain ⟨b, xs, hb, hx⟩ := State.ints_of_pre rfl harr hlen hall
  have hsm : xs.length < 2 ^ 31 := hx.choose_spec.2.2.2
  have hev : (Term.length (.arg 0)).eval args s none [] s = some (.int xs.length.toInt32) := hx.length_eval hb
  have hv := Cond.le_ints hev (show (Term.int 4096).eval args s none [] s = some (.int 4096) from rfl)
  have hd : xs.length.toInt32 ≤ 4096 := by
    simpa [Cond.before, Cond.holds, hv] using hle
  have hN : xs.length ≤ 4096 := (Int32.ofNat_le_ofNat hsm (by decide)).mp (show Int32.ofNat xs.length ≤ Int32.ofNat 4096 from hd)
  exact ⟨b, xs, Cond.one_arg hc (show args[0]? = some (.ref b) from hb), hx, hN, h⟩
theorem lw_comes (hpure : PURE) (l : Launch) (htr : l.stackTraces = false) : Comes l x (Jvm.Cond.code x code maxLocals ret :: tables_1) room_1 (fun tb e args s => Calls_1 tb e args s ∧ rest_1 tb e args s ∧ Pre_1 tb e args s)
    (fun _ _ args s o t => lw_Q args s o t) := by
  intro p e ha hc hk s m args below hf hfit hheap happ hpre
  obtain ⟨b, xs, hP⟩ := lw_pre_spec hpre.2.2 hpre.2.1
  obtain ⟨k, o, h1, h2, h3, hQ⟩ := lw_walk hpure l htr b xs p e ha hc hk s m args below hf ((Spec.applies_iff_loose hf).mp happ).1 hP trivial
  exact ⟨k, o, h1, h2, h3, hQ⟩
theorem lw_frame {s t : State} {o : Outcome} {args : Array Value} (h : Framed s o t [] 601024 7293034) :
    Framed s o t (fieldLocs frame_1_writes args s ++ arrayLocs frame_1_arrays args s ++ staticLocs frame_1_statics s) 601024 7293034 := h
theorem lw_limb (hpure : PURE) (L : Cond) (hL : ∀ (args : Array Value) (s t : State), L.after args s (.returned (some (.int 1))) t = true) :
    ArmFor flags0 classFile x code maxLocals ret World_1 tables_1 room_1 Calls_1 rest_1 Pre_1
      (fun tb e a s o t => postC L tb e a s o t ∧ Framed s o t (fieldLocs frame_1_writes a s ++ arrayLocs frame_1_arrays a s ++ staticLocs frame_1_statics s) 601024 7293034) := by
  intro l hfl _ _ p e ha hc hk s m args below hf hfit hheap happ hpre
  have htr : l.stackTraces = false := by
    have h := Launch.traces_off hfl ha
    obtain ⟨-, -, -, -, hp, -⟩ := ha
    rw [hp] at h
    exact h
  obtain ⟨k, o, h1, h2, h3, rfl, hF⟩ := lw_comes hpure l htr p e ha hc hk s m args below hf hfit hheap happ hpre
  exact ⟨k, _, h1, h2, h3, hL args s _, lw_frame hF⟩
theorem lw_all (hpure : PURE) : Claimed_1_1 ∧ Claimed_1_2 := ⟨lw_limb hpure limb_1_1 (fun args s t => by simp [limb_1_1, Cond.after, Cond.holds, Cond.value]), lw_limb hpure limb_1_2 (fun args s t => Cond.after_iff.mpr (by
  first | (rw [show limb_1_2 = Cond.eq .result (.int 1) from rfl, Cond.eq_ints (x := 1) (y := 1) rfl rfl]; simp; done) | (simp [limb_1_2, Cond.value, Term.eval]; done)))⟩

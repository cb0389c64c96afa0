/-! ===== the law from its entry ===== -/
def xs_w : List Cond := [.classLink RL 8 RX11, .instantiable RX11 19, .initialized RX11, .code yX11_init cX11_init 1 none, .methodLink RL 15 yX11_init, .instanceMethod yX11_init, .classLink RL 16 RX12, .instantiable RX12 48, .initialized RX12, .code yX12_init cX12_init 1 none, .methodLink RL 18 yX12_init, .instanceMethod yX12_init]
theorem xs_in : ∀ w ∈ xs_w, w ∈ lw_tbl := by decide +kernel
theorem xs_gd : ∀ w ∈ xs_w, goodWord w = true := by decide +kernel
theorem xs_tb {w : Cond} (k : Nat) (h : xs_w[k]? = some w) : w ∈ pm_TB := pm_tb (xs_in w (List.mem_of_getElem? h)) (xs_gd w (List.mem_of_getElem? h))
def xq_w : List Cond := [.laysStatic Bundle.tN "UNASSIGNED_STACK" Bundle.steD, .laysStatic Bundle.tN "SUPPRESSED_SENTINEL" Bundle.listD, .initialized Bundle.tN, .stringRef RX11 161 "no such lifter", .stringRef RX11 189 "no such what", .declares (Bundle.initS RTE), .declares (Bundle.initS "java/lang/Exception"), .declares (Bundle.initS Bundle.tN), .castable NSE NSE]
theorem xq_in : ∀ w ∈ xq_w, w ∈ lw_tbl := by decide +kernel
theorem start_E {s : State} {b : Nat} (hts : ∀ w ∈ lw_tbl, w.before #[Value.ref b] s = true) (hgv : (Jvm.Cond.and given_1 narrow_1).before #[Value.ref b] s = true) {A : Nat → Prop} (hA : ∀ a : Nat, a < s.heap.size → ¬ A a) : xt_E A s s.heap := by
  have hs := flat_of_before _ hgv
  have hq : ∀ (k : Nat) (w : Cond), xq_w[k]? = some w → w.before #[Value.ref b] s = true := fun k w h => hts w (xq_in w (List.mem_of_getElem? h))
  obtain ⟨c1, k1, hc1, -⟩ := Cond.instantiable_spec (hts _ (xs_in (.instantiable RX11 19) (List.mem_of_getElem? (i := 1) rfl)))
  have str : ∀ (k : Nat) (tx : String), (Cond.stringRef RX11 k tx).before #[Value.ref b] s = true → ∃ sa, vk_R RX11 k tx sa s := by
    intro k tx h
    obtain ⟨-, -, -, sa, -, -, -, -, -, hev⟩ := Cond.stringRef_spec hc1 h
    exact ⟨sa, vk_R.of h hev⟩
  exact ⟨⟨vx_Zqof (hq 0 _ rfl) (hq 2 _ rfl) (hs _ (by decide +kernel)) hA, vx_Zqof (hq 1 _ rfl) (hq 2 _ rfl) (hs _ (by decide +kernel)) hA⟩, str 161 _ (hq 3 _ rfl), str 189 _ (hq 4 _ rfl), va_tabs rfl rfl (hq 5 _ rfl), va_tabs rfl rfl (hq 6 _ rfl), va_tabs rfl rfl (hq 7 _ rfl), va_tabs rfl rfl (hq 8 _ rfl)⟩
theorem lw_flag {l : Launch} (h : l.flags = flags0) : l.stackTraces = false := by
  unfold Launch.stackTraces
  rw [h]
  decide +kernel
set_option maxRecDepth 20000 in
theorem whole_start {p : Program} {e : Env} {s : State} {m : MethodId} {below : List Frame} {meth : Method} {c : Code} (l : Launch) (hflags : l.flags = flags0) {b L : Nat} {xs : Nat → Int32} (hL : L ≤ 3072) (C0 : lw_At p s m meth c b L xs) : W p l e room_1 s m #[Value.ref b] below meth c s.heap [] 0 0 (lw_Z below #[Value.ref b] s) (entryFrame m ([Value.ref b] : List Value).toArray 7) := by
  obtain ⟨hx, hb, hr, hml, hown0, htl, hX, hbl, hlk, hgv⟩ := C0
  have hown : s.vm.findClass RL = some m.cls := hown0
  have hst := lw_flag hflags
  have hts : ∀ w ∈ pm_TB, w.before #[Value.ref b] s = true := fun w hw => htl w (List.mem_filter.mp hw).1
  obtain ⟨A, hAe⟩ : ∃ A : Nat → Prop, A = fun q => s.heap.size ≤ q := ⟨_, rfl⟩
  have hA : ∀ q : Nat, s.heap.size ≤ q → A q := fun q h => by rw [hAe]; exact h
  have hA' : ∀ q : Nat, A q → s.heap.size ≤ q := fun q h => by rw [hAe] at h; exact h
  have hnA : ∀ a : Nat, a < s.heap.size → ¬ A a := fun a h1 h2 => Nat.not_le.mpr h1 (hA' a h2)
  obtain ⟨D, cA, hKs⟩ := start_K htl
  obtain ⟨adC, hCt, hsy, hsw⟩ := start_Ct htl hgv hnA
  have hE := start_E htl hgv hnA
  have hK := hKs.1
  have hP : va_P D vwCl [] s.heap := fun k q h => by simp at h
  have hD : va_D A [] := ⟨fun i j p q h => by simp at h, fun k q h => by simp at h⟩
  have hS : va_S A s.heap s.heap [] := va_S.rf
  have hl := lv_entry ([.ref b]) (n := 7) (Nat.le_of_ble_eq_true rfl)
  rw [lg_entry_eq]
  generalize (lg_sl ([.ref b]) ++ List.replicate (7 - (lg_sl ([.ref b])).length) Slot.unset).toArray = ls at hl ⊢
  have hl : lv_has ls 7 [(0, .ref b)] := hl
  refine va_new (D := D) (ci := 11) (fs := [.null, .null, .null, .null, .null, .null, .null, .null, .null, .null, .null, .null, .null, .null, .null, .int 0, .int 0, .int 0, .int 0]) (C := RX11) (T := TX11) (N := 19) hx hb hts pm_inX11 tyX11 tyX11_ok hown (hts _ (xs_tb 0 rfl)) (hts _ (xs_tb 1 rfl)) (hts _ (xs_tb 2 rfl)) hK hP hD hS hA rfl (fun j hj => by rcases (show j = 0 ∨ j = 1 ∨ j = 2 ∨ j = 3 ∨ j = 4 ∨ j = 5 ∨ j = 6 ∨ j = 7 ∨ j = 8 ∨ j = 9 ∨ j = 10 ∨ j = 11 ∨ j = 12 ∨ j = 13 ∨ j = 14 ∨ j = 15 ∨ j = 16 ∨ j = 17 ∨ j = 18 by omega) with rfl | rfl | rfl | rfl | rfl | rfl | rfl | rfl | rfl | rfl | rfl | rfl | rfl | rfl | rfl | rfl | rfl | rfl | rfl <;> rfl) (Nat.le_of_ble_eq_true rfl) (Nat.le_of_ble_eq_true rfl) dL_law_0 (fun q0 H hP hD hS => ?_)
  have hP : va_P D vwCl ([] ++ [(q0, .inr (11, [.null, .null, .null, .null, .null, .null, .null, .null, .null, .null, .null, .null, .null, .null, .null, .int 0, .int 0, .int 0, .int 0]))]) H := hP
  have hD : va_D A ([] ++ [(q0, .inr (11, [.null, .null, .null, .null, .null, .null, .null, .null, .null, .null, .null, .null, .null, .null, .null, .int 0, .int 0, .int 0, .int 0]))]) := hD
  refine W.widen (k := 1) (n := 19) (Nat.le_of_ble_eq_true rfl) (Nat.le_of_ble_eq_true rfl) ?_
  refine lv_dup hx hb dL_law_3 rfl ?_
  refine cn_call (ws := []) (K := KK D cA) (As := []) (rest := [.ref q0]) (q := q0) (n := 0) hx hb hml hown hts (KK_ok D cA) hKs (ci_X11 l D cA q0 H.size) (xs_tb 3 rfl) (xs_tb 2 rfl) (xs_tb 4 rfl) (xs_tb 5 rfl) rfl (by decide +kernel) ⟨(Nat.le_of_ble_eq_true rfl), (Nat.le_of_ble_eq_true rfl)⟩ rfl rfl hP hD hS hA rfl hl.1 (Nat.le_of_ble_eq_true rfl) dL_law_4 ⟨(Nat.le_of_ble_eq_true rfl), (Nat.le_of_ble_eq_true rfl)⟩ (fun u H locs hu hP hD hS => ?_)
  have hP : va_P D vwCl (wd_X11 cA q0 u.1 u.2) H := hP
  have hD : va_D A (wd_X11 cA q0 u.1 u.2) := hD
  refine W.widen (k := 133) (n := 7956) (Nat.le_of_ble_eq_true rfl) (Nat.le_of_ble_eq_true rfl) ?_
  refine lv_astore_n hx hb dL_law_7 rfl hl (Nat.le_of_ble_eq_true rfl) rfl (fun ls hl => ?_)
  have hl : lv_has ls 7 [(1, .ref q0), (0, .ref b)] := hl
  refine va_new (D := D) (ci := 12) (fs := [.int 0, .null, .null, .null, .null, .null, .int 0, .int 0, .int 0, .int 0, .int 0, .int 0, .int 0, .int 0, .int 0, .null, .null, .int 0, .null, .null, .null, .null, .int 0, .int 0, .int 0, .null, .null, .int 0, .int 0, .int 0, .null, .null, .null, .int 0, .long 0, .null, .null, .null, .null, .null, .null, .int 0, .null, .int 0, .null, .null, .null, .int 0]) (C := RX12) (T := TX12) (N := 48) hx hb hts pm_inX12 tyX12 tyX12_ok hown (hts _ (xs_tb 6 rfl)) (hts _ (xs_tb 7 rfl)) (hts _ (xs_tb 8 rfl)) hK hP hD hS hA rfl (fun j hj => by rcases (show j = 0 ∨ j = 1 ∨ j = 2 ∨ j = 3 ∨ j = 4 ∨ j = 5 ∨ j = 6 ∨ j = 7 ∨ j = 8 ∨ j = 9 ∨ j = 10 ∨ j = 11 ∨ j = 12 ∨ j = 13 ∨ j = 14 ∨ j = 15 ∨ j = 16 ∨ j = 17 ∨ j = 18 ∨ j = 19 ∨ j = 20 ∨ j = 21 ∨ j = 22 ∨ j = 23 ∨ j = 24 ∨ j = 25 ∨ j = 26 ∨ j = 27 ∨ j = 28 ∨ j = 29 ∨ j = 30 ∨ j = 31 ∨ j = 32 ∨ j = 33 ∨ j = 34 ∨ j = 35 ∨ j = 36 ∨ j = 37 ∨ j = 38 ∨ j = 39 ∨ j = 40 ∨ j = 41 ∨ j = 42 ∨ j = 43 ∨ j = 44 ∨ j = 45 ∨ j = 46 ∨ j = 47 by omega) with rfl | rfl | rfl | rfl | rfl | rfl | rfl | rfl | rfl | rfl | rfl | rfl | rfl | rfl | rfl | rfl | rfl | rfl | rfl | rfl | rfl | rfl | rfl | rfl | rfl | rfl | rfl | rfl | rfl | rfl | rfl | rfl | rfl | rfl | rfl | rfl | rfl | rfl | rfl | rfl | rfl | rfl | rfl | rfl | rfl | rfl | rfl | rfl <;> rfl) (Nat.le_of_ble_eq_true rfl) (Nat.le_of_ble_eq_true rfl) dL_law_8 (fun q1 H hP hD hS => ?_)
  refine W.widen (k := 134) (n := 8004) (Nat.le_of_ble_eq_true rfl) (Nat.le_of_ble_eq_true rfl) ?_
  refine lv_dup hx hb dL_law_11 rfl ?_
  refine cn_call (ws := wd_X11 cA q0 u.1 u.2) (K := KM D cA (adC 173) (adC 172)) (As := []) (rest := [.ref q1]) (q := q1) (n := 0) hx hb hml hown hts (KM_ok D cA (adC 173) (adC 172)) ⟨hKs, hsy, hsw⟩ (ci_X12 l D cA q1 (adC 173) (adC 172) H.size) (xs_tb 9 rfl) (xs_tb 8 rfl) (xs_tb 10 rfl) (xs_tb 11 rfl) rfl (by decide +kernel) ⟨(Nat.le_of_ble_eq_true rfl), (Nat.le_of_ble_eq_true rfl)⟩ rfl rfl hP hD hS hA rfl hl.1 (Nat.le_of_ble_eq_true rfl) dL_law_12 ⟨(Nat.le_of_ble_eq_true rfl), (Nat.le_of_ble_eq_true rfl)⟩ (fun v H locs hv hP hD hS => ?_)
  refine W.widen (k := 157) (n := 81948) (Nat.le_of_ble_eq_true rfl) (Nat.le_of_ble_eq_true rfl) ?_
  refine lv_astore_n hx hb dL_law_15 rfl hl (Nat.le_of_ble_eq_true rfl) rfl (fun ls hl => ?_)
  have hl : lv_has ls 7 [(2, .ref q1), (1, .ref q0), (0, .ref b)] := hl
  refine lv_iconst hx hb dL_law_16 (v := 1) rfl ?_
  refine cn_newa (atype := .long) (ty := .long) (N' := 1) (a0 := (1, .inr (.inl (fun _ => 0)))) (k := 2) (ck := cA 2) hx hb (hts _ pv_61) rfl hK hP hD hS hA (fun _ => rfl) (by decide) (by decide) (Nat.le_of_ble_eq_true rfl) (Nat.le_of_ble_eq_true rfl) (Nat.le_of_ble_eq_true rfl) rfl dL_law_17 (fun qo H hP hD hS => ?_)
  refine W.widen (k := 158) (n := 81949) (Nat.le_of_ble_eq_true rfl) (Nat.le_of_ble_eq_true rfl) ?_
  refine lv_astore_n hx hb dL_law_19 rfl hl (Nat.le_of_ble_eq_true rfl) rfl (fun ls hl => ?_)
  have hl : lv_has ls 7 [(3, .ref qo), (2, .ref q1), (1, .ref q0), (0, .ref b)] := hl
  refine lv_iconst hx hb dL_law_20 (v := nI 0) rfl ?_
  refine lv_istore hx hb dL_law_21 hl (Nat.le_of_ble_eq_true rfl) rfl (fun ls hl => ?_)
  have hl : lv_has ls 7 [(4, .int (nI 0)), (3, .ref qo), (2, .ref q1), (1, .ref q0), (0, .ref b)] := hl
  have hP : va_P D vwCl (wdM cA q0 q1 qo (adC 173) (adC 172) u v) H := hP
  have hD : va_D A (wdM cA q0 q1 qo (adC 173) (adC 172) u v) := hD
  obtain ⟨h13, h43, h78, h83, h87, h92⟩ := hu
  have hCt' : pm_Ct (adM q0 q1 qo b u.1 v.1 adC) A s s.heap := hCt _ (fun k h1 h2 => by
    unfold adM
    rw [if_neg (by omega), if_neg (by omega), if_neg (by omega), if_neg (by omega), if_neg (by omega), if_neg (by omega)])
  have e190 : adM q0 q1 qo b u.1 v.1 adC 190 = b := rfl
  have C : LC p s m #[Value.ref b] meth c D cA (adM q0 q1 qo b u.1 v.1 adC) A L xs := ⟨⟨hx, hb, hml, hown, hts⟩, ⟨hr, hlk⟩, hK, wdM_J hD, hCt', by
    show va_X (adM q0 q1 qo b u.1 v.1 adC 190) L xs s s.heap ∧ ¬ A (adM q0 q1 qo b u.1 v.1 adC 190)
    rw [e190]
    exact ⟨hX, hnA b hbl⟩⟩
  have hG := law_loop (e := e) (l := l) (below := below) (Q := lw_Z below #[Value.ref b] s) C hL (fun cells slots j w5 w6 σ h1 h2 => law_exit C hA' h1 h2) (fun cells slots j w5 w6 σ h1 h2 hj hI K => lw_c4 C hE hst ⟨h1, h2⟩ hL hj hI K) (L / 6) 0 158 81949 .null .null sig0 (by omega) (by omega) (by omega) (by omega) LInv_0
  have eL : pm_as (adM q0 q1 qo b u.1 v.1 adC) 0 (LO 0 .null .null) = [(0, .ref b), (1, .ref q0), (2, .ref q1), (3, .ref qo), (4, .int (nI 0))] := by
    simp [pm_as, LO, pm_cv, adM]
  refine hG H locs ls ⟨rfl, hl.1, hl.2.1, fun q hq => hl.2.2 q ?_⟩ (wdM_P hP h13 h43 h78 h83 h87 h92) hS
  have hq : q ∈ pm_as (adM q0 q1 qo b u.1 v.1 adC) 0 (LO 0 .null .null) := hq
  rw [eL] at hq
  simp only [List.mem_cons, List.not_mem_nil, or_false] at hq
  rcases hq with rfl | rfl | rfl | rfl | rfl <;> simp

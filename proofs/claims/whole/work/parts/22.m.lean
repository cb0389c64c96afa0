/-! ===== the law: its case of a lifter ===== -/
theorem b_lif_z (d : Nat) {k sz n a e nl l j : Nat} {T R : Nat → Nat} {V : Nat → LV → Int32} {σ : pm_H} (h : RelB k sz T R n a e σ) (w : LW nl V σ) (hl : l < sz) (hj : j ≤ 16) : ∃ (v : Int32) (g : Nat → Int32), xe (d + 4) 116 [.ref 0, .int (nI l), .int (nI j)] σ = some (some (.int v), pm_wC σ 91 g) ∧ ∀ u : Int64, xe (d + 4) 131 [.ref 133, .int (nI l), .int (nI j)] (pm_wJ (pm_wC σ 91 g) 157 0 u) = some (some (.int v), th0 (pm_wJ (pm_wC σ 91 g) 157 0 u)) ∧ PostX k (th0 (pm_wJ (pm_wC σ 91 g) 157 0 u)) := by
  have hh := h
  obtain ⟨⟨h1, h2, h3, h4, h5, h6, h7⟩, ⟨h8, h9⟩, -⟩ := hh
  obtain ⟨g, hg⟩ := q_lif d (j := j) h1 h3 hl hj
  refine ⟨_, g, hg, fun u => ?_⟩
  have eq : ∀ c, c ≠ 91 → (pm_wJ (pm_wC σ 91 g) 157 0 u).1 c = σ.1 c := fun c hc => (wC_ne σ g hc)
  have sX : sameX σ (pm_wJ (pm_wC σ 91 g) 157 0 u) := sameX_tr (sameX_w (sameX_rfl σ) (c := 91) g ⟨rfl, rfl⟩ (by decide)) ⟨⟨fun _ _ => rfl, fun _ _ => rfl⟩, ⟨fun _ _ => rfl, rfl, fun _ _ => rfl⟩, ⟨rfl, rfl⟩⟩
  have hm := r_lif d (σ := pm_wJ (pm_wC σ 91 g) 157 0 u) (j := j) (t := σ.1 4) (r := σ.1 5) (f := σ.1 24) (lg := lgs σ 28) (k := k) (n := n) (by rw [eq _ (by decide)]; exact h2) h3 hl hj (h5 (by omega)) (by rw [eq _ (by decide)]; exact h6) (by rw [eq _ (by decide)]; exact h7) (by rw [eq _ (by decide)]; exact h8)
  obtain ⟨hB, hW'⟩ := sameX_R (sameX_th sX) h w
  exact ⟨hm, sz, T, R, nl, V, PostW_Q hB hW' (sameQ_rfl _) hW'.2.2.2.1 hW'.2.2.2.2.1⟩
theorem lg_same (u : Int64) : lg_cmp u u = nI 0 := by
  simp [lg_cmp, nI]
section LWD
variable {p : Program} {l : Launch} {e : Env} {s : State} {m : MethodId} {args : Array Value} {below : List Frame} {meth : Method} {c : Code} {cells slots : Nat} {D : va_G} {cA : Nat → ClassId} {ad : Nat → Nat} {A : Nat → Prop} {Q : State → Prop} {L : Nat} {xs : Nat → Int32}
theorem xm_go {R : Room} {H : Heap} {locs : List Loc} {ls : Array Slot} {pc mc ms : Nat} {st0 rest : List Value} {r : pm_R} {a : Array Value}
    (hr : vx_Run p l e R s m args below meth c H locs cells slots mc ms (F0 m pc ls st0) rest (pm_Qc D cA ad A r a) (fun _ _ _ => False) A) (hS : va_S A s.heap H locs)
    (kk : ∀ (H1 : Heap) (locs1 : List Loc), va_P D vwCl (pm_ws cA ad r.2) H1 → va_S A s.heap H1 locs1 → W p l e R s m args below meth c H1 locs1 (cells + mc) (slots + ms) Q (F0 m (pc + 3) ls ((r.1.map (pm_cv ad)).toList ++ rest))) : W p l e R s m args below meth c H locs cells slots Q (F0 m pc ls st0) := by
  intro T hT X
  rcases hr T hT X with ⟨v, st₀, t, T', L9, h0, X', hL, e1, e2, ⟨hv, hp, hz, hk⟩, st⟩ | ⟨q, st₀, t, T', L9, E, ce, h0, X', hL, e1, e2, hf, -⟩
  · cases hv
    rw [h0] at hz hk
    obtain ⟨t2, a1, b1⟩ := kk T'.heap (locs ++ L9) (by rw [e1]; exact hp)
      ⟨Nat.le_trans hS.1 (by rw [e1]; exact hz), fun q h1 h2 => by rw [e1, hk q (Nat.lt_of_lt_of_le h1 hS.1) h2]; exact hS.2.1 q h1 h2, fun q hq => by
        rcases List.mem_append.mp hq with h | h
        · exact hS.2.2 q h
        · exact hL q h⟩ T' rfl X'
    exact ⟨t2, st t2 a1, b1⟩
  · exact hf.elim
theorem xl_good : GoodIn pm_TB (va_wsS RL 38 yL_lifter xl_ws) := by
  intro w hw
  have hm : w ∈ pm_TB := by
    rcases List.mem_append.mp hw with h | h
    · rcases List.mem_cons.mp h with rfl | h
      · exact xl_tb 1 rfl
      · rcases List.mem_cons.mp h with rfl | h
        · exact xl_tb 2 rfl
        · rcases List.mem_cons.mp h with rfl | h
          · exact xl_tb 3 rfl
          · cases h
    · rcases List.mem_cons.mp h with rfl | h
      · exact xl_tb 0 rfl
      · exact h
  exact ⟨hm, pm_good hm⟩
theorem lw_lif {mc ms j : Nat} {rm : Room} {r x y : Int32} {w5 w6 : Value} {σ σ' : pm_H} (hM : vx_Met l yL_lifter xl_ws rm (va_Pc ((LLA x y).map (pm_cv ad)) (fun U => xm_W D cA ad A σ U)) (pm_Qc D cA ad A (some (.int r), σ')) (fun _ _ _ => False) mc ms A) (hrc : rm.cells = mc) (hrs : rm.slots = ms) (hR : rm.frames ≤ 11 ∧ rm.locals ≤ 704)
    (C : LC p s m args meth c D cA ad A L xs) (hE : xt_E A s s.heap) (hcs : cells + mc ≤ 601024 ∧ slots + ms ≤ 7293034) (k : pm_G p l e room_1 s m args below meth c (cells + mc) (slots + ms) D cA ad A 7 Q (393, LO j w5 w6, [.int r], σ')) : pm_G p l e room_1 s m args below meth c cells slots D cA ad A 7 Q (390, LO j w5 w6, [.ref 157, .int y, .int x, .ref 0], σ) := by
  intro H locs ls hL hP hS
  have hR1 : rm.frames + 1 ≤ room_1.frames := Nat.le_trans (Nat.succ_le_succ hR.1) (Nat.le_of_ble_eq_true rfl)
  have hR2 : 8 + (5 + 11) + rm.locals ≤ room_1.locals := Nat.le_trans (Nat.add_le_add_left hR.2 _) (Nat.le_of_ble_eq_true rfl)
  exact xm_go (vx_runSX (hh := [(0, 10, 13, 13)]) (bytes := cL_lifter) (maxL := 5) (ret := some .int) (As := (LLA x y).map (pm_cv ad)) (rest := []) (n := 4) (index := 38) ⟨C.1.1, C.1.2.1, C.1.2.2.1, C.1.2.2.2.1, C.1.2.2.2.2⟩ hM (vx_cwSW 4 C.1.2.2.2.2 xl_good rfl hrc hrs ⟨by decide, by decide, by decide +kernel⟩ ⟨hR1, hR2⟩)
    ⟨xm_blind _, fun U hU hW => ⟨rfl, xm_at C.2.2.1 C.2.2.2.2.1 hE hP hS hU hW⟩⟩ rfl rfl hL.2.1 rfl (lv_room (Nat.le_of_ble_eq_true rfl)) dL_law_390 hcs) hS (fun H1 locs1 hP1 hS1 => k H1 locs1 ls hL hP1 hS1)
set_option maxRecDepth 20000 in
theorem lw_c4 (C : LC p s m args meth c D cA ad A L xs) (hE : xt_E A s s.heap) (hst : l.stackTraces = false) (hcs : cells + 1 ≤ 601024 ∧ slots + 6 ≤ 7293034) (hL : L ≤ 3072) {j : Nat} (hj : 6 * j + 6 ≤ L) {w5 w6 : Value} {σ : pm_H} (hI : LInv j σ) (K : ∀ (σ' : pm_H) (v5 v6 : Value), LInv (j + 1) σ' → pm_G p l e room_1 s m args below meth c (cells + 1) (slots + 6) D cA ad A 7 Q (23, LO (j + 1) v5 v6, [], σ')) : pm_G p l e room_1 s m args below meth c cells slots D cA ad A 7 Q (376, LO j w5 w6, [], σ) := by
  obtain ⟨sz, T, R, n, a, e9, nl, V, h, w⟩ := hI
  have hc : cells ≤ 601024 ∧ slots ≤ 7293034 := ⟨by omega, by omega⟩
  have hh := h
  obtain ⟨⟨h1, h2, h3, h4, h5, h6, h7⟩, ⟨h8, h9⟩, -⟩ := hh
  refine lw_st (g' := (377, LO j w5 w6, [.ref 0], σ)) (ps_aload_n dL_law_376 rfl) C hc rfl ?_
  refine lw_arg (pc := 377) (kk := 1) dL_law_377 dL_law_378 dL_law_380 dL_law_381 dL_law_382 rfl C hc (by omega) hL ?_
  refine lw_arg (pc := 383) (kk := 2) dL_law_383 dL_law_384 dL_law_386 dL_law_387 dL_law_388 rfl C hc (by omega) hL ?_
  refine lw_st (g' := (390, LO j w5 w6, [.ref 157, .int (xs (6 * j + 2)), .int (xs (6 * j + 1)), .ref 0], σ)) (ps_aload_n dL_law_389 rfl) C hc rfl ?_
  rcases lif_cases (xs (6 * j + 1)) (xs (6 * j + 2)) h3 with hN | ⟨li, jj, hl, hjj, ex, ey⟩
  · refine lw_lif (xm_L_n l hst C.2.2.2.1 h1 h3 hN) rfl rfl ⟨Nat.le_of_ble_eq_true rfl, Nat.le_of_ble_eq_true rfl⟩ C hE hcs ?_
    refine lw_st (g' := (395, LO j (.int (nI 1)) w6, [], σ)) (ps_istore dL_law_393) C hcs rfl ?_
    refine lw_st (g' := (396, LO j (.int (nI 1)) w6, [.ref 133], σ)) (ps_aload_n dL_law_395 rfl) C hcs rfl ?_
    refine lw_arg (pc := 396) (kk := 1) dL_law_396 dL_law_397 dL_law_399 dL_law_400 dL_law_401 rfl C hcs (by omega) hL ?_
    refine lw_arg (pc := 402) (kk := 2) dL_law_402 dL_law_403 dL_law_405 dL_law_406 dL_law_407 rfl C hcs (by omega) hL ?_
    refine lw_cV (pc := 408) (rest := []) (cc0 := 133) sc_L_408 C hcs (d := 4) (by decide) (r_lif_n 0 h2 h3 hN) rfl rfl (Nat.le_of_ble_eq_true rfl) rfl ?_
    refine lw_st (g' := (413, LO j (.int (nI 1)) (.int (nI 0)), [], th1 σ)) (ps_istore dL_law_411) C hcs rfl ?_
    refine lw_st (g' := (414, LO j (.int (nI 1)) (.int (nI 0)), [.ref 133], th1 σ)) (ps_aload_n dL_law_413 rfl) C hcs rfl ?_
    have ht : xe 1 141 [.ref 133] (th1 σ) = some (some (.int (nI 1)), th1 σ) := by
      rw [r_thrown 0, show (th1 σ).1 133 0 = nI 1 from by unfold th1; rw [wI_wC, wC_at, up_at]]
    refine lw_cV (pc := 414) (rest := []) (cc0 := 133) sc_L_414 C hcs (d := 1) (by decide) ht rfl rfl (Nat.le_of_ble_eq_true rfl) rfl ?_
    refine lw_st (g' := (419, LO j (.int (nI 1)) (.int (nI 0)), [.int (nI 1), .int (nI 1)], th1 σ)) (ps_iload dL_law_417) C hcs rfl ?_
    refine lw_st (g' := (424, LO j (.int (nI 1)) (.int (nI 0)), [], th1 σ)) (ps_ceq (pc := 419) (t := 424) dL_law_419 (by decide)) C hcs (ceq_eq (nI 1)) ?_
    refine lw_st (g' := (426, LO j (.int (nI 1)) (.int (nI 0)), [.int (nI 1)], th1 σ)) (ps_iload dL_law_424) C hcs rfl ?_
    refine lw_st (g' := (441, LO j (.int (nI 1)) (.int (nI 0)), [], th1 σ)) (ps_zne (pc := 426) (t := 441) dL_law_426 (by decide)) C hcs (by simp only [pm_zne]; rw [if_neg n10]) ?_
    refine lw_st (g' := (1642, LO j (.int (nI 1)) (.int (nI 0)), [], th1 σ)) (ps_goto (pc := 441) (t := 1642) dL_law_441 (by decide)) C hcs rfl ?_
    exact lw_tail C hcs (by omega) (K _ _ _ (LInv_X (PostX_th1 h w)))
  · obtain ⟨v, g, hv1, hv2⟩ := b_lif_z 6 h w hl hjj
    rw [← ex, ← ey] at hv1
    have hb := hv2 v.toInt64
    rw [← ex, ← ey] at hb
    obtain ⟨hm, hPX⟩ := hb
    refine lw_lif (xm_L_y l C.2.2.2.1 hv1) rfl rfl ⟨Nat.le_of_ble_eq_true rfl, Nat.le_of_ble_eq_true rfl⟩ C hE ⟨hc.1, hc.2⟩ ?_
    generalize hτ : pm_wJ (pm_wC σ 91 g) 157 0 v.toInt64 = τ at hm hPX
    have e157 : (th0 τ).2 157 0 = v.toInt64 := by
      subst hτ
      show (pm_wJ (pm_wC σ 91 g) 157 0 v.toInt64).2 157 0 = _
      simp [pm_wJ, vp_updL]
    have e133 : (th0 τ).1 133 0 = nI 0 := by unfold th0; rw [wI_wC, wC_at, up_at]
    refine lw_st (g' := (395, LO j (.int (nI 0)) w6, [], τ)) (ps_istore dL_law_393) C hc rfl ?_
    refine lw_st (g' := (396, LO j (.int (nI 0)) w6, [.ref 133], τ)) (ps_aload_n dL_law_395 rfl) C hc rfl ?_
    refine lw_arg (pc := 396) (kk := 1) dL_law_396 dL_law_397 dL_law_399 dL_law_400 dL_law_401 rfl C hc (by omega) hL ?_
    refine lw_arg (pc := 402) (kk := 2) dL_law_402 dL_law_403 dL_law_405 dL_law_406 dL_law_407 rfl C hc (by omega) hL ?_
    refine lw_cV (pc := 408) (rest := []) (cc0 := 133) sc_L_408 C hc (d := 10) (by decide) hm rfl rfl (Nat.le_of_ble_eq_true rfl) rfl ?_
    refine lw_st (g' := (413, LO j (.int (nI 0)) (.int v), [], th0 τ)) (ps_istore dL_law_411) C hc rfl ?_
    refine lw_st (g' := (414, LO j (.int (nI 0)) (.int v), [.ref 133], th0 τ)) (ps_aload_n dL_law_413 rfl) C hc rfl ?_
    have ht : xe 1 141 [.ref 133] (th0 τ) = some (some (.int (nI 0)), th0 τ) := by rw [r_thrown 0, e133]
    refine lw_cV (pc := 414) (rest := []) (cc0 := 133) sc_L_414 C hc (d := 1) (by decide) ht rfl rfl (Nat.le_of_ble_eq_true rfl) rfl ?_
    refine lw_st (g' := (419, LO j (.int (nI 0)) (.int v), [.int (nI 0), .int (nI 0)], th0 τ)) (ps_iload dL_law_417) C hc rfl ?_
    refine lw_st (g' := (424, LO j (.int (nI 0)) (.int v), [], th0 τ)) (ps_ceq (pc := 419) (t := 424) dL_law_419 (by decide)) C hc (ceq_eq (nI 0)) ?_
    refine lw_st (g' := (426, LO j (.int (nI 0)) (.int v), [.int (nI 0)], th0 τ)) (ps_iload dL_law_424) C hc rfl ?_
    refine lw_st (g' := (429, LO j (.int (nI 0)) (.int v), [], th0 τ)) (ps_zne (pc := 426) (t := 441) dL_law_426 (by decide)) C hc (by simp only [pm_zne]; rw [if_pos n00]) ?_
    refine lw_st (g' := (430, LO j (.int (nI 0)) (.int v), [.ref 157], th0 τ)) (ps_aload_n dL_law_429 rfl) C hc rfl ?_
    refine lw_st (g' := (431, LO j (.int (nI 0)) (.int v), [.int (nI 0), .ref 157], th0 τ)) (ps_iconst dL_law_430 rfl) C hc rfl ?_
    refine lw_st (g' := (432, LO j (.int (nI 0)) (.int v), [.long ((th0 τ).2 157 0)], th0 τ)) (ps_lald dL_law_431) C hc rfl ?_
    refine lw_st (g' := (434, LO j (.int (nI 0)) (.int v), [.int v, .long ((th0 τ).2 157 0)], th0 τ)) (ps_iload dL_law_432) C hc rfl ?_
    refine lw_st (g' := (435, LO j (.int (nI 0)) (.int v), [.long v.toInt64, .long ((th0 τ).2 157 0)], th0 τ)) (ps_i2l dL_law_434) C hc rfl ?_
    refine lw_st (g' := (436, LO j (.int (nI 0)) (.int v), [.int (lg_cmp ((th0 τ).2 157 0) v.toInt64)], th0 τ)) (ps_lcmp dL_law_435) C hc rfl ?_
    rw [e157, lg_same]
    refine lw_st (g' := (441, LO j (.int (nI 0)) (.int v), [], th0 τ)) (ps_zeq (pc := 436) (t := 441) dL_law_436 (by decide)) C hc (by simp only [pm_zeq]; rw [if_pos n00]) ?_
    refine lw_st (g' := (1642, LO j (.int (nI 0)) (.int v), [], th0 τ)) (ps_goto (pc := 441) (t := 1642) dL_law_441 (by decide)) C hc rfl ?_
    exact lw_tail C hc (by omega) (pm_G_w (Nat.le_succ _) (Nat.le_add_right _ 6) (K _ _ _ (LInv_X hPX)))
end LWD

/-! ===== the lifter that isn't there: the throw, and the law's own catch ===== -/
def rmL (d : Nat) : Room := { frames := d + 1, cells := 1, slots := 6, locals := 64 * (d + 1) }
/-- what a throw reads, beside the good words -/
def xt_E (A : Nat → Prop) (U : State) (H : Heap) : Prop := xt_Z A U H ∧ (∃ sa, vk_R RX11 161 "no such lifter" sa U) ∧ (∃ sa, vk_R RX11 189 "no such what" sa U) ∧ va_Nw (.declares (Bundle.initS RTE)) U ∧ va_Nw (.declares (Bundle.initS "java/lang/Exception")) U ∧ va_Nw (.declares (Bundle.initS Bundle.tN)) U ∧ va_Nw (.castable NSE NSE) U
theorem xt_E.kept {A : Nat → Prop} {U : State} {H H1 : Heap} (h : xt_E A U H) (hq : ∀ a : Nat, a < H.size → ¬ A a → H1[a]? = H[a]?) : xt_E A U H1 := ⟨⟨h.1.1.kept hq, h.1.2.kept hq⟩, h.2⟩
theorem xt_E.warm {A : Nat → Prop} {s U : State} {H : Heap} (hW : s.WarmedH U.vm) (h : xt_E A s H) : xt_E A U H := by
  obtain ⟨⟨h1, h2⟩, ⟨q1, h3⟩, ⟨q2, h4⟩, h5, h6, h7, h8⟩ := h
  exact ⟨⟨vx_Zq.moved hW.alike h1, vx_Zq.moved hW.alike h2⟩, ⟨q1, vk_R.warm hW h3⟩, ⟨q2, vk_R.warm hW h4⟩, va_Nw.warmD hW h5, va_Nw.warmD hW h6, va_Nw.warmD hW h7, va_tabs rfl (rfl : (s.setVm U.vm).vm = U.vm) (by rw [Cond.castable_setVm hW.alike]; exact h8)⟩
def xm_W (D : va_G) (cA : Nat → ClassId) (ad : Nat → Nat) (A : Nat → Prop) (σ : pm_H) (U : State) : Prop := pm_Wd D cA ad A σ U ∧ xt_E A U U.heap
theorem xm_blind {D : va_G} {cA : Nat → ClassId} {ad : Nat → Nat} {A : Nat → Prop} {σ : pm_H} (as : List Value) : FrameBlind (va_Pc as (fun U => xm_W D cA ad A σ U)) := by
  intro a U g mk q
  obtain ⟨q0, qW, qE⟩ := q
  obtain ⟨q1, q2⟩ := pm_blind (D := D) (cA := cA) (ad := ad) (A := A) (σ := σ) as a U g mk ⟨q0, qW⟩
  exact ⟨q1, q2, xt_E.warm (s := U) (U := U.calling g mk a) (State.WarmedH.refl U) qE⟩
theorem xm_at {D : va_G} {cA : Nat → ClassId} {ad : Nat → Nat} {A : Nat → Prop} {σ : pm_H} {s U : State} {H : Heap} {locs : List Loc} (hK : va_K D vwCl (pm_tys cA) s) (hCt : pm_Ct ad A s s.heap) (hE : xt_E A s s.heap) (hP : va_P D vwCl (pm_ws cA ad σ) H) (hS : va_S A s.heap H locs) (hU : U.heap = H) (hW : s.WarmedH U.vm) : xm_W D cA ad A σ U :=
  ⟨pm_Wd_at hK hCt hP hS hU hW, xt_E.warm hW (by rw [hU]; exact hE.kept hS.2.1)⟩
theorem cV_eq {ev : pm_Ev} {pc μ ci n cc0 : Nat} {Lo st0 rest as : List Value} {q : List Nat} {v : Value} {σ σ' : pm_H} (hev : ev μ (.ref cc0 :: as) σ = some (some v, σ')) (h0 : st0.drop n = .ref cc0 :: rest) (hk : pm_kd cc0 = .inr (ci, q)) (hl : pm_sw rest ≤ 8) (ha : (st0.take n).reverse = as) : pm_cV μ ci n ev (pc, Lo, st0, σ) = some (.inl (pc + 3, Lo, v :: rest, σ')) := by
  subst ha
  simp only [pm_cV, h0, hk, hev]
  rw [if_pos ⟨trivial, hl⟩]
  rfl
def ixX : pm_MI := (yX11_lifter, cX11_lifter, 3, some .int)
theorem xt_g1 : ∀ w ∈ (xt_ws.filter vx_no).filter goodWord, w ∈ pm_TB := fun w h => pm_tb (xt_in w (List.mem_cons_of_mem _ (List.mem_cons_of_mem _ (List.mem_filter.mp h).1))) (List.mem_filter.mp h).2
theorem xt_g2 : Cond.classLink RX11 159 NSE ∈ pm_TB := pm_tb (xt_in _ List.mem_cons_self) rfl
theorem xt_g3 : Cond.initialized NSE ∈ pm_TB := pm_tb (xt_in _ (List.mem_cons_of_mem _ List.mem_cons_self)) rfl
theorem lif_out {y : Int32} {k : Nat → Option (pm_S ⊕ pm_R)} {ts : List Nat} (hts : ts.length = 17) (hy : y < nI 0 ∨ nI 16 < y) : pm_sel y k 284 0 ts = k 284 := by
  rcases pm_sel_of y k 284 ts 0 with ⟨-, e⟩ | ⟨j, t, h1, h2, -⟩
  · exact e
  · exfalso
    have hj : j < 17 := by rw [← hts]; exact (List.getElem?_eq_some_iff.mp h2).1
    rcases hy with h | h
    · have := Int32.lt_iff_toInt_lt.mp h
      rw [show (nI 0).toInt = 0 from by decide] at this
      omega
    · have := Int32.lt_iff_toInt_lt.mp h
      rw [show (nI 16).toInt = 16 from by decide] at this
      omega
set_option maxRecDepth 20000 in
/-- the class's lifter, where it throws -/
theorem xm_X11 (l : Launch) (hst : l.stackTraces = false) {D : va_G} {cA : Nat → ClassId} {ad : Nat → Nat} {A : Nat → Prop} (hJ : pm_J ad A) {sz : Nat} {x y : Int32} {σ : pm_H} (hz : σ.1 3 2 = nI sz) (hs : sz ≤ 6) (hN : lifN sz x y) :
    vx_Met l yX11_lifter (pm_wl ixX) (rmL 7) (va_Pc ([Value.ref 0, .int x, .int y].map (pm_cv ad)) (fun U => xm_W D cA ad A σ U)) (va_Qi (S := Unit) (fun _ _ => False) (fun _ _ => True) A) (vx_X (S := Unit) (fun _ => True) (fun E _ t => E = NSE ∧ va_P D vwCl (pm_ws cA ad σ) t.heap) A) 1 6 A := by
  refine vx_ofW (cc := cX11_lifter) (maxL := 3) (ret := some .int) (by decide) rfl ?_
  intro p e s m args below meth c s₁ B hml hex hv
  obtain ⟨rfl, ⟨hP0, hK, hCt⟩, hE⟩ := hv
  have hts := atoms_spec (ws := pm_wl ixX) B.pre
  have htb : ∀ w ∈ pm_TB, w.before ([Value.ref 0, .int x, .int y].map (pm_cv ad)).toArray s = true := fun w hw => hts w (List.mem_cons_of_mem _ hw)
  have hown : s.vm.findClass RX11 = some m.cls := findClass_of_methodNamed B.named
  have hC : pm_C p s m ([Value.ref 0, .int x, .int y].map (pm_cv ad)).toArray meth c (headSpec (pm_wl ixX) (rmL 7)).room 0 0 7 D cA ad A (fun _ _ _ => True) RX11 cX11_lifter 3 (some .int) :=
    ⟨⟨B.exec, B.bytes, hml, hown, htb⟩, ⟨B.returns, B.notSynchronized⟩, ⟨Nat.le_refl _, Nat.le_refl _, Nat.zero_le _, Nat.zero_le _⟩, hK, hJ, hCt, trivial⟩
  have hEo := pm_met (D := D) (cA := cA) pm_PP_ok l hJ 7
  obtain ⟨Qx, hQx⟩ : ∃ Z, Z = vx_MQ below (va_Qi (S := Unit) (fun _ _ => False) (fun _ _ => True) A) (vx_X (S := Unit) (fun _ => True) (fun E _ t => E = NSE ∧ va_P D vwCl (pm_ws cA ad σ) t.heap) A) ([Value.ref 0, .int x, .int y].map (pm_cv ad)).toArray s 1 6 A := ⟨_, rfl⟩
  have thr : ∀ (pc is : Nat) (text : String), (∃ sa, vk_R RX11 is text sa s) → decode cX11_lifter pc = .ok (.new 159, 3) → decode cX11_lifter (pc + 3) = .ok (.dup, 1) → decode cX11_lifter (pc + 4) = .ok (.ldc is, 2) → decode cX11_lifter (pc + 6) = .ok (.invokespecial 163, 3) → decode cX11_lifter (pc + 9) = .ok (.athrow, 1) →
      pm_G p l e (headSpec (pm_wl ixX) (rmL 7)).room s m ([Value.ref 0, .int x, .int y].map (pm_cv ad)).toArray below meth c 0 0 D cA ad A 3 Qx (pc, [.ref 0, .int x, .int y], [], σ) := by
    intro pc is text ⟨sa, hsa⟩ d0 d3 d4 d6 d9 H locs ls hL hP hS
    rw [hQx]
    refine xt_throw (A := A) (is := is) (text := text) (sa := sa) B.exec B.bytes hst hown (htb _ xt_g2) (htb _ xt_g3) hsa (vx_hat (B := xt_dc) (fun w hw => htb w (xt_g1 w hw)) xt_nb ?_) xt_ot hE.1 hS (hL.2.1.trans hml.symm) d0 d3 d4 d6 d9 (fun x hx => (hex x hx).elim) (Nat.le_of_ble_eq_true rfl) (Nat.le_of_ble_eq_true rfl) (Nat.le_of_ble_eq_true rfl) (Nat.le_of_ble_eq_true rfl) B.notSynchronized ?_ hS.2.2 (Nat.le_of_ble_eq_true rfl) (Nat.le_of_ble_eq_true rfl)
    · intro w hw
      obtain ⟨-, -, -, h5, h6, h7, -⟩ := hE
      rcases List.mem_cons.mp hw with rfl | hw
      · exact h5
      · rcases List.mem_cons.mp hw with rfl | hw
        · exact h6
        · rcases List.mem_cons.mp hw with rfl | hw
          · exact h7
          · cases hw
    · intro t _ h1 h2
      exact ⟨(), trivial, ⟨rfl, hP.kept fun k q hk => h2 _ (vx_lt hP hk)⟩, Nat.le_trans hS.1 h1, fun q hq hn => (h2 q (Nat.lt_of_lt_of_le hq hS.1)).trans (hS.2.1 q hq hn)⟩
  have G8 := thr 8 161 "no such lifter" hE.2.1 dX11_lifter_8 dX11_lifter_11 dX11_lifter_12 dX11_lifter_14 dX11_lifter_17
  have G284 := thr 284 189 "no such what" hE.2.2.1 dX11_lifter_284 dX11_lifter_287 dX11_lifter_288 dX11_lifter_290 dX11_lifter_293
  have stp : ∀ (g g' : pm_S), pm_stp (xe 7) pg_X11_lifter g = some (.inl g') → pm_G p l e (headSpec (pm_wl ixX) (rmL 7)).room s m ([Value.ref 0, .int x, .int y].map (pm_cv ad)).toArray below meth c 0 0 D cA ad A 3 Qx g' → pm_G p l e (headSpec (pm_wl ixX) (rmL 7)).room s m ([Value.ref 0, .int x, .int y].map (pm_cv ad)).toArray below meth c 0 0 D cA ad A 3 Qx g := fun g g' h k => pm_stp_G ok_X11_lifter hC hEo h k
  have G0 : pm_G p l e (headSpec (pm_wl ixX) (rmL 7)).room s m ([Value.ref 0, .int x, .int y].map (pm_cv ad)).toArray below meth c 0 0 D cA ad A 3 Qx (0, [.ref 0, .int x, .int y], [], σ) := by
    refine stp _ (1, [.ref 0, .int x, .int y], [.ref 0], σ) rfl ?_
    refine stp _ (2, [.ref 0, .int x, .int y], [.int x, .ref 0], σ) rfl ?_
    rcases hN with hx | ⟨⟨li, hl, rfl⟩, hy⟩
    · refine stp _ (5, [.ref 0, .int x, .int y], [.int (nI 0)], σ) (show pm_cV 117 11 1 (xe 7) (2, [.ref 0, .int x, .int y], [.int x, .ref 0], σ) = some (.inl (2 + 3, [.ref 0, .int x, .int y], [.int (nI 0)], σ)) from cV_eq (n := 1) (st0 := [.int x, .ref 0]) (cc0 := 0) (rest := []) (q_isL_n 6 σ hz hx) rfl kd_0 (Nat.le_of_ble_eq_true rfl) rfl) ?_
      exact stp _ (8, [.ref 0, .int x, .int y], [], σ) (show (if nI 0 = 0 then (some (.inl (5 + 3, [.ref 0, .int x, .int y], [], σ)) : Option (pm_S ⊕ pm_R)) else some (.inl (18, [.ref 0, .int x, .int y], [], σ))) = _ from if_pos n00) G8
    · refine stp _ (5, [.ref 0, .int (nI li), .int y], [.int (nI 1)], σ) (show pm_cV 117 11 1 (xe 7) (2, [.ref 0, .int (nI li), .int y], [.int (nI li), .ref 0], σ) = some (.inl (2 + 3, [.ref 0, .int (nI li), .int y], [.int (nI 1)], σ)) from cV_eq (n := 1) (st0 := [.int (nI li), .ref 0]) (cc0 := 0) (rest := []) (q_isL_y 6 σ hz hs hl) rfl kd_0 (Nat.le_of_ble_eq_true rfl) rfl) ?_
      refine stp _ (18, [.ref 0, .int (nI li), .int y], [], σ) (show (if nI 1 = 0 then (some (.inl (5 + 3, [.ref 0, .int (nI li), .int y], [], σ)) : Option (pm_S ⊕ pm_R)) else some (.inl (18, [.ref 0, .int (nI li), .int y], [], σ))) = _ from if_neg n10) ?_
      refine stp _ (19, [.ref 0, .int (nI li), .int y], [.int y], σ) rfl ?_
      exact stp _ (284, [.ref 0, .int (nI li), .int y], [], σ) (lif_out (k := fun t => some (.inl (t, [.ref 0, .int (nI li), .int y], [], σ))) rfl hy) G284
  have hl := lv_entry ([Value.ref 0, .int x, .int y].map (pm_cv ad)) (n := 3) (by rw [pm_fl_len]; exact Nat.le_refl 3)
  rw [lg_entry_eq, ← hQx]
  exact G0 s.heap [] _ ⟨rfl, hl.1, hl.2.1, fun q hq => hl.2.2 q (pm_as_ent 0 [Value.ref 0, .int x, .int y] 0 q hq)⟩ hP0 va_S.rf
/-! the law's own lifter -/
def xl_ws : List Cond := Cond.codeWith yL_lifter cL_lifter 5 (some .int) [(0, 10, 13, 13)] :: pm_TB
def xl_w : List Cond := [Cond.codeWith yL_lifter cL_lifter 5 (some .int) [(0, 10, 13, 13)], .methodLink RL 38 yL_lifter, .static yL_lifter, .initialized RL, .code yX11_lifter cX11_lifter 3 (some .int), .initialized RX11, .methodLink RL 7 yX11_lifter, .instanceMethod yX11_lifter, .selects RX11 yX11_lifter yX11_lifter, .classLink RL 13 NSE]
theorem xl_in : ∀ w ∈ xl_w, w ∈ lw_tbl := by decide +kernel
theorem xl_gd : ∀ w ∈ xl_w, goodWord w = true := by decide +kernel
theorem xl_tb {w : Cond} (k : Nat) (h : xl_w[k]? = some w) : w ∈ pm_TB := pm_tb (xl_in w (List.mem_of_getElem? h)) (xl_gd w (List.mem_of_getElem? h))
theorem xl_cV : pm_Snd (fun _ _ _ => True) RL cL_lifter 5 (some .int) 5 (pm_cV 116 11 2) := ps_cV (C := RX11) (T := TX11) (N := 19) (i := ixX) dL_lifter_5 rfl rfl (by decide) rfl (xl_tb 4 rfl) (xl_tb 5 rfl) (xl_tb 6 rfl) (xl_tb 7 rfl) (xl_tb 8 rfl) (by decide) (by decide +kernel)
abbrev LLL (x y : Int32) : List Value := [.ref 0, .int x, .int y, .ref 157, .null]
abbrev LLA (x y : Int32) : List Value := [.ref 0, .int x, .int y, .ref 157]
set_option maxRecDepth 20000 in
theorem xm_L_y (l : Launch) {D : va_G} {cA : Nat → ClassId} {ad : Nat → Nat} {A : Nat → Prop} (hJ : pm_J ad A) {x y v : Int32} {σ σ1 : pm_H} (hev : xe 10 116 [.ref 0, .int x, .int y] σ = some (some (.int v), σ1)) :
    vx_Met l yL_lifter xl_ws (pm_rm 10) (va_Pc ((LLA x y).map (pm_cv ad)) (fun U => xm_W D cA ad A σ U)) (pm_Qc D cA ad A (some (.int (nI 0)), pm_wJ σ1 157 0 v.toInt64)) (fun _ _ _ => False) 0 0 A := by
  refine vx_ofWH (cc := cL_lifter) (maxL := 5) (ret := some .int) (hh := [(0, 10, 13, 13)]) (by decide) rfl ?_
  intro p e s m args below meth c s₁ B hml hv
  obtain ⟨rfl, ⟨hP0, hK, hCt⟩, hE⟩ := hv
  have hts := atoms_spec (ws := xl_ws) B.pre
  have htb : ∀ w ∈ pm_TB, w.before ((LLA x y).map (pm_cv ad)).toArray s = true := fun w hw => hts w (List.mem_cons_of_mem _ hw)
  have hown : s.vm.findClass RL = some m.cls := findClass_of_methodNamed B.named
  have hC : pm_C p s m ((LLA x y).map (pm_cv ad)).toArray meth c (headSpec xl_ws (pm_rm 10)).room 0 0 10 D cA ad A (fun _ _ _ => True) RL cL_lifter 5 (some .int) :=
    ⟨⟨B.exec, B.bytes, hml, hown, htb⟩, ⟨B.returns, B.notSynchronized⟩, ⟨Nat.le_refl _, Nat.le_refl _, Nat.zero_le _, Nat.zero_le _⟩, hK, hJ, hCt, trivial⟩
  have hEo := pm_met (D := D) (cA := cA) pm_PP_ok l hJ 10
  obtain ⟨Qx, hQx⟩ : ∃ Z, Z = MQ below (pm_Qc D cA ad A (some (.int (nI 0)), pm_wJ σ1 157 0 v.toInt64)) ((LLA x y).map (pm_cv ad)).toArray s 0 0 A := ⟨_, rfl⟩
  have stp : ∀ {pc : Nat} {f : pm_F} {Lo st : List Value} {τ : pm_H} {g' : pm_S}, pm_Snd (fun _ _ _ => True) RL cL_lifter 5 (some .int) pc f → f (xe 10) (pc, Lo, st, τ) = some (.inl g') → pm_G p l e (headSpec xl_ws (pm_rm 10)).room s m ((LLA x y).map (pm_cv ad)).toArray below meth c 0 0 D cA ad A 5 Qx g' → pm_G p l e (headSpec xl_ws (pm_rm 10)).room s m ((LLA x y).map (pm_cv ad)).toArray below meth c 0 0 D cA ad A 5 Qx (pc, Lo, st, τ) :=
    fun {pc f Lo st τ g'} hs he k => hs p l e _ s m _ below meth c 0 0 10 D cA ad A Qx (xe 10) hC hEo Lo st τ (.inl g') he k
  have G0 : pm_G p l e (headSpec xl_ws (pm_rm 10)).room s m ((LLA x y).map (pm_cv ad)).toArray below meth c 0 0 D cA ad A 5 Qx (0, LLL x y, [], σ) := by
    refine stp (g' := (1, LLL x y, [.ref 157], σ)) (ps_aload_n dL_lifter_0 rfl) rfl ?_
    refine stp (g' := (2, LLL x y, [.int (nI 0), .ref 157], σ)) (ps_iconst dL_lifter_1 rfl) rfl ?_
    refine stp (g' := (3, LLL x y, [.ref 0, .int (nI 0), .ref 157], σ)) (ps_aload_n dL_lifter_2 rfl) rfl ?_
    refine stp (g' := (4, LLL x y, [.int x, .ref 0, .int (nI 0), .ref 157], σ)) (ps_iload_n dL_lifter_3 rfl) rfl ?_
    refine stp (g' := (5, LLL x y, [.int y, .int x, .ref 0, .int (nI 0), .ref 157], σ)) (ps_iload_n dL_lifter_4 rfl) rfl ?_
    refine stp (g' := (8, LLL x y, [.int v, .int (nI 0), .ref 157], σ1)) xl_cV (cV_eq (cc0 := 0) (rest := [.int (nI 0), .ref 157]) hev rfl kd_0 (Nat.le_of_ble_eq_true rfl) rfl) ?_
    refine stp (g' := (9, LLL x y, [.long v.toInt64, .int (nI 0), .ref 157], σ1)) (ps_i2l dL_lifter_8) rfl ?_
    refine stp (g' := (10, LLL x y, [], pm_wJ σ1 157 0 v.toInt64)) (ps_last dL_lifter_9) rfl ?_
    refine stp (g' := (17, LLL x y, [], pm_wJ σ1 157 0 v.toInt64)) (ps_goto dL_lifter_10 (by decide)) rfl ?_
    refine stp (g' := (18, LLL x y, [.int (nI 0)], pm_wJ σ1 157 0 v.toInt64)) (ps_iconst dL_lifter_17 rfl) rfl ?_
    exact ps_iret (ty := .int) dL_lifter_18 rfl p l e _ s m _ below meth c 0 0 10 D cA ad A Qx (xe 10) hC hEo _ _ _ (.inr (some (.int (nI 0)), pm_wJ σ1 157 0 v.toInt64)) (by simp [pm_iret, narrow]) ⟨rfl, rfl, hQx⟩
  have hl := lv_entry ((LLA x y).map (pm_cv ad)) (n := 5) (by rw [pm_fl_len]; exact Nat.le_of_ble_eq_true rfl)
  rw [lg_entry_eq]
  refine vx_ret ?_
  rw [← hQx]
  exact G0 s.heap [] _ ⟨rfl, hl.1, hl.2.1, fun q hq => hl.2.2 q (pm_as_ent 1 (LLA x y) 0 q hq)⟩ hP0 va_S.rf
set_option maxRecDepth 20000 in
theorem xm_L_n (l : Launch) (hst : l.stackTraces = false) {D : va_G} {cA : Nat → ClassId} {ad : Nat → Nat} {A : Nat → Prop} (hJ : pm_J ad A) {sz : Nat} {x y : Int32} {σ : pm_H} (hz : σ.1 3 2 = nI sz) (hs : sz ≤ 6) (hN : lifN sz x y) :
    vx_Met l yL_lifter xl_ws (rmL 10) (va_Pc ((LLA x y).map (pm_cv ad)) (fun U => xm_W D cA ad A σ U)) (pm_Qc D cA ad A (some (.int (nI 1)), σ)) (fun _ _ _ => False) 1 6 A := by
  refine vx_ofWH (cc := cL_lifter) (maxL := 5) (ret := some .int) (hh := [(0, 10, 13, 13)]) (by decide) rfl ?_
  intro p e s m args below meth c s₁ B hml hv
  obtain ⟨rfl, ⟨hP0, hK, hCt⟩, hE⟩ := hv
  have hts := atoms_spec (ws := xl_ws) B.pre
  have htb : ∀ w ∈ pm_TB, w.before ((LLA x y).map (pm_cv ad)).toArray s = true := fun w hw => hts w (List.mem_cons_of_mem _ hw)
  have hown : s.vm.findClass RL = some m.cls := findClass_of_methodNamed B.named
  have htab : c.exceptionTable.toList = tableOf [(0, 10, 13, 13)] := vx_table (x := yL_lifter) B (hts _ List.mem_cons_self)
  have hC : pm_C p s m ((LLA x y).map (pm_cv ad)).toArray meth c (headSpec xl_ws (rmL 10)).room 0 0 10 D cA ad A (fun _ _ _ => True) RL cL_lifter 5 (some .int) :=
    ⟨⟨B.exec, B.bytes, hml, hown, htb⟩, ⟨B.returns, B.notSynchronized⟩, ⟨Nat.le_refl _, Nat.le_refl _, Nat.zero_le _, Nat.zero_le _⟩, hK, hJ, hCt, trivial⟩
  have hEo := pm_met (D := D) (cA := cA) pm_PP_ok l hJ 10
  obtain ⟨Qx, hQx⟩ : ∃ Z, Z = vx_MQ below (pm_Qc D cA ad A (some (.int (nI 1)), σ)) (fun _ _ _ => False) ((LLA x y).map (pm_cv ad)).toArray s 1 6 A := ⟨_, rfl⟩
  have stp : ∀ {pc : Nat} {f : pm_F} {Lo st : List Value} {τ : pm_H} {g' : pm_S}, pm_Snd (fun _ _ _ => True) RL cL_lifter 5 (some .int) pc f → f (xe 10) (pc, Lo, st, τ) = some (.inl g') → pm_G p l e (headSpec xl_ws (rmL 10)).room s m ((LLA x y).map (pm_cv ad)).toArray below meth c 0 0 D cA ad A 5 Qx g' → pm_G p l e (headSpec xl_ws (rmL 10)).room s m ((LLA x y).map (pm_cv ad)).toArray below meth c 0 0 D cA ad A 5 Qx (pc, Lo, st, τ) :=
    fun {pc f Lo st τ g'} hs he k => hs p l e _ s m _ below meth c 0 0 10 D cA ad A Qx (xe 10) hC hEo Lo st τ (.inl g') he k
  have G0 : pm_G p l e (headSpec xl_ws (rmL 10)).room s m ((LLA x y).map (pm_cv ad)).toArray below meth c 0 0 D cA ad A 5 Qx (0, LLL x y, [], σ) := by
    refine stp (g' := (1, LLL x y, [.ref 157], σ)) (ps_aload_n dL_lifter_0 rfl) rfl ?_
    refine stp (g' := (2, LLL x y, [.int (nI 0), .ref 157], σ)) (ps_iconst dL_lifter_1 rfl) rfl ?_
    refine stp (g' := (3, LLL x y, [.ref 0, .int (nI 0), .ref 157], σ)) (ps_aload_n dL_lifter_2 rfl) rfl ?_
    refine stp (g' := (4, LLL x y, [.int x, .ref 0, .int (nI 0), .ref 157], σ)) (ps_iload_n dL_lifter_3 rfl) rfl ?_
    refine stp (g' := (5, LLL x y, [.int y, .int x, .ref 0, .int (nI 0), .ref 157], σ)) (ps_iload_n dL_lifter_4 rfl) rfl ?_
    intro H locs ls hL hP hS
    refine vx_calli (A0 := A) (A1 := A) (AX := A) (H0 := s.heap) (vx_runV (As := [.int x, .int y]) (b := ad 0) (C := RX11) (n := 2) (index := 7) (y := yX11_lifter) (bytes := cX11_lifter) (maxL := 3) (ret := some .int) (rest := [.int (nI 0), .ref (ad 157)]) ⟨B.exec, B.bytes, hml, hown, htb⟩ (xm_X11 l hst hJ hz hs hN)
      ⟨⟨rfl, rfl, Nat.le_of_ble_eq_true rfl, Nat.le_of_ble_eq_true rfl, pm_pay (i := ixX) (xl_tb 4 rfl) htb, List.mem_cons_self, htb _ (xl_tb 4 rfl), htb _ (xl_tb 5 rfl), ⟨by decide, by decide⟩, fun sig h => ?_, htb _ (xl_tb 6 rfl)⟩, htb _ (xl_tb 7 rfl), htb _ (xl_tb 8 rfl)⟩
      ⟨xm_blind _, va_recv hK hP (ci := 11) rfl (pm_at_obj kd_0 (by decide)), fun U hU hW => ⟨rfl, xm_at hK hCt hE hP hS hU hW⟩⟩ rfl rfl hL.2.1 rfl (lv_room (Nat.le_of_ble_eq_true rfl)) dL_lifter_5 ⟨Nat.le_of_ble_eq_true rfl, Nat.le_of_ble_eq_true rfl⟩) hS (fun q _ h => h) (fun q h => h) (fun q _ h => h) ?_ (fun r u t H1 locs1 _ _ hp => hp.elim)
    · have h2 : (parseMethodDescriptor yX11_lifter.desc).map (fun d => d.parameters.length) = some 2 := by decide +kernel
      rw [h] at h2
      exact (Option.some.inj h2).symm
    · intro E ce q9 u t H1 locs1 ht hal _ hB hsz hkeep hS1 hce hcv hcl
      obtain ⟨rfl, hP1⟩ := hB
      rw [ht] at hP1
      refine vx_catch (own := RL) (name := NSE) hown [] ⟨0, 10, 13, 13⟩ [] htab (fun z hz => nomatch hz) (show covers ⟨0, 10, 13, 13⟩ 5 = true by decide) (by decide) (htb _ (xl_tb 9 rfl)) hE.2.2.2.2.2.2 hce hcv hcl ?_
      refine lv_astore B.exec B.bytes dL_lifter_13 hL.2 (by decide) rfl (fun ls' hl => ?_)
      refine lv_iconst B.exec B.bytes dL_lifter_15 (v := nI 1) rfl ?_
      rw [hQx]
      exact vx_ret (W.zret B.exec B.bytes B.returns rfl (fun t' ht' _ => ⟨rfl, by rw [ht']; exact hP1, hS1.F ht'⟩) hS1.2.2 dL_lifter_16 B.notSynchronized)
  have hl := lv_entry ((LLA x y).map (pm_cv ad)) (n := 5) (by rw [pm_fl_len]; exact Nat.le_of_ble_eq_true rfl)
  rw [lg_entry_eq, ← hQx]
  exact G0 s.heap [] _ ⟨rfl, hl.1, hl.2.1, fun q hq => hl.2.2 q (pm_as_ent 1 (LLA x y) 0 q hq)⟩ hP0 va_S.rf

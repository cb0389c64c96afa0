/-! ===== constructors: the steps that make cells ===== -/
theorem va_AOA.moved {ty : FieldType} {u U : State} (hvm : u.vm.Alike U.vm) (h : va_AOA ty u) : va_AOA ty U := by
  have e := Cond.arrayOver_setVmC (args := #[]) (s := u) hvm (.array ty)
  have h2 : (Cond.arrayOver (.array ty)).before #[] (u.setVm U.vm) = true := e.trans h
  have h3 : (Cond.arrayOver (.array ty)).before #[] U = (Cond.arrayOver (.array ty)).before #[] (u.setVm U.vm) := by
    simp only [Cond.before, Cond.holds, Cond.value, State.vm_setVm]
    rfl
  exact h3.trans h2
theorem va_RA_cls {U : State} {c : ClassId} {ty : FieldType} (h : va_RA U c ty) : U.vm.findClass ("[" ++ ty.toString) = some c := by
  cases ty with
  | object C =>
    obtain ⟨-, -, -, -, -, h4⟩ := h
    exact h4
  | _ => exact h
theorem cn_ids {D : va_G} {cA : Nat → ClassId} {s : State} {c' ck : ClassId} {ty : FieldType} {k : Nat} (hK : va_K D vwCl (pm_tys cA) s) (hK' : va_K D vwCl (pm_tys cA ++ [(c', ty)]) s) (hk : (pm_tys cA)[k]? = some (ck, ty)) : c' = ck := by
  have h1 := va_RA_cls (hK.2 k _ hk).2
  have h2 := va_RA_cls (hK'.2 (pm_tys cA).length _ (by rw [List.getElem?_append_right (Nat.le_refl _), Nat.sub_self]; rfl)).2
  exact Option.some.inj (h2.symm.trans h1)
/-- what a constructor is told of the tables -/
def cn_K (K : State → Prop) : Prop := (∀ (a : Array Value) (U : State) (g : JFrame) (mk : MethodId), K U → K (U.calling g mk a)) ∧ ∀ s U : State, s.WarmedH U.vm → K s → K U
def KN (U : State) : Prop := va_Nw (.methodLinkNest RX11 9 yX10_init "ThreeLifts") U ∧ va_Nw (.methodLinkNest RX11 18 yX1_init "ThreeLifts") U ∧ va_Nw (.methodLinkNest RX11 60 yX6_init "ThreeLifts") U ∧ va_Nw (.methodLinkNest RX2 11 yX1_init "ThreeLifts") U
theorem KN_ok : cn_K KN := by
  refine ⟨fun a U g mk h => ⟨h.1.same (U := U.calling g mk a) rfl rfl, h.2.1.same (U := U.calling g mk a) rfl rfl, h.2.2.1.same (U := U.calling g mk a) rfl rfl, h.2.2.2.same (U := U.calling g mk a) rfl rfl⟩, fun s U hW h => ⟨h.1.warmM hW, h.2.1.warmM hW, h.2.2.1.warmM hW, h.2.2.2.warmM hW⟩⟩
def KK (D : va_G) (cA : Nat → ClassId) (U : State) : Prop := va_K D vwCl (pm_tys cA) U ∧ va_AO "ThreeLifts$Stand" U ∧ va_AOA .int U ∧ KN U
theorem KK_ok (D : va_G) (cA : Nat → ClassId) : cn_K (KK D cA) := by
  refine ⟨fun a U g mk h => ⟨va_K.moved (u := U) (U := U.calling g mk a) (Vm.Alike.refl U.vm) h.1, va_AO.moved (u := U) (U := U.calling g mk a) (Vm.Alike.refl U.vm) h.2.1, va_AOA.moved (u := U) (U := U.calling g mk a) (Vm.Alike.refl U.vm) h.2.2.1, KN_ok.1 a U g mk h.2.2.2⟩, fun s U hW h => ⟨va_K.moved hW.alike h.1, va_AO.moved hW.alike h.2.1, va_AOA.moved hW.alike h.2.2.1, KN_ok.2 s U hW h.2.2.2⟩⟩
def KM (D : va_G) (cA : Nat → ClassId) (y w : Nat) (U : State) : Prop := KK D cA U ∧ vk_R "ThreeLiftsModel" 26 "y" y U ∧ vk_R "ThreeLiftsModel" 32 "wsdtcrkb" w U
theorem KM_ok (D : va_G) (cA : Nat → ClassId) (y w : Nat) : cn_K (KM D cA y w) := by
  refine ⟨fun a U g mk h => ⟨(KK_ok D cA).1 a U g mk h.1, vk_R.same (u := U) (U := U.calling g mk a) rfl h.2.1, vk_R.same (u := U) (U := U.calling g mk a) rfl h.2.2⟩, fun s U hW h => ⟨(KK_ok D cA).2 s U hW h.1, h.2.1.warm hW, h.2.2.warm hW⟩⟩
def cn_Pr (D : va_G) (K : State → Prop) (sz : Nat) (w : va_W) (U : State) : Prop := U.heap.size = sz ∧ va_P D vwCl w U.heap ∧ K U ∧ va_D (fun _ => True) w
abbrev cn_U : Type := (Nat → Nat) × (Nat → Nat → Option Nat)
def cn_Qc (D : va_G) (w : va_W) (sz : Nat) (Pst : cn_U → Prop) (Wf : cn_U → va_W) : Array Value → State → Outcome → State → Prop := va_Qv Pst (fun u t => va_P D vwCl (Wf u) t.heap ∧ va_D (va_A w sz) (Wf u)) (va_A w sz)
theorem cn_join {A0 : Nat → Prop} {D : va_G} {cl : List vw_C} {x : Nat × va_E} {ws w1 : va_W} {H H1 : Heap} (hP : va_P D cl (x :: ws) H) (hD : va_D A0 (x :: ws)) (hk : ∀ q : Nat, q < H.size → ¬ va_A [x] H.size q → H1[q]? = H[q]?) (hF : ∀ q, va_A [x] H.size q → A0 q) (hP1 : va_P D cl w1 H1) (hD1 : va_D (va_A [x] H.size) w1) : va_P D cl (ws ++ w1) H1 ∧ va_D A0 (ws ++ w1) := by
  have hPw : va_P D cl ws H := fun k q hq => hP (k + 1) q hq
  have hno : ∀ (k : Nat) (q : Nat × va_E), ws[k]? = some q → ¬ va_A [x] H.size q.1 := fun k q hq h => by
    rcases h with ⟨k', e', h⟩ | h
    · have hz : k' < 1 := (List.getElem?_eq_some_iff.mp h).1
      rw [show k' = 0 by omega] at h
      have hx : x = (q.1, e') := Option.some.inj h
      have := hD.1 0 (k + 1) x q rfl hq (by rw [hx])
      omega
    · have := (hPw k q hq).lt
      omega
  refine ⟨va_P.app (hPw.kept (fun k q hq => hk q.1 ((hPw k q hq).lt) (hno k q hq))) hP1, va_D.app ⟨fun i j p q hi hj e => ?_, fun k q hq => hD.2 (k + 1) q hq⟩ (hD1.weaken (fun _ _ _ h => hF _ h)) (fun i j p q hi hj e => ?_)⟩
  · have := hD.1 (i + 1) (j + 1) p q hi hj e
    omega
  · have h := hD1.2 j q hj
    rw [← e] at h
    exact hno i p hi h
section CN
variable {p : Program} {l : Launch} {e : Env} {R : Room} {s : State} {m : MethodId} {args : Array Value} {below : List Frame} {meth : Method} {c : Code} {H : Heap} {locs : List Loc} {cells slots : Nat} {Q : State → Prop}
variable {cc : ByteArray} {pc : Nat} {ls : Array Slot} {rest : List Value} {D : va_G} {A : Nat → Prop} {cA : Nat → ClassId} {ws : va_W} {H0 : Heap} {own : String} {nL : Nat}
theorem cn_newa (hexec : p.tables.exec = Jvm.exec) (hb : c.code = cc) {atype : ArrayType} (harr : (Cond.arrayClass (newarray.typeOf atype)).before args s = true) {ty : FieldType} (hty : newarray.typeOf atype = ty) (hK : va_K D vwCl (pm_tys cA) s) (hP : va_P D vwCl ws H) (hD : va_D A ws) (hS : va_S A H0 H locs) (hA : ∀ q, H0.size ≤ q → A q)
    {n : Int32} {N' : Nat} {a0 : vp_A} (ha : ∀ cA : ClassId, vp_cell cA a0 = arrV cA N' (fun _ => defaultValue ty)) (hn : ¬ n < 0) (hN : n.toNatClampNeg = N') (hbytes : N' * componentBytes ty ≤ 536870912) (hcells : cells + 1 ≤ R.cells) (hslots : slots + N' ≤ R.slots) {k : Nat} {ck : ClassId} (hk : (pm_tys cA)[k]? = some (ck, ty)) (hdg : decode cc pc = .ok (.newarray atype, 2))
    (kk : ∀ (q : Nat) (H1 : Heap), va_P D vwCl (ws ++ [(q, .inl (ck, a0))]) H1 → va_D A (ws ++ [(q, .inl (ck, a0))]) → va_S A H0 H1 locs → W p l e R s m args below meth c H1 locs (cells + 1) (slots + N') Q (F0 m (pc + 2) ls (.ref q :: rest))) : W p l e R s m args below meth c H locs cells slots Q (F0 m pc ls (.int n :: rest)) := by
  refine va_newa hexec hb harr hty hK hP hD hS hA ha hn hN hbytes hcells hslots hdg (fun q cA' H1 hK1 hP1 hD1 hS1 => ?_)
  have e := cn_ids hK hK1 hk
  subst e
  exact kk q H1 hP1 hD1 hS1
theorem cn_newq (hexec : p.tables.exec = Jvm.exec) (hb : c.code = cc) {C : String} {index : Nat} (hown : s.vm.findClass own = some m.cls) (hclink : (Cond.classLink own index C).before args s = true) (hover : va_AO C s) (hK : va_K D vwCl (pm_tys cA) s) (hP : va_P D vwCl ws H) (hD : va_D A ws) (hS : va_S A H0 H locs) (hA : ∀ q, H0.size ≤ q → A q)
    {n : Int32} {N' : Nat} (hn : ¬ n < 0) (hN : n.toNatClampNeg = N') (hbytes : N' * 4 ≤ 536870912) (hcells : cells + 1 ≤ R.cells) (hslots : slots + N' ≤ R.slots) {k : Nat} {ck : ClassId} (hk : (pm_tys cA)[k]? = some (ck, .object C)) (hdg : decode cc pc = .ok (.anewarray index, 3))
    (kk : ∀ (q : Nat) (H1 : Heap), va_P D vwCl (ws ++ [(q, .inl (ck, N', .inr (.inr (.inr (.inr (fun _ => none))))))]) H1 → va_D A (ws ++ [(q, .inl (ck, N', .inr (.inr (.inr (.inr (fun _ => none))))))]) → va_S A H0 H1 locs → W p l e R s m args below meth c H1 locs (cells + 1) (slots + N') Q (F0 m (pc + 3) ls (.ref q :: rest))) : W p l e R s m args below meth c H locs cells slots Q (F0 m pc ls (.int n :: rest)) := by
  refine va_newq hexec hb hown hclink hover hK hP hD hS hA hn hN hbytes hcells hslots hdg (fun q cA' H1 hK1 hP1 hD1 hS1 => ?_)
  have e := cn_ids hK hK1 hk
  subst e
  exact kk q H1 hP1 hD1 hS1
theorem cn_mna (hexec : p.tables.exec = Jvm.exec) (hb : c.code = cc) {index : Nat} (hown : s.vm.findClass own = some m.cls) (hclink : (Cond.classLink own index ("[" ++ (FieldType.array .int).toString)).before args s = true) (hover : va_AOA .int s) (harr : (Cond.arrayClass .int).before args s = true) (hK : va_K D vwCl (pm_tys cA) s) (hP : va_P D vwCl ws H) (hD : va_D A ws) (hS : va_S A H0 H locs) (hA : ∀ q, H0.size ≤ q → A q)
    {n k : Int32} {N' K' : Nat} (hn : ¬ n < 0) (hk : ¬ k < 0) (hN : n.toNatClampNeg = N') (hM : k.toNatClampNeg = K') (hb1 : N' * 4 ≤ 536870912) (hb2 : K' * componentBytes .int ≤ 536870912) (hb3 : K' ≤ 536870912) (hcells : cells + (1 + N') ≤ R.cells) (hslots : slots + (N' + N' * K') ≤ R.slots) (hdg : decode cc pc = .ok (.multianewarray index 2, 4))
    (kk : ∀ (q : Nat) (r : Nat → Nat) (H1 : Heap), va_P D vwCl ((ws ++ [(q, .inl (cA 3, N', .inr (.inr (.inr (.inr (fun i => if i < N' then some (r i) else none))))))]) ++ (List.range N').map (fun i => (r i, .inl (cA 0, K', .inl (fun _ => 0))))) H1 → va_D A ((ws ++ [(q, .inl (cA 3, N', .inr (.inr (.inr (.inr (fun i => if i < N' then some (r i) else none))))))]) ++ (List.range N').map (fun i => (r i, .inl (cA 0, K', .inl (fun _ => 0))))) → va_S A H0 H1 locs →
      W p l e R s m args below meth c H1 locs (cells + 1 + N') (slots + N' + N' * K') Q (F0 m (pc + 4) ls (.ref q :: rest))) : W p l e R s m args below meth c H locs cells slots Q (F0 m pc ls (.int k :: .int n :: rest)) := by
  have hcy : s.vm.findClass (FieldType.array .int).toString = some (cA 0) := va_RA_cls (hK.2 0 _ rfl).2
  have e0 : ws ++ va_pl [] (fun _ => (.inl (cA 0, K', .inl (fun _ => 0)) : va_E)) = ws := List.append_nil ws
  refine va_mna (X := ws) (L := []) (f := fun _ => .inl (cA 0, K', .inl (fun _ => 0))) (z := (K', .inl (fun _ => 0))) (ty := .int) (cy := cA 0) hexec hb hown hclink hover harr hcy hK (by rw [e0]; exact hP) (by rw [e0]; exact hD) hS hA hn hk hN hM hb1 hb2 hb3 rfl rfl hcells hslots (fun cI => ?_) hdg (fun q r cA' H1 _ _ hK1 hP1 hD1 hS1 => ?_)
  · show ({ cls := cI, slots := Array.replicate K' (defaultValue .int), vm := .none } : Cell) = _
    rw [arrV_new]
    rfl
  · have e := cn_ids hK hK1 (k := 3) rfl
    subst e
    have er : va_pl ([] ++ (List.range N').map r) (vr_up (fun _ => (.inl (cA 0, K', .inl (fun _ => 0)) : va_E)) ((List.range N').map r) (.inl (cA 0, (K', .inl (fun _ => 0))))) = (List.range N').map (fun i => (r i, (.inl (cA 0, K', .inl (fun _ => 0)) : va_E))) := by
      unfold va_pl
      rw [List.nil_append, List.map_map]
      refine List.map_congr_left (fun i hi => ?_)
      show (r i, vr_up _ _ _ (r i)) = _
      rw [vr_up_in (List.mem_map.mpr ⟨i, hi, rfl⟩)]
    rw [er] at hP1 hD1
    exact kk q r H1 hP1 hD1 hS1
theorem cn_call {y : MethodName} {bytes : ByteArray} {maxL idx n : Nat} {q : Nat} {e0 : va_E} {As : List Value} {K : State → Prop} {Pst : cn_U → Prop} {Wf : cn_U → va_W} {mc ms : Nat} {rm : Room} (hx : p.tables.exec = Jvm.exec) (hb : c.code = cc) (hml : c.maxLocals = nL) (hown : s.vm.findClass own = some m.cls) (hts : ∀ w ∈ pm_TB, w.before args s = true) (hKK : cn_K K) (hKs : K s)
    (hM : Met l y (pm_wl (y, bytes, maxL, none)) rm (va_Pc (.ref q :: As) (cn_Pr D K H.size [(q, e0)])) (cn_Qc D [(q, e0)] H.size Pst Wf) mc ms (va_A [(q, e0)] H.size)) (hc : Cond.code y bytes maxL none ∈ pm_TB) (hi : Cond.initialized y.cls ∈ pm_TB) (hl : Cond.methodLink own idx y ∈ pm_TB) (him : Cond.instanceMethod y ∈ pm_TB) (hy1 : y.name = "<init>")
    (hd : y.cls ≠ "java/lang/invoke/MethodHandle" ∧ y.cls ≠ "java/lang/invoke/VarHandle" ∧ (parseMethodDescriptor y.desc).map (fun d => d.parameters.length) = some n) (hR : rm.frames + 1 ≤ R.frames ∧ 8 + (maxL + 11) + rm.locals ≤ R.locals) (hrc : rm.cells = mc) (hrs : rm.slots = ms)
    (hP : va_P D vwCl (ws ++ [(q, e0)]) H) (hD : va_D A (ws ++ [(q, e0)])) (hS : va_S A H0 H locs) (hA : ∀ q, H0.size ≤ q → A q) (hn : As.length = n) (hsize : ls.size = nL) (hroom : (rest.map fun v => v.category).sum ≤ 8) (hdg : decode cc pc = .ok (.invokespecial idx, 3)) (hf : cells + mc ≤ R.cells ∧ slots + ms ≤ R.slots)
    (kk : ∀ (u : cn_U) (H1 : Heap) (locs1 : List Loc), Pst u → va_P D vwCl (ws ++ Wf u) H1 → va_D A (ws ++ Wf u) → va_S A H0 H1 locs1 → W p l e R s m args below meth c H1 locs1 (cells + mc) (slots + ms) Q (F0 m (pc + 3) ls rest)) :
    W p l e R s m args below meth c H locs cells slots Q (F0 m pc ls (As.reverse ++ .ref q :: rest)) := by
  have hP' : va_P D vwCl ((q, e0) :: ws) H := va_P.swap (a := []) (b := ws) (c := [(q, e0)]) hP
  have hD' : va_D A ((q, e0) :: ws) := va_D.swap (a := []) (b := ws) (c := [(q, e0)]) hD
  have hPc : va_P D vwCl [(q, e0)] H := hP'.sub [0] rfl
  have hDc : va_D A [(q, e0)] := hD'.sub [0] rfl rfl
  have hFc : ∀ z, va_A [(q, e0)] H.size z → A z := va_free (wc := [(q, e0)]) hD' hS hA [0] rfl
  have hG : GoodIn pm_TB (pm_wl (y, bytes, maxL, none)) := fun w hw => by
    have hm : w ∈ pm_TB := (List.mem_cons.mp hw).elim (fun e9 => by rw [e9]; exact hc) id
    exact ⟨hm, good_of_word (List.mem_filter.mp hm).2⟩
  refine va_callv (va_runI (As := As) (rest := rest) (b := q) ⟨hx, hb, hml, hown, hts⟩ hM (cwI n hts hG rfl hrc hrs (hts _ hi) (hts _ hl) (hts _ him) hy1 hd hR) ⟨fun a U g mk q9 => ⟨q9.1, q9.2.1, q9.2.2.1, hKK.1 a U g mk q9.2.2.2.1, q9.2.2.2.2⟩, fun U hU hW => ⟨rfl, by rw [hU], by rw [hU]; exact hPc, hKK.2 s U hW hKs, hDc.weaken (fun _ _ _ _ => trivial)⟩⟩ rfl hn hsize rfl (lv_room hroom) hdg hf) hS (fun z _ h => hFc z h) hFc (fun u t H1 locs1 ht hvm hw hB hz1 hk1 hS1 => ?_)
  obtain ⟨hP1, hD1⟩ := hB
  rw [ht] at hP1
  obtain ⟨hP2, hD2⟩ := cn_join hP' hD' hk1 hFc hP1 hD1
  exact kk u H1 locs1 hw hP2 hD2 hS1
theorem cn_callN {y : MethodName} {bytes : ByteArray} {maxL idx n : Nat} {q : Nat} {e0 : va_E} {As : List Value} {K : State → Prop} {Pst : cn_U → Prop} {Wf : cn_U → va_W} {mc ms : Nat} {rm : Room} (hx : p.tables.exec = Jvm.exec) (hb : c.code = cc) (hml : c.maxLocals = nL) (hown : s.vm.findClass own = some m.cls) (hts : ∀ w ∈ pm_TB, w.before args s = true) (hKK : cn_K K) (hKs : K s)
    (hM : Met l y (pm_wl (y, bytes, maxL, none)) rm (va_Pc (.ref q :: As) (cn_Pr D K H.size [(q, e0)])) (cn_Qc D [(q, e0)] H.size Pst Wf) mc ms (va_A [(q, e0)] H.size)) (hc : Cond.code y bytes maxL none ∈ pm_TB) (hi : Cond.initialized y.cls ∈ pm_TB) {host : String} (hl : va_Nw (.methodLinkNest own idx y host) s) (him : Cond.instanceMethod y ∈ pm_TB) (hy1 : y.name = "<init>")
    (hd : y.cls ≠ "java/lang/invoke/MethodHandle" ∧ y.cls ≠ "java/lang/invoke/VarHandle" ∧ (parseMethodDescriptor y.desc).map (fun d => d.parameters.length) = some n) (hR : rm.frames + 1 ≤ R.frames ∧ 8 + (maxL + 11) + rm.locals ≤ R.locals) (hrc : rm.cells = mc) (hrs : rm.slots = ms)
    (hP : va_P D vwCl (ws ++ [(q, e0)]) H) (hD : va_D A (ws ++ [(q, e0)])) (hS : va_S A H0 H locs) (hA : ∀ q, H0.size ≤ q → A q) (hn : As.length = n) (hsize : ls.size = nL) (hroom : (rest.map fun v => v.category).sum ≤ 8) (hdg : decode cc pc = .ok (.invokespecial idx, 3)) (hf : cells + mc ≤ R.cells ∧ slots + ms ≤ R.slots)
    (kk : ∀ (u : cn_U) (H1 : Heap) (locs1 : List Loc), Pst u → va_P D vwCl (ws ++ Wf u) H1 → va_D A (ws ++ Wf u) → va_S A H0 H1 locs1 → W p l e R s m args below meth c H1 locs1 (cells + mc) (slots + ms) Q (F0 m (pc + 3) ls rest)) :
    W p l e R s m args below meth c H locs cells slots Q (F0 m pc ls (As.reverse ++ .ref q :: rest)) := by
  have hP' : va_P D vwCl ((q, e0) :: ws) H := va_P.swap (a := []) (b := ws) (c := [(q, e0)]) hP
  have hD' : va_D A ((q, e0) :: ws) := va_D.swap (a := []) (b := ws) (c := [(q, e0)]) hD
  have hPc : va_P D vwCl [(q, e0)] H := hP'.sub [0] rfl
  have hDc : va_D A [(q, e0)] := hD'.sub [0] rfl rfl
  have hFc : ∀ z, va_A [(q, e0)] H.size z → A z := va_free (wc := [(q, e0)]) hD' hS hA [0] rfl
  have hG : GoodIn pm_TB (pm_wl (y, bytes, maxL, none)) := fun w hw => by
    have hm : w ∈ pm_TB := (List.mem_cons.mp hw).elim (fun e9 => by rw [e9]; exact hc) id
    exact ⟨hm, good_of_word (List.mem_filter.mp hm).2⟩
  refine va_callv (va_runIN (host := host) (As := As) (rest := rest) (b := q) ⟨hx, hb, hml, hown, hts⟩ hM ⟨va_cnB n hts hG rfl hrc hrs hl (hts _ hi) hd hR, hy1, hts _ him⟩ ⟨fun a U g mk q9 => ⟨q9.1, q9.2.1, q9.2.2.1, hKK.1 a U g mk q9.2.2.2.1, q9.2.2.2.2⟩, fun U hU hW => ⟨rfl, by rw [hU], by rw [hU]; exact hPc, hKK.2 s U hW hKs, hDc.weaken (fun _ _ _ _ => trivial)⟩⟩ rfl hn hsize rfl (lv_room hroom) hdg hf) hS (fun z _ h => hFc z h) hFc (fun u t H1 locs1 ht hvm hw hB hz1 hk1 hS1 => ?_)
  obtain ⟨hP1, hD1⟩ := hB
  rw [ht] at hP1
  obtain ⟨hP2, hD2⟩ := cn_join hP' hD' hk1 hFc hP1 hD1
  exact kk u H1 locs1 hw hP2 hD2 hS1
end CN

/-! ===== calls, what is built in, statics, texts, returns ===== -/
def pm_sw : List Value → Nat
  | [] => 0
  | v :: st => v.category + pm_sw st
theorem pm_cats (ad : Nat → Nat) : ∀ st : List Value, ((st.map (pm_cv ad)).map fun v => v.category).sum = pm_sw st
  | [] => rfl
  | v :: st => by
    have h := pm_cats ad st
    simp only [List.map_cons, List.sum_cons, pm_cv_cat, h]
    rfl
theorem pm_go {p : Program} {l : Launch} {e : Env} {R : Room} {s : State} {m : MethodId} {args : Array Value} {below : List Frame} {meth : Method} {c : Code} {cells slots : Nat} {D : va_G} {cA : Nat → ClassId} {ad : Nat → Nat} {A : Nat → Prop} {Q : State → Prop} {H : Heap} {locs : List Loc} {ls : Array Slot} {pc : Nat} {st0 rest : List Value} {r : pm_R} {a : Array Value}
    (hr : va_Run p l e R s m args below meth c H locs cells slots 0 0 (F0 m pc ls st0) rest (pm_Qc D cA ad A r a) A) (hS : va_S A s.heap H locs)
    (kk : ∀ (H1 : Heap) (locs1 : List Loc), va_P D vwCl (pm_ws cA ad r.2) H1 → va_S A s.heap H1 locs1 → W p l e R s m args below meth c H1 locs1 cells slots Q (F0 m (pc + 3) ls ((r.1.map (pm_cv ad)).toList ++ rest))) : W p l e R s m args below meth c H locs cells slots Q (F0 m pc ls st0) := by
  intro T hT X
  obtain ⟨v, st₀, t, T', L, h0, X', hL, e1, e2, ⟨hv, hp, hz, hk⟩, st⟩ := hr T hT X
  cases hv
  rw [h0] at hz hk
  obtain ⟨t2, a1, b1⟩ := kk T'.heap (locs ++ L) (by rw [e1]; exact hp)
    ⟨Nat.le_trans hS.1 (by rw [e1]; exact hz), fun q h1 h2 => by rw [e1, hk q (Nat.lt_of_lt_of_le h1 hS.1) h2]; exact hS.2.1 q h1 h2, fun q hq => by
      rcases List.mem_append.mp hq with h | h
      · exact hS.2.2 q h
      · exact hL q h⟩ T' rfl X'
  exact ⟨t2, st t2 a1, b1⟩

theorem pm_good {w : Cond} (h : w ∈ pm_TB) : (w.onTables && w.keeps) = true ∨ ∃ ty, w = .arrayClass ty := good_of_word (List.mem_filter.mp h).2
theorem pm_pay {i : pm_MI} (hc : Cond.code i.1 i.2.1 i.2.2.1 i.2.2.2 ∈ pm_TB) {args : Array Value} {s : State} (hts : ∀ w ∈ pm_TB, w.before args s = true) : ∀ w ∈ pm_wl i, ∀ (a' : Array Value) (U : State), s.WarmedH U.vm → w.before a' U = true := by
  intro w hw a' U hW
  have hm : w ∈ pm_TB := by
    rcases List.mem_cons.mp hw with rfl | h
    · exact hc
    · exact h
  exact word_at hW (pm_good hm) (hts w hm)
theorem pm_blind {D : va_G} {cA : Nat → ClassId} {ad : Nat → Nat} {A : Nat → Prop} {σ : pm_H} (as : List Value) : FrameBlind (va_Pc as (fun U => pm_Wd D cA ad A σ U)) := by
  intro a U g mk q
  obtain ⟨q0, qP, qK, qC⟩ := q
  exact ⟨q0, qP, va_K.moved (u := U) (U := U.calling g mk a) (Vm.Alike.refl U.vm) qK, pm_Ct_moved (s := U) (U := U.calling g mk a) (State.WarmedH.refl U) qC⟩
theorem pm_Wd_at {D : va_G} {cA : Nat → ClassId} {ad : Nat → Nat} {A : Nat → Prop} {σ : pm_H} {s U : State} {H : Heap} {locs : List Loc} (hK : va_K D vwCl (pm_tys cA) s) (hCt : pm_Ct ad A s s.heap) (hP : va_P D vwCl (pm_ws cA ad σ) H) (hS : va_S A s.heap H locs) (hU : U.heap = H) (hW : s.WarmedH U.vm) : pm_Wd D cA ad A σ U :=
  ⟨by rw [hU]; exact hP, va_K.moved hW.alike hK, pm_Ct_moved hW (by rw [hU]; exact pm_Ct_kept hCt hS.2.1)⟩
theorem pm_cb {p : Program} {l : Launch} {e : Env} {R : Room} {s : State} {args : Array Value} {d' : Nat} {own : String} {idx n : Nat} {i : pm_MI} (hR1 : d' + 1 + 1 ≤ R.frames) (hR2 : 64 * (d' + 1 + 1) ≤ R.locals) (hts : ∀ w ∈ pm_TB, w.before args s = true) (hc : Cond.code i.1 i.2.1 i.2.2.1 i.2.2.2 ∈ pm_TB) (hi : Cond.initialized i.1.cls ∈ pm_TB) (hl : Cond.methodLink own idx i.1 ∈ pm_TB) (hm : i.2.2.1 ≤ 45)
    (hd : i.1.cls ≠ "java/lang/invoke/MethodHandle" ∧ i.1.cls ≠ "java/lang/invoke/VarHandle" ∧ (parseMethodDescriptor i.1.desc).map (fun d => d.parameters.length) = some n) : CallB R s args own idx i.1 i.2.1 i.2.2.1 i.2.2.2 (pm_wl i) (pm_rm d') 0 0 n := by
  refine ⟨rfl, rfl, hR1, ?_, pm_pay hc hts, List.mem_cons_self, hts _ hc, hts _ hi, ⟨hd.1, hd.2.1⟩, fun sig h => ?_, hts _ hl⟩
  · show 8 + (i.2.2.1 + 11) + 64 * (d' + 1) ≤ R.locals
    omega
  · have h2 := hd.2.2
    rw [h] at h2
    exact (Option.some.inj h2).symm
def pm_cV (μ ci n : Nat) : pm_F := fun ev g => match g.2.2.1.drop n with
  | .ref c :: st => match pm_kd c with
    | .inr (cj, _) => if cj = ci ∧ pm_sw st ≤ 8 then match ev μ (.ref c :: (g.2.2.1.take n).reverse) g.2.2.2 with
      | some r => some (.inl (g.1 + 3, g.2.1, r.1.toList ++ st, r.2))
      | none => none
      else none
    | _ => none
  | _ => none
def pm_cS (μ n : Nat) : pm_F := fun ev g => if n ≤ g.2.2.1.length ∧ pm_sw (g.2.2.1.drop n) ≤ 8 then match ev μ (g.2.2.1.take n).reverse g.2.2.2 with
    | some r => some (.inl (g.1 + 3, g.2.1, r.1.toList ++ g.2.2.1.drop n, r.2))
    | none => none
  else none

theorem pm_map_toList (ad : Nat → Nat) (r : Option Value) (st : List Value) : (r.toList ++ st).map (pm_cv ad) = (r.map (pm_cv ad)).toList ++ st.map (pm_cv ad) := by cases r <;> rfl
theorem ps_cV {X : State → (Nat → Nat) → (Nat → Prop) → Prop} {own : String} {cc : ByteArray} {nL : Nat} {ret : Option FieldType} {pc : Nat} {μ ci n idx N : Nat} {i : pm_MI} {C : String} {T : u_T} (hd : decode cc pc = .ok (.invokevirtual idx, 3)) (hM : pm_M μ = i) (hcl : vwCl[ci]? = some (C, T, N)) (h100 : ci < 100) (hcls : i.1.cls = C) (hc : Cond.code i.1 i.2.1 i.2.2.1 i.2.2.2 ∈ pm_TB) (hi : Cond.initialized i.1.cls ∈ pm_TB) (hl : Cond.methodLink own idx i.1 ∈ pm_TB) (him : Cond.instanceMethod i.1 ∈ pm_TB) (hse : Cond.selects C i.1 i.1 ∈ pm_TB) (hm : i.2.2.1 ≤ 45)
    (hdd : i.1.cls ≠ "java/lang/invoke/MethodHandle" ∧ i.1.cls ≠ "java/lang/invoke/VarHandle" ∧ (parseMethodDescriptor i.1.desc).map (fun d => d.parameters.length) = some n) : pm_Snd X own cc nL ret pc (pm_cV μ ci n) := by
  intro p l e R s m args below meth co cells slots d D cA ad A Q ev hC hE L st σ o h k
  obtain ⟨⟨hx, hb, hml, hown, hts⟩, ⟨hr, hlk⟩, ⟨hR1, hR2, hR3, hR4⟩, hK, hJ, hCt, hX⟩ := hC
  dsimp only [pm_cV] at h
  split at h
  · rename_i c rest hst
    split at h
    · rename_i cj q hk
      split at h
      · rename_i hcc
        obtain ⟨rfl, hlen⟩ := hcc
        split at h
        · rename_i r hev
          cases h
          obtain ⟨d', rfl, hMet⟩ := hE _ _ _ _ hev
          rw [hM] at hMet
          intro H locs ls hL hP hS
          have hsl : n < st.length := by
            rcases Nat.lt_or_ge n st.length with z | z
            · exact z
            · rw [List.drop_eq_nil_of_le z] at hst
              cases hst
          have hst2 : st = st.take n ++ .ref c :: rest := by rw [← hst, List.take_append_drop]
          refine pm_go (va_runV (As := (st.take n).reverse.map (pm_cv ad)) (b := ad c) (C := C) (n := n) (rest := rest.map (pm_cv ad)) ⟨hx, hb, hml, hown, hts⟩ hMet ⟨pm_cb (p := p) (l := l) (e := e) hR1 hR2 hts hc hi hl hm hdd, hts _ him, hts _ hse⟩ ⟨pm_blind _, va_recv hK hP hcl (pm_at_obj hk h100), fun U hU hW => ⟨rfl, pm_Wd_at hK hCt hP hS hU hW⟩⟩ rfl (by simp; omega) hL.2.1 ?_ (lv_room ?_) hd ⟨hR3, hR4⟩) hS (fun H1 locs1 hP1 hS1 => ?_)
          · show st.map (pm_cv ad) = _
            rw [← List.map_reverse, List.reverse_reverse]
            conv => lhs; rw [hst2]
            rw [List.map_append]
            rfl
          · have := pm_cats ad rest
            omega
          · have kk := k H1 locs1 ls hL hP1 hS1
            simp only [pm_map_toList] at kk
            exact kk
        · cases h
      · cases h
    · cases h
  · cases h
theorem ps_cS {X : State → (Nat → Nat) → (Nat → Prop) → Prop} {own : String} {cc : ByteArray} {nL : Nat} {ret : Option FieldType} {pc : Nat} {μ n idx : Nat} {i : pm_MI} (hd : decode cc pc = .ok (.invokestatic idx, 3)) (hM : pm_M μ = i) (hc : Cond.code i.1 i.2.1 i.2.2.1 i.2.2.2 ∈ pm_TB) (hi : Cond.initialized i.1.cls ∈ pm_TB) (hl : Cond.methodLink own idx i.1 ∈ pm_TB) (him : Cond.static i.1 ∈ pm_TB) (hm : i.2.2.1 ≤ 45)
    (hdd : i.1.cls ≠ "java/lang/invoke/MethodHandle" ∧ i.1.cls ≠ "java/lang/invoke/VarHandle" ∧ (parseMethodDescriptor i.1.desc).map (fun d => d.parameters.length) = some n) : pm_Snd X own cc nL ret pc (pm_cS μ n) := by
  intro p l e R s m args below meth co cells slots d D cA ad A Q ev hC hE L st σ o h k
  obtain ⟨⟨hx, hb, hml, hown, hts⟩, ⟨hr, hlk⟩, ⟨hR1, hR2, hR3, hR4⟩, hK, hJ, hCt, hX⟩ := hC
  dsimp only [pm_cS] at h
  split at h
  · rename_i hcc
    obtain ⟨hsl, hlen⟩ := hcc
    split at h
    · rename_i r hev
      cases h
      obtain ⟨d', rfl, hMet⟩ := hE _ _ _ _ hev
      rw [hM] at hMet
      intro H locs ls hL hP hS
      refine pm_go (va_runS (As := (st.take n).reverse.map (pm_cv ad)) (n := n) (rest := (st.drop n).map (pm_cv ad)) ⟨hx, hb, hml, hown, hts⟩ hMet ⟨pm_cb (p := p) (l := l) (e := e) hR1 hR2 hts hc hi hl hm hdd, hts _ him⟩ ⟨pm_blind _, fun U hU hW => ⟨rfl, pm_Wd_at hK hCt hP hS hU hW⟩⟩ rfl (by simp; omega) hL.2.1 ?_ (lv_room ?_) hd ⟨hR3, hR4⟩) hS (fun H1 locs1 hP1 hS1 => ?_)
      · show st.map (pm_cv ad) = _
        rw [← List.map_reverse, List.reverse_reverse, ← List.map_append, List.take_append_drop]
      · have := pm_cats ad (st.drop n)
        omega
      · have kk := k H1 locs1 ls hL hP1 hS1
        simp only [pm_map_toList] at kk
        exact kk
    · cases h
  · cases h
/-- a call of a text's method -/
def pm_cQ (μ n : Nat) : pm_F := fun ev g => match g.2.2.1.drop n with
  | .ref c :: st => match pm_kd c with
    | .inr (100, [_]) => if pm_sw st ≤ 8 then match ev μ (.ref c :: (g.2.2.1.take n).reverse) g.2.2.2 with
      | some r => some (.inl (g.1 + 3, g.2.1, r.1.toList ++ st, r.2))
      | none => none
      else none
    | _ => none
  | _ => none
theorem ps_cQ {X : State → (Nat → Nat) → (Nat → Prop) → Prop} {own : String} {cc : ByteArray} {nL : Nat} {ret : Option FieldType} {pc : Nat} {μ n idx : Nat} {i : pm_MI} (hd : decode cc pc = .ok (.invokevirtual idx, 3)) (hM : pm_M μ = i) (hcls : i.1.cls = "java/lang/String") (hc : Cond.code i.1 i.2.1 i.2.2.1 i.2.2.2 ∈ pm_TB) (hi : Cond.initialized i.1.cls ∈ pm_TB) (hl : Cond.methodLink own idx i.1 ∈ pm_TB) (him : Cond.instanceMethod i.1 ∈ pm_TB) (hse : Cond.selects "java/lang/String" i.1 i.1 ∈ pm_TB) (hm : i.2.2.1 ≤ 45)
    (hdd : i.1.cls ≠ "java/lang/invoke/MethodHandle" ∧ i.1.cls ≠ "java/lang/invoke/VarHandle" ∧ (parseMethodDescriptor i.1.desc).map (fun d => d.parameters.length) = some n) : pm_Snd X own cc nL ret pc (pm_cQ μ n) := by
  intro p l e R s m args below meth co cells slots d D cA ad A Q ev hC hE L st σ o h k
  obtain ⟨⟨hx, hb, hml, hown, hts⟩, ⟨hr, hlk⟩, ⟨hR1, hR2, hR3, hR4⟩, hK, hJ, hCt, hX⟩ := hC
  dsimp only [pm_cQ] at h
  split at h
  · rename_i c rest hst
    split at h
    · rename_i v hk
      split at h
      · rename_i hlen
        split at h
        · rename_i r hev
          cases h
          obtain ⟨d', rfl, hMet⟩ := hE _ _ _ _ hev
          rw [hM] at hMet
          intro H locs ls hL hP hS
          have hsl : n < st.length := by
            rcases Nat.lt_or_ge n st.length with z | z
            · exact z
            · rw [List.drop_eq_nil_of_le z] at hst
              cases hst
          have hst2 : st = st.take n ++ .ref c :: rest := by rw [← hst, List.take_append_drop]
          have hrec : ∃ cellB : Cell, H[ad c]? = some cellB ∧ cellB.vm.isStatics = false ∧ s.vm.findClass "java/lang/String" = some cellB.cls := by
            obtain ⟨cell, a1, a2, a3, -⟩ := (hCt.2.2.1 c v hk).1.kept hS.2.1
            exact ⟨cell, a1, a2, a3⟩
          refine pm_go (va_runV (As := (st.take n).reverse.map (pm_cv ad)) (b := ad c) (C := "java/lang/String") (n := n) (rest := rest.map (pm_cv ad)) ⟨hx, hb, hml, hown, hts⟩ hMet ⟨pm_cb (p := p) (l := l) (e := e) hR1 hR2 hts hc hi hl hm hdd, hts _ him, hts _ hse⟩ ⟨pm_blind _, hrec, fun U hU hW => ⟨rfl, pm_Wd_at hK hCt hP hS hU hW⟩⟩ rfl (by simp; omega) hL.2.1 ?_ (lv_room ?_) hd ⟨hR3, hR4⟩) hS (fun H1 locs1 hP1 hS1 => ?_)
          · show st.map (pm_cv ad) = _
            rw [← List.map_reverse, List.reverse_reverse]
            conv => lhs; rw [hst2]
            rw [List.map_append]
            rfl
          · have := pm_cats ad rest
            omega
          · have kk := k H1 locs1 ls hL hP1 hS1
            simp only [pm_map_toList] at kk
            exact kk
        · cases h
      · cases h
    · cases h
  · cases h

def pm_max : pm_F := fun _ g => match g.2.2.1 with
  | .int y :: .int x :: st => if pm_sw st ≤ 8 then some (.inl (g.1 + 3, g.2.1, .int (if x < y then y else x) :: st, g.2.2.2)) else none
  | _ => none
theorem ps_max {X : State → (Nat → Nat) → (Nat → Prop) → Prop} {own : String} {cc : ByteArray} {nL : Nat} {ret : Option FieldType} {pc : Nat} {idx : Nat} (hd : decode cc pc = .ok (.invokestatic idx, 3)) (hl : Cond.methodLink own idx Lib.Math.max.name ∈ pm_TB) (hs : Cond.static Lib.Math.max.name ∈ pm_TB) (hi : Cond.initialized "java/lang/Math" ∈ pm_TB) (hc : Cond.code Lib.Math.max.name Lib.Math.max.code 2 (some .int) ∈ pm_TB) : pm_Snd X own cc nL ret pc pm_max := by
  intro p l e R s m args below meth co cells slots d D cA ad A Q ev hC hE L st σ o h k
  obtain ⟨⟨hx, hb, hml, hown, hts⟩, ⟨hr, hlk⟩, ⟨hR1, hR2, hR3, hR4⟩, hK, hJ, hCt, hX⟩ := hC
  dsimp only [pm_max] at h
  split at h
  · rename_i y x rest
    split at h
    · rename_i hlen
      cases h
      intro H locs ls hL hP hS
      have := pm_cats ad rest
      exact va_mmax hx hb (hml.trans hL.2.1.symm) hown (hts _ hl) (hts _ hs) (hts _ hi) (hts _ hc) (by omega) (by omega) hR3 hR4 hd (k H locs ls hL hP hS)
    · cases h
  · cases h

def pm_min : pm_F := fun _ g => match g.2.2.1 with
  | .int y :: .int x :: st => if pm_sw st ≤ 8 then some (.inl (g.1 + 3, g.2.1, .int (if y < x then y else x) :: st, g.2.2.2)) else none
  | _ => none
theorem ps_min {X : State → (Nat → Nat) → (Nat → Prop) → Prop} {own : String} {cc : ByteArray} {nL : Nat} {ret : Option FieldType} {pc : Nat} {idx : Nat} (hd : decode cc pc = .ok (.invokestatic idx, 3)) (hl : Cond.methodLink own idx Lib.Math.min.name ∈ pm_TB) (hs : Cond.static Lib.Math.min.name ∈ pm_TB) (hi : Cond.initialized "java/lang/Math" ∈ pm_TB) (hc : Cond.code Lib.Math.min.name Lib.Math.min.code 2 (some .int) ∈ pm_TB) : pm_Snd X own cc nL ret pc pm_min := by
  intro p l e R s m args below meth co cells slots d D cA ad A Q ev hC hE L st σ o h k
  obtain ⟨⟨hx, hb, hml, hown, hts⟩, ⟨hr, hlk⟩, ⟨hR1, hR2, hR3, hR4⟩, hK, hJ, hCt, hX⟩ := hC
  dsimp only [pm_min] at h
  split at h
  · rename_i y x rest
    split at h
    · rename_i hlen
      cases h
      intro H locs ls hL hP hS
      have := pm_cats ad rest
      exact va_mmin hx hb (hml.trans hL.2.1.symm) hown (hts _ hl) (hts _ hs) (hts _ hi) (hts _ hc) (by omega) (by omega) hR3 hR4 hd (k H locs ls hL hP hS)
    · cases h
  · cases h

def pm_maxj : pm_F := fun _ g => match g.2.2.1 with
  | .long y :: .long x :: st => if pm_sw st ≤ 8 then some (.inl (g.1 + 3, g.2.1, .long (if y < x then x else y) :: st, g.2.2.2)) else none
  | _ => none
theorem ps_maxj {X : State → (Nat → Nat) → (Nat → Prop) → Prop} {own : String} {cc : ByteArray} {nL : Nat} {ret : Option FieldType} {pc : Nat} {idx : Nat} (hd : decode cc pc = .ok (.invokestatic idx, 3)) (hl : Cond.methodLink own idx Lib.MathLoose.max_long.x ∈ pm_TB) (hs : Cond.static Lib.MathLoose.max_long.x ∈ pm_TB) (hi : Cond.initialized "java/lang/Math" ∈ pm_TB) (hc : Cond.code Lib.MathLoose.max_long.x Lib.MathLoose.max_long.code 4 (some .long) ∈ pm_TB) : pm_Snd X own cc nL ret pc pm_maxj := by
  intro p l e R s m args below meth co cells slots d D cA ad A Q ev hC hE L st σ o h k
  obtain ⟨⟨hx, hb, hml, hown, hts⟩, ⟨hr, hlk⟩, ⟨hR1, hR2, hR3, hR4⟩, hK, hJ, hCt, hX⟩ := hC
  dsimp only [pm_maxj] at h
  split at h
  · rename_i y x rest
    split at h
    · rename_i hlen
      cases h
      intro H locs ls hL hP hS
      have := pm_cats ad rest
      exact va_mmax_long hx hb (hml.trans hL.2.1.symm) hown (hts _ hl) (hts _ hs) (hts _ hi) (hts _ hc) (by omega) (by omega) hR3 hR4 hd (k H locs ls hL hP hS)
    · cases h
  · cases h

def pm_minj : pm_F := fun _ g => match g.2.2.1 with
  | .long y :: .long x :: st => if pm_sw st ≤ 8 then some (.inl (g.1 + 3, g.2.1, .long (if y < x then y else x) :: st, g.2.2.2)) else none
  | _ => none
theorem ps_minj {X : State → (Nat → Nat) → (Nat → Prop) → Prop} {own : String} {cc : ByteArray} {nL : Nat} {ret : Option FieldType} {pc : Nat} {idx : Nat} (hd : decode cc pc = .ok (.invokestatic idx, 3)) (hl : Cond.methodLink own idx Lib.MathLoose.min_long.x ∈ pm_TB) (hs : Cond.static Lib.MathLoose.min_long.x ∈ pm_TB) (hi : Cond.initialized "java/lang/Math" ∈ pm_TB) (hc : Cond.code Lib.MathLoose.min_long.x Lib.MathLoose.min_long.code 4 (some .long) ∈ pm_TB) : pm_Snd X own cc nL ret pc pm_minj := by
  intro p l e R s m args below meth co cells slots d D cA ad A Q ev hC hE L st σ o h k
  obtain ⟨⟨hx, hb, hml, hown, hts⟩, ⟨hr, hlk⟩, ⟨hR1, hR2, hR3, hR4⟩, hK, hJ, hCt, hX⟩ := hC
  dsimp only [pm_minj] at h
  split at h
  · rename_i y x rest
    split at h
    · rename_i hlen
      cases h
      intro H locs ls hL hP hS
      have := pm_cats ad rest
      exact va_mmin_long hx hb (hml.trans hL.2.1.symm) hown (hts _ hl) (hts _ hs) (hts _ hi) (hts _ hc) (by omega) (by omega) hR3 hR4 hd (k H locs ls hL hP hS)
    · cases h
  · cases h

def pm_cpy : pm_F := fun _ g => match g.2.2.1 with
  | .int n :: .int dp :: .ref c1 :: .int sp :: .ref c0 :: st => match pm_kd c0, pm_kd c1 with
    | .inl (0, n0, _), .inl (0, n1, _) => if pm_sw st ≤ 8 ∧ ¬ sp < 0 ∧ ¬ dp < 0 ∧ ¬ n < 0 ∧ sp.toNatClampNeg + n.toNatClampNeg ≤ n0 ∧ dp.toNatClampNeg + n.toNatClampNeg ≤ n1 then some (.inl (g.1 + 3, g.2.1, st, pm_wC g.2.2.2 c1 (va_cpy (g.2.2.2.1 c0) (g.2.2.2.1 c1) sp.toNatClampNeg dp.toNatClampNeg n.toNatClampNeg))) else none
    | .inl (5, n0, j), .inl (0, n1, _) => if pm_sw st ≤ 8 ∧ ¬ sp < 0 ∧ ¬ dp < 0 ∧ ¬ n < 0 ∧ sp.toNatClampNeg + n.toNatClampNeg ≤ n0 ∧ dp.toNatClampNeg + n.toNatClampNeg ≤ n1 then some (.inl (g.1 + 3, g.2.1, st, pm_wC g.2.2.2 c1 (va_cpy (pm_ct j) (g.2.2.2.1 c1) sp.toNatClampNeg dp.toNatClampNeg n.toNatClampNeg))) else none
    | _, _ => none
  | _ => none
theorem ps_cpy {X : State → (Nat → Nat) → (Nat → Prop) → Prop} {own : String} {cc : ByteArray} {nL : Nat} {ret : Option FieldType} {pc : Nat} {idx : Nat} (hd : decode cc pc = .ok (.invokestatic idx, 3)) (hl : Cond.methodLink own idx arraycopyName ∈ pm_TB) (hn : Cond.native arraycopyName ∈ pm_TB) (hs : Cond.static arraycopyName ∈ pm_TB) (hi : Cond.initialized "java/lang/System" ∈ pm_TB) : pm_Snd X own cc nL ret pc pm_cpy := by
  intro p l e R s m args below meth co cells slots d D cA ad A Q ev hC hE L st σ o h k
  obtain ⟨⟨hx, hb, hml, hown, hts⟩, ⟨hr, hlk⟩, ⟨hR1, hR2, hR3, hR4⟩, hK, hJ, hCt, hX⟩ := hC
  dsimp only [pm_cpy] at h
  have hw : nativeFrameWords "java/lang/System" "arraycopy" 5 = 7 := by decide +kernel
  split at h
  · rename_i n dp c1 sp c0 rest
    split at h
    · rename_i n0 b0 n1 b1 hk0 hk1
      split at h
      · rename_i hcc
        obtain ⟨hlen, h1, h2, h3, h4, h5⟩ := hcc
        cases h
        intro H locs ls hL hP hS
        have := pm_cats ad rest
        refine va_copyi hx hb (hml.trans hL.2.1.symm) hown (hts _ hl) (hts _ hn) (hts _ hs) (hts _ hi) hK hP (pm_ws_D hJ σ) hS c0 c1 0 0 (pm_at_row hk0 (by decide)) (pm_at_row hk1 (by decide)) rfl rfl rfl h1 h2 h3 h4 h5 (fun _ _ => rfl) (by omega) (by rw [hw]; omega) hd (fun H1 locs1 hP1 _ hS1 => ?_)
        rw [pm_set_row hk1 (Or.inl rfl)] at hP1
        exact k H1 locs1 ls hL hP1 hS1
      · cases h
    · rename_i n0 j n1 b1 hk0 hk1
      split at h
      · rename_i hcc
        obtain ⟨hlen, h1, h2, h3, h4, h5⟩ := hcc
        cases h
        intro H locs ls hL hP hS
        have := pm_cats ad rest
        refine va_copyx hx hb (hml.trans hL.2.1.symm) hown (hts _ hl) (hts _ hn) (hts _ hs) (hts _ hi) hK hP (pm_ws_D hJ σ) hS (hCt.1 c0 n0 j hk0).1 (pm_X_lt (hCt.1 c0 n0 j hk0).1) (hCt.1 c0 n0 j hk0).2 c1 0 (pm_at_row hk1 (by decide)) rfl h1 h2 h3 h4 h5 (by omega) (by rw [hw]; omega) hd (fun H1 locs1 hP1 _ hS1 => ?_)
        rw [pm_set_row hk1 (Or.inl rfl)] at hP1
        exact k H1 locs1 ls hL hP1 hS1
      · cases h
    · cases h
  · cases h
theorem ps_sref {X : State → (Nat → Nat) → (Nat → Prop) → Prop} {own : String} {cc : ByteArray} {nL : Nat} {ret : Option FieldType} {pc : Nat} {C n t : String} {v idx : Nat} (hd : decode cc pc = .ok (.getstatic idx, 3)) (hq : (C, n, t, v) ∈ pm_sr) (hl : Cond.fieldLink own idx C n t ∈ pm_TB) : pm_Snd X own cc nL ret pc (pm_cr v 3) := by
  intro p l e R s m args below meth co cells slots d D cA ad A Q ev hC hE L st σ o h k
  obtain ⟨⟨hx, hb, hml, hown, hts⟩, ⟨hr, hlk⟩, ⟨hR1, hR2, hR3, hR4⟩, hK, hJ, hCt, hX⟩ := hC
  cases h
  exact fun H locs ls hL hP hS => va_gets hx hb (hCt.2.2.2.1 _ hq) hS hown (hts _ hl) (fun _ z => z) hd (k H locs ls hL hP hS)
theorem ps_sint {X : State → (Nat → Nat) → (Nat → Prop) → Prop} {own : String} {cc : ByteArray} {nL : Nat} {ret : Option FieldType} {pc : Nat} {C n t : String} {v : Int32} {idx : Nat} (hd : decode cc pc = .ok (.getstatic idx, 3)) (hq : (C, n, t, v) ∈ pm_si) (hl : Cond.fieldLink own idx C n t ∈ pm_TB) : pm_Snd X own cc nL ret pc (pm_ci v 3) := by
  intro p l e R s m args below meth co cells slots d D cA ad A Q ev hC hE L st σ o h k
  obtain ⟨⟨hx, hb, hml, hown, hts⟩, ⟨hr, hlk⟩, ⟨hR1, hR2, hR3, hR4⟩, hK, hJ, hCt, hX⟩ := hC
  cases h
  exact fun H locs ls hL hP hS => va_gets hx hb (hCt.2.2.2.2.1 _ hq) hS hown (hts _ hl) (fun _ z => z) hd (k H locs ls hL hP hS)
theorem ps_lds {X : State → (Nat → Nat) → (Nat → Prop) → Prop} {own : String} {cc : ByteArray} {nL : Nat} {ret : Option FieldType} {pc : Nat} {t : String} {v idx : Nat} (hd : decode cc pc = .ok (.ldc idx, 2)) (hq : (own, idx, t, v) ∈ pm_sl) : pm_Snd X own cc nL ret pc (pm_cr v 2) := by
  intro p l e R s m args below meth co cells slots d D cA ad A Q ev hC hE L st σ o h k
  obtain ⟨⟨hx, hb, hml, hown, hts⟩, ⟨hr, hlk⟩, ⟨hR1, hR2, hR3, hR4⟩, hK, hJ, hCt, hX⟩ := hC
  cases h
  exact fun H locs ls hL hP hS => va_ldcS hx hb hown (hCt.2.2.2.2.2.1 _ hq) hd (k H locs ls hL hP hS)
def pm_sval : pm_F := fun _ g => match g.2.2.1 with
  | .ref c :: st => match pm_kd c with
    | .inr (100, [v]) => some (.inl (g.1 + 3, g.2.1, .ref v :: st, g.2.2.2))
    | _ => none
  | _ => none
def pm_scod : pm_F := fun _ g => match g.2.2.1 with
  | .ref c :: st => match pm_kd c with
    | .inr (100, [_]) => some (.inl (g.1 + 3, g.2.1, .int 0 :: st, g.2.2.2))
    | _ => none
  | _ => none
theorem ps_sval {X : State → (Nat → Nat) → (Nat → Prop) → Prop} {own : String} {cc : ByteArray} {nL : Nat} {ret : Option FieldType} {pc : Nat} {idx : Nat} (hd : decode cc pc = .ok (.getfield idx, 3)) (hl : Cond.fieldLink own idx "java/lang/String" "value" "[B" ∈ pm_TB) : pm_Snd X own cc nL ret pc pm_sval := by
  intro p l e R s m args below meth co cells slots d D cA ad A Q ev hC hE L st σ o h k
  obtain ⟨⟨hx, hb, hml, hown, hts⟩, ⟨hr, hlk⟩, ⟨hR1, hR2, hR3, hR4⟩, hK, hJ, hCt, hX⟩ := hC
  dsimp only [pm_sval] at h
  split at h
  · rename_i c rest
    split at h
    · rename_i v hk
      cases h
      exact fun H locs ls hL hP hS => vk_getf hx hb (hCt.2.2.1 c v hk).2.2 hS hown (hts _ hl) (fun _ z => z) hd (k H locs ls hL hP hS)
    · cases h
  · cases h
theorem ps_scod {X : State → (Nat → Nat) → (Nat → Prop) → Prop} {own : String} {cc : ByteArray} {nL : Nat} {ret : Option FieldType} {pc : Nat} {idx : Nat} (hd : decode cc pc = .ok (.getfield idx, 3)) (hl : Cond.fieldLink own idx "java/lang/String" "coder" "B" ∈ pm_TB) : pm_Snd X own cc nL ret pc pm_scod := by
  intro p l e R s m args below meth co cells slots d D cA ad A Q ev hC hE L st σ o h k
  obtain ⟨⟨hx, hb, hml, hown, hts⟩, ⟨hr, hlk⟩, ⟨hR1, hR2, hR3, hR4⟩, hK, hJ, hCt, hX⟩ := hC
  dsimp only [pm_scod] at h
  split at h
  · rename_i c rest
    split at h
    · rename_i v hk
      cases h
      exact fun H locs ls hL hP hS => vk_getf hx hb (hCt.2.2.1 c v hk).2.1 hS hown (hts _ hl) (fun _ z => z) hd (k H locs ls hL hP hS)
    · cases h
  · cases h
/-! returns -/
def pm_iret (ty : FieldType) : pm_F := fun _ g => match g.2.2.1 with
  | [.int v] => if narrow ty (.int v) = .int v then some (.inr (some (.int v), g.2.2.2)) else none
  | _ => none
def pm_lret : pm_F := fun _ g => match g.2.2.1 with
  | [.long v] => some (.inr (some (.long v), g.2.2.2))
  | _ => none
def pm_vret : pm_F := fun _ g => match g.2.2.1 with
  | [] => some (.inr (none, g.2.2.2))
  | _ => none
theorem ps_iret {X : State → (Nat → Nat) → (Nat → Prop) → Prop} {own : String} {cc : ByteArray} {nL : Nat} {ret : Option FieldType} {pc : Nat} {ty : FieldType} (hd : decode cc pc = .ok (.ireturn, 1)) (hrt : ret = some ty) : pm_Snd X own cc nL ret pc (pm_iret ty) := by
  intro p l e R s m args below meth co cells slots d D cA ad A Q ev hC hE L st σ o h k
  obtain ⟨⟨hx, hb, hml, hown, hts⟩, ⟨hr, hlk⟩, ⟨hR1, hR2, hR3, hR4⟩, hK, hJ, hCt, hX⟩ := hC
  subst hrt
  dsimp only [pm_iret] at h
  split at h
  · rename_i v
    split at h
    · rename_i hn
      cases h
      obtain ⟨rfl, rfl, rfl⟩ := k
      intro H locs ls hL hP hS
      exact W.zret hx hb hr hn (fun t ht _ => ⟨rfl, by rw [ht]; exact hP, hS.F ht⟩) hS.2.2 hd
    · cases h
  · cases h
theorem ps_lret {X : State → (Nat → Nat) → (Nat → Prop) → Prop} {own : String} {cc : ByteArray} {nL : Nat} {ret : Option FieldType} {pc : Nat} (hd : decode cc pc = .ok (.lreturn, 1)) (hrt : ret = some .long) : pm_Snd X own cc nL ret pc pm_lret := by
  intro p l e R s m args below meth co cells slots d D cA ad A Q ev hC hE L st σ o h k
  obtain ⟨⟨hx, hb, hml, hown, hts⟩, ⟨hr, hlk⟩, ⟨hR1, hR2, hR3, hR4⟩, hK, hJ, hCt, hX⟩ := hC
  subst hrt
  dsimp only [pm_lret] at h
  split at h
  · rename_i v
    cases h
    obtain ⟨rfl, rfl, rfl⟩ := k
    intro H locs ls hL hP hS
    exact W.lret hx hb hr (fun t ht _ => ⟨rfl, by rw [ht]; exact hP, hS.F ht⟩) hS.2.2 hd
  · cases h
theorem ps_vret {X : State → (Nat → Nat) → (Nat → Prop) → Prop} {own : String} {cc : ByteArray} {nL : Nat} {ret : Option FieldType} {pc : Nat} (hd : decode cc pc = .ok (.return_, 1)) (hrt : ret = none) : pm_Snd X own cc nL ret pc pm_vret := by
  intro p l e R s m args below meth co cells slots d D cA ad A Q ev hC hE L st σ o h k
  obtain ⟨⟨hx, hb, hml, hown, hts⟩, ⟨hr, hlk⟩, ⟨hR1, hR2, hR3, hR4⟩, hK, hJ, hCt, hX⟩ := hC
  subst hrt
  dsimp only [pm_vret] at h
  split at h
  · cases h
    obtain ⟨rfl, rfl, rfl⟩ := k
    intro H locs ls hL hP hS
    exact W.vret hx hb hr (fun t ht _ => ⟨rfl, by rw [ht]; exact hP, hS.F ht⟩) hS.2.2 hd
  · cases h
/-! switches -/
def pm_sel (x : Int32) (k : Nat → Option (pm_S ⊕ pm_R)) (dflt : Nat) : Int → List Nat → Option (pm_S ⊕ pm_R)
  | _, [] => k dflt
  | i, t :: ts => if x.toInt = i then k t else pm_sel x k dflt (i + 1) ts
def pm_tsw (lo : Int) (ts : List Nat) (dflt : Nat) : pm_F := fun _ g => match g.2.2.1 with
  | .int x :: st => pm_sel x (fun t => some (.inl (t, g.2.1, st, g.2.2.2))) dflt lo ts
  | _ => none
theorem pm_sel_of (x : Int32) (k : Nat → Option (pm_S ⊕ pm_R)) (dflt : Nat) : ∀ (ts : List Nat) (lo : Int), (x.toInt < lo ∨ lo + ts.length ≤ x.toInt) ∧ pm_sel x k dflt lo ts = k dflt ∨ ∃ (j t : Nat), x.toInt = lo + j ∧ ts[j]? = some t ∧ pm_sel x k dflt lo ts = k t
  | [], lo => Or.inl ⟨by simp; omega, rfl⟩
  | t :: ts, lo => by
    by_cases h : x.toInt = lo
    · exact Or.inr ⟨0, t, by simpa using h, rfl, by simp [pm_sel, h]⟩
    · have e : pm_sel x k dflt lo (t :: ts) = pm_sel x k dflt (lo + 1) ts := by simp [pm_sel, h]
      rcases pm_sel_of x k dflt ts (lo + 1) with ⟨h1, h2⟩ | ⟨j, u, h1, h2, h3⟩
      · refine Or.inl ⟨?_, e.trans h2⟩
        simp only [List.length_cons]
        omega
      · exact Or.inr ⟨j + 1, u, by omega, by simpa using h2, e.trans h3⟩
theorem ps_tsw {X : State → (Nat → Nat) → (Nat → Prop) → Prop} {own : String} {cc : ByteArray} {nL : Nat} {ret : Option FieldType} {pc : Nat} {dflt lo hi : Int} {offs : Array Int} {len dt : Nat} {ts : List Nat} (hd : decode cc pc = .ok (.tableswitch dflt lo hi offs, len)) (hdt : (pc : Int) + dflt = (dt : Int)) (hlen : hi = lo + ts.length - 1) (hts0 : offs.toList.map (fun o => (pc : Int) + o) = ts.map (fun t : Nat => (t : Int))) : pm_Snd X own cc nL ret pc (pm_tsw lo ts dt) := by
  intro p l e R s m args below meth co cells slots d D cA ad A Q ev hC hE L st σ o h k
  obtain ⟨⟨hx, hb, hml, hown, hts⟩, ⟨hr, hlk⟩, ⟨hR1, hR2, hR3, hR4⟩, hK, hJ, hCt, hX⟩ := hC
  dsimp only [pm_tsw] at h
  split at h
  · rename_i x rest
    rcases pm_sel_of x (fun t => some (.inl (t, L, rest, σ))) dt ts lo with ⟨h1, h2⟩ | ⟨j, t, h1, h2, h3⟩
    · rw [h2] at h
      cases h
      exact fun H locs ls hL hP hS => lv_tableOut hx hb hd (by omega) hdt (k H locs ls hL hP hS)
    · rw [h3] at h
      cases h
      have hj : j < ts.length := (List.getElem?_eq_some_iff.mp h2).1
      have ho := congrArg (fun l => l[j]?) hts0
      simp only [List.getElem?_map, h2, Option.map_some] at ho
      obtain ⟨off, e1, e2⟩ := Option.map_eq_some_iff.mp ho
      exact fun H locs ls hL hP hS => lv_tableIn (off := off) hx hb hd (by omega) (by omega) (by rw [show (x.toInt - lo).toNat = j by omega, ← Array.getElem?_toList]; exact e1) e2 (k H locs ls hL hP hS)
  · cases h

/-! the law's own script -/
def pm_scr (L : Nat) (xs : Nat → Int32) : State → (Nat → Nat) → (Nat → Prop) → Prop := fun s ad A => va_X (ad 190) L xs s s.heap ∧ ¬ A (ad 190)
def pm_sld (n : Nat) (xs : Nat → Int32) : pm_F := fun _ g => match g.2.2.1 with
  | .int i :: .ref 190 :: st => if i < 0 ∨ n ≤ i.toNatClampNeg then none else some (.inl (g.1 + 1, g.2.1, .int (xs i.toNatClampNeg) :: st, g.2.2.2))
  | _ => none
def pm_sle (n : Nat) : pm_F := fun _ g => match g.2.2.1 with
  | .ref 190 :: st => some (.inl (g.1 + 1, g.2.1, .int (Int32.ofNat n) :: st, g.2.2.2))
  | _ => none
theorem ps_sld {own : String} {cc : ByteArray} {nL : Nat} {ret : Option FieldType} {pc n : Nat} {xs : Nat → Int32} (hd : decode cc pc = .ok (.iaload, 1)) : pm_Snd (pm_scr n xs) own cc nL ret pc (pm_sld n xs) := by
  intro p l e R s m args below meth co cells slots d D cA ad A Q ev hC hE L st σ o h k
  obtain ⟨⟨hx, hb, hml, hown, hts⟩, ⟨hr, hlk⟩, ⟨hR1, hR2, hR3, hR4⟩, hK, hJ, hCt, hX⟩ := hC
  dsimp only [pm_sld] at h
  split at h
  · rename_i i rest
    split at h
    · cases h
    · rename_i hin
      cases h
      exact fun H locs ls hL hP hS => va_sld hx hb hX.1 (pm_X_lt hX.1) hX.2 hS hin hd (k H locs ls hL hP hS)
  · cases h
theorem ps_sle {own : String} {cc : ByteArray} {nL : Nat} {ret : Option FieldType} {pc n : Nat} {xs : Nat → Int32} (hd : decode cc pc = .ok (.arraylength, 1)) : pm_Snd (pm_scr n xs) own cc nL ret pc (pm_sle n) := by
  intro p l e R s m args below meth co cells slots d D cA ad A Q ev hC hE L st σ o h k
  obtain ⟨⟨hx, hb, hml, hown, hts⟩, ⟨hr, hlk⟩, ⟨hR1, hR2, hR3, hR4⟩, hK, hJ, hCt, hX⟩ := hC
  dsimp only [pm_sle] at h
  split at h
  · rename_i rest
    cases h
    exact fun H locs ls hL hP hS => va_slen hx hb hX.1 (pm_X_lt hX.1) hX.2 hS hd (k H locs ls hL hP hS)
  · cases h
/-! ===== the run, and that it is met ===== -/
def pm_at : List (Nat × pm_F) → Nat → Option pm_F
  | [], _ => none
  | q :: l, pc => if q.1 = pc then some q.2 else pm_at l pc
def pm_stp (ev : pm_Ev) (P : List (Nat × pm_F)) (g : pm_S) : Option (pm_S ⊕ pm_R) := match pm_at P g.1 with
  | none => none
  | some f => f ev g
def pm_k (o : Option (pm_S ⊕ pm_R)) (k : pm_S → Option pm_R) : Option pm_R := match o with
  | none => none
  | some (.inl g) => k g
  | some (.inr r) => some r
def pm_runF (ev : pm_Ev) (P : List (Nat × pm_F)) : Nat → pm_S → Option pm_R
  | 0, _ => none
  | n + 1, g => pm_k (pm_stp ev P g) (pm_runF ev P n)
theorem pm_runF_up {ev : pm_Ev} {P : List (Nat × pm_F)} : ∀ (n : Nat) (g : pm_S) (r : pm_R), pm_runF ev P n g = some r → pm_runF ev P (n + 1) g = some r
  | 0, _, _, h => by cases h
  | n + 1, g, r, h => by
    show pm_k (pm_stp ev P g) (pm_runF ev P (n + 1)) = some r
    have h : pm_k (pm_stp ev P g) (pm_runF ev P n) = some r := h
    revert h
    generalize pm_stp ev P g = o
    intro h
    match o, h with
    | some (.inl g'), h => exact pm_runF_up n g' r h
    | some (.inr _), h => exact h
theorem pm_runF_le {ev : pm_Ev} {P : List (Nat × pm_F)} {n : Nat} {g : pm_S} {r : pm_R} (h : pm_runF ev P n g = some r) : ∀ k : Nat, pm_runF ev P (n + k) g = some r
  | 0 => h
  | k + 1 => pm_runF_up _ _ _ (pm_runF_le h k)
theorem pm_runF_det {ev : pm_Ev} {P : List (Nat × pm_F)} {n k : Nat} {g : pm_S} {r q : pm_R} (h : pm_runF ev P n g = some r) (h2 : pm_runF ev P k g = some q) : r = q := by
  have a := pm_runF_le h k
  have b := pm_runF_le h2 n
  rw [Nat.add_comm] at b
  rw [a] at b
  exact Option.some.inj b
noncomputable def pm_run (ev : pm_Ev) (P : List (Nat × pm_F)) (g : pm_S) : Option pm_R := @dite _ (∃ r n, pm_runF ev P n g = some r) (Classical.propDecidable _) (fun h => some h.choose) (fun _ => none)
theorem pm_run_of {ev : pm_Ev} {P : List (Nat × pm_F)} {g : pm_S} {r : pm_R} (h : pm_run ev P g = some r) : ∃ n, pm_runF ev P n g = some r := by
  unfold pm_run at h
  split at h
  · rename_i hh
    cases h
    exact hh.choose_spec
  · cases h
theorem pm_run_in {ev : pm_Ev} {P : List (Nat × pm_F)} {g : pm_S} {r : pm_R} {n : Nat} (h : pm_runF ev P n g = some r) : pm_run ev P g = some r := by
  unfold pm_run
  split
  · rename_i hh
    obtain ⟨k, hk⟩ := hh.choose_spec
    rw [pm_runF_det hk h]
  · rename_i hh
    exact absurd ⟨r, n, h⟩ hh
/-- one step -/
theorem pm_run_eq (ev : pm_Ev) (P : List (Nat × pm_F)) (g : pm_S) : pm_run ev P g = pm_k (pm_stp ev P g) (pm_run ev P) := by
  have key : ∀ r, pm_run ev P g = some r ↔ pm_k (pm_stp ev P g) (pm_run ev P) = some r := by
    intro r
    constructor
    · intro h
      obtain ⟨n, hn⟩ := pm_run_of h
      match n, hn with
      | 0, hn => cases hn
      | n + 1, hn =>
        have hn : pm_k (pm_stp ev P g) (pm_runF ev P n) = some r := hn
        revert hn
        generalize pm_stp ev P g = o
        intro hn
        match o, hn with
        | some (.inl g'), hn => exact pm_run_in hn
        | some (.inr _), hn => exact hn
    · intro h
      revert h
      cases ho : pm_stp ev P g with
      | none => intro h; cases h
      | some o =>
        cases o with
        | inl g' =>
          intro h
          obtain ⟨n, hn⟩ := pm_run_of (show pm_run ev P g' = some r from h)
          refine pm_run_in (n := n + 1) ?_
          show pm_k (pm_stp ev P g) (pm_runF ev P n) = some r
          rw [ho]
          exact hn
        | inr q =>
          intro h
          refine pm_run_in (n := 1) ?_
          show pm_k (pm_stp ev P g) (pm_runF ev P 0) = some r
          rw [ho]
          exact h
  cases h1 : pm_run ev P g with
  | some r => exact ((key r).mp h1).symm
  | none =>
    cases h2 : pm_k (pm_stp ev P g) (pm_run ev P) with
    | none => rfl
    | some r => rw [(key r).mpr h2] at h1; cases h1
def pm_all (X : State → (Nat → Nat) → (Nat → Prop) → Prop) (own : String) (cc : ByteArray) (nL : Nat) (ret : Option FieldType) : List (Nat × pm_F) → Prop
  | [] => True
  | q :: l => pm_Snd X own cc nL ret q.1 q.2 ∧ pm_all X own cc nL ret l
theorem pm_all_at {X : State → (Nat → Nat) → (Nat → Prop) → Prop} {own : String} {cc : ByteArray} {nL : Nat} {ret : Option FieldType} : ∀ (P : List (Nat × pm_F)) (pc : Nat) (f : pm_F), pm_all X own cc nL ret P → pm_at P pc = some f → pm_Snd X own cc nL ret pc f
  | [], _, _, _, h => by cases h
  | q :: l, pc, f, ha, h => by
    unfold pm_at at h
    by_cases e : q.1 = pc
    · rw [if_pos e] at h
      cases h
      rw [← e]
      exact ha.1
    · rw [if_neg e] at h
      exact pm_all_at l pc f ha.2 h
theorem pm_stp_G {X : State → (Nat → Nat) → (Nat → Prop) → Prop} {own : String} {cc : ByteArray} {nL : Nat} {ret : Option FieldType} {P : List (Nat × pm_F)} (ha : pm_all X own cc nL ret P) {p : Program} {l : Launch} {e : Env} {R : Room} {s : State} {m : MethodId} {args : Array Value} {below : List Frame} {meth : Method} {c : Code} {cells slots d : Nat} {D : va_G} {cA : Nat → ClassId} {ad : Nat → Nat} {A : Nat → Prop} {Q : State → Prop} {ev : pm_Ev}
    (hC : pm_C p s m args meth c R cells slots d D cA ad A X own cc nL ret) (hE : pm_Eo l d D cA ad A ev) {g : pm_S} {o : pm_S ⊕ pm_R} (h : pm_stp ev P g = some o)
    (k : pm_nx (fun g => pm_G p l e R s m args below meth c cells slots D cA ad A nL Q g) (fun r => cells = 0 ∧ slots = 0 ∧ Q = MQ below (pm_Qc D cA ad A r) args s 0 0 A) o) : pm_G p l e R s m args below meth c cells slots D cA ad A nL Q g := by
  unfold pm_stp at h
  split at h
  · cases h
  · rename_i f hf
    exact pm_all_at P g.1 f ha hf p l e R s m args below meth c cells slots d D cA ad A Q ev hC hE g.2.1 g.2.2.1 g.2.2.2 o h k
theorem pm_runF_G {X : State → (Nat → Nat) → (Nat → Prop) → Prop} {own : String} {cc : ByteArray} {nL : Nat} {ret : Option FieldType} {P : List (Nat × pm_F)} (ha : pm_all X own cc nL ret P) {p : Program} {l : Launch} {e : Env} {R : Room} {s : State} {m : MethodId} {args : Array Value} {below : List Frame} {meth : Method} {c : Code} {d : Nat} {D : va_G} {cA : Nat → ClassId} {ad : Nat → Nat} {A : Nat → Prop} {ev : pm_Ev}
    (hC : pm_C p s m args meth c R 0 0 d D cA ad A X own cc nL ret) (hE : pm_Eo l d D cA ad A ev) {r : pm_R} : ∀ (n : Nat) (g : pm_S), pm_runF ev P n g = some r → pm_G p l e R s m args below meth c 0 0 D cA ad A nL (MQ below (pm_Qc D cA ad A r) args s 0 0 A) g
  | 0, _, h => by cases h
  | n + 1, g, h => by
    have h : pm_k (pm_stp ev P g) (pm_runF ev P n) = some r := h
    cases ho : pm_stp ev P g with
    | none => rw [ho] at h; cases h
    | some o =>
      rw [ho] at h
      refine pm_stp_G ha hC hE ho ?_
      cases o with
      | inl g' => exact pm_runF_G ha hC hE n g' h
      | inr q =>
        cases h
        exact ⟨rfl, rfl, rfl⟩
/-! the locals with which a method begins -/
def pm_fl : List Value → List Value
  | [] => []
  | .long x :: l => .long x :: .null :: pm_fl l
  | .double x :: l => .double x :: .null :: pm_fl l
  | v :: l => v :: pm_fl l
def pm_ent (nL : Nat) (as : List Value) : List Value := pm_fl as ++ List.replicate (nL - (pm_fl as).length) .null
theorem pm_fl_1 {v : Value} (h : v.category = 1) (l : List Value) : pm_fl (v :: l) = v :: pm_fl l := by
  cases v <;> first | rfl | (simp [Value.category] at h)
theorem pm_fl_2 {v : Value} (h : v.category = 2) (l : List Value) : pm_fl (v :: l) = v :: .null :: pm_fl l := by
  cases v <;> first | rfl | (simp [Value.category] at h)
theorem pm_as_nulls (ad : Nat → Nat) : ∀ k i : Nat, pm_as ad i (List.replicate k .null) = []
  | 0, _ => rfl
  | k + 1, i => by
    rw [List.replicate_succ]
    unfold pm_as
    rw [if_pos rfl]
    exact pm_as_nulls ad k (i + 1)
theorem pm_as_ent {ad : Nat → Nat} (k : Nat) : ∀ (as : List Value) (i : Nat) (q : Nat × Value), q ∈ pm_as ad i (pm_fl as ++ List.replicate k .null) → q ∈ lv_args i (as.map (pm_cv ad))
  | [], i, q, h => by
    rw [show pm_fl [] ++ List.replicate k Value.null = List.replicate k .null from rfl, pm_as_nulls] at h
    cases h
  | v :: as, i, q, h => by
    show q ∈ (i, pm_cv ad v) :: lv_args (if (pm_cv ad v).category = 2 then i + 2 else i + 1) (as.map (pm_cv ad))
    rw [pm_cv_cat]
    rcases lv_cat v with hc | hc
    · rw [pm_fl_1 hc, List.cons_append] at h
      rw [if_neg (by omega)]
      unfold pm_as at h
      split at h
      · exact List.mem_cons_of_mem _ (pm_as_ent k as (i + 1) q h)
      · rcases List.mem_cons.mp h with rfl | h
        · exact List.mem_cons_self
        · exact List.mem_cons_of_mem _ (pm_as_ent k as (i + 1) q h)
    · rw [pm_fl_2 hc, List.cons_append, List.cons_append] at h
      rw [if_pos hc]
      have step : ∀ (j : Nat), q ∈ pm_as ad j (Value.null :: (pm_fl as ++ List.replicate k .null)) → q ∈ pm_as ad (j + 1) (pm_fl as ++ List.replicate k .null) := fun j hq => by
        unfold pm_as at hq
        rw [if_pos rfl] at hq
        exact hq
      unfold pm_as at h
      split at h
      · exact List.mem_cons_of_mem _ (pm_as_ent k as (i + 2) q (step _ h))
      · rcases List.mem_cons.mp h with rfl | h
        · exact List.mem_cons_self
        · exact List.mem_cons_of_mem _ (pm_as_ent k as (i + 2) q (step _ h))
theorem pm_fl_len (ad : Nat → Nat) : ∀ as : List Value, (lg_sl (as.map (pm_cv ad))).length = (pm_fl as).length
  | [] => rfl
  | v :: as => by
    have ih := pm_fl_len ad as
    rcases lv_cat v with hc | hc
    · rw [pm_fl_1 hc]
      have : lg_sl ((v :: as).map (pm_cv ad)) = [.val (pm_cv ad v)] ++ lg_sl (as.map (pm_cv ad)) := by
        simp [lg_sl, pm_cv_cat, hc]
      rw [this]
      simp [ih]
      try omega
    · rw [pm_fl_2 hc]
      have : lg_sl ((v :: as).map (pm_cv ad)) = [.val (pm_cv ad v), .second] ++ lg_sl (as.map (pm_cv ad)) := by
        simp [lg_sl, pm_cv_cat, hc]
      rw [this]
      simp [ih]
      try omega
theorem pm_ofWF {l : Launch} {y : MethodName} {ws ws' : List Cond} {rm : Room} {Pc : Array Value → State → Prop} {Qc : Array Value → State → Outcome → State → Prop} {mc ms : Nat} {free : Addr → Prop} {cc : ByteArray} {maxL : Nat} {ret : Option FieldType}
    (hy : plainFor y = true) (hw : ws = Cond.code y cc maxL ret :: ws')
    (body : ∀ p e s m args below meth c s₁, BodyLoose p l y (headSpec ws rm) cc maxL ret e s m args below meth c s₁ → c.maxLocals = maxL → Pc args s →
      W p l e (headSpec ws rm).room s m args below meth c s.heap [] 0 0 (MQ below Qc args s mc ms free) (entryFrame m args maxL)) : Met l y ws rm Pc Qc mc ms free := by
  refine MetFree.of_bodySF (code := cc) (maxLocals := maxL) (ret := ret) hy ?_ ?_
  · intro args s m h hn
    obtain ⟨meth, c, h1, h2, h3, h4, h5, h6, -, -⟩ := Cond.code_spec hn (atoms_spec (ws := ws) h _ (by rw [hw]; exact List.mem_cons_self))
    exact ⟨meth, c, h1, h2, h3, h4, h5, h6⟩
  · intro p e s m args below meth c s₁ B hml hP _
    have hh0 : s₁.heap = s.heap := by rw [B.state]; rfl
    obtain ⟨t, a1, o, b1, b2, b3⟩ := body p e s m args below meth c s₁ B hml hP s₁ hh0 (Stand.of_body B)
    exact ⟨t, o, a1, b1, b2, ⟨b3.1, b3.2⟩⟩
/-- a call of depth d: the method's rows of steps, run with calls of depth less one -/
noncomputable def pm_ex (PP : Nat → List (Nat × pm_F)) : Nat → pm_Ev
  | 0 => fun _ _ _ => none
  | d + 1 => fun μ as σ => if (pm_fl as).length ≤ (pm_M μ).2.2.1 then pm_run (pm_ex PP d) (PP μ) (0, pm_ent (pm_M μ).2.2.1 as, [], σ) else none
def pm_Ok (PP : Nat → List (Nat × pm_F)) : Prop := ∀ μ, PP μ = [] ∨ (pm_all (fun _ _ _ => True) (pm_M μ).1.cls (pm_M μ).2.1 (pm_M μ).2.2.1 (pm_M μ).2.2.2 (PP μ) ∧ plainFor (pm_M μ).1 = true)
theorem pm_run_nil (ev : pm_Ev) (g : pm_S) : pm_run ev [] g = none := by
  rw [pm_run_eq]
  rfl
/-- every call of the machine of numbers is met by the machine itself -/
theorem pm_met {PP : Nat → List (Nat × pm_F)} (hPP : pm_Ok PP) (l : Launch) {D : va_G} {cA : Nat → ClassId} {ad : Nat → Nat} {A : Nat → Prop} (hJ : pm_J ad A) : ∀ d : Nat, pm_Eo l d D cA ad A (pm_ex PP d)
  | 0 => fun _ _ _ _ h => by cases h
  | d + 1 => by
    intro μ as σ r h
    refine ⟨d, rfl, ?_⟩
    have h : (if (pm_fl as).length ≤ (pm_M μ).2.2.1 then pm_run (pm_ex PP d) (PP μ) (0, pm_ent (pm_M μ).2.2.1 as, [], σ) else none) = some r := h
    split at h
    · rename_i hlen
      rcases hPP μ with he | ⟨ha, hpn⟩
      · rw [he, pm_run_nil] at h
        cases h
      · obtain ⟨n, hn⟩ := pm_run_of h
        refine pm_ofWF (cc := (pm_M μ).2.1) (maxL := (pm_M μ).2.2.1) (ret := (pm_M μ).2.2.2) hpn rfl ?_
        intro p e s m args below meth c s₁ B hml hv
        obtain ⟨rfl, hP, hK, hCt⟩ := hv
        have hts := atoms_spec (ws := pm_wl (pm_M μ)) B.pre
        have hown : s.vm.findClass (pm_M μ).1.cls = some m.cls := findClass_of_methodNamed B.named
        have hC : pm_C p s m (as.map (pm_cv ad)).toArray meth c (headSpec (pm_wl (pm_M μ)) (pm_rm d)).room 0 0 d D cA ad A (fun _ _ _ => True) (pm_M μ).1.cls (pm_M μ).2.1 (pm_M μ).2.2.1 (pm_M μ).2.2.2 :=
          ⟨⟨B.exec, B.bytes, hml, hown, fun w hw => hts w (List.mem_cons_of_mem _ hw)⟩, ⟨B.returns, B.notSynchronized⟩, ⟨Nat.le_refl _, Nat.le_refl _, Nat.le_refl _, Nat.le_refl _⟩, hK, hJ, hCt, trivial⟩
        have hG := pm_runF_G (e := e) (below := below) ha hC (pm_met hPP l hJ d) n _ hn
        have hl := lv_entry (as.map (pm_cv ad)) (n := (pm_M μ).2.2.1) (by rw [pm_fl_len]; exact hlen)
        rw [lg_entry_eq]
        refine hG s.heap [] _ ⟨?_, hl.1, hl.2.1, fun q hq => hl.2.2 q (pm_as_ent _ as 0 q hq)⟩ hP va_S.rf
        simp only [pm_ent, List.length_append, List.length_replicate]
        omega
    · cases h

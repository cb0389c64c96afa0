/-! ===== the start: what the Statement gives ===== -/
theorem va_Xof {args : Array Value} {s : State} {tm : Term} {N : Nat} {xs : Nat → Int32} {A : Nat → Prop} (hN : N < 2 ^ 31) (harr : (Cond.arrayOf tm .int).before args s = true) (hlen : (Term.length tm).eval args s none [] s = some (.int (Int32.ofNat N))) (hel : ∀ j : Nat, j < N → (Term.elem tm (.int (Int32.ofNat j))).eval args s none [] s = some (.int (xs j))) (hA : ∀ a : Nat, a < s.heap.size → ¬ A a) : ∃ t : Nat, tm.eval args s none [] s = some (.ref t) ∧ va_X t N xs s s.heap ∧ ¬ A t := by
  obtain ⟨t, ht, cell, hcell, hof, hkn, hle, hsz, hsl, hnA⟩ := va_Tof (f := fun j => .int (xs j)) hN harr hlen hel hA
  refine ⟨t, ht, ⟨cell, hcell, hof, hkn, ?_, hsl⟩, hnA⟩
  obtain ⟨t2, cell2, ht2, hat2, hv2⟩ := Term.length_spec hlen
  cases ht.symm.trans ht2
  obtain ⟨hc2, -⟩ := State.arrayAt?_spec hat2
  cases hcell.symm.trans hc2
  have hl2 := hlen
  simp only [Term.eval, ht, hat2, Option.bind_eq_bind, Option.bind_some] at hl2
  by_cases hlt : cell.slots.size < 2 ^ 31
  · have he : nI cell.slots.size = nI N := hsz
    exact (nI_eq hlt hN).mp he
  · rw [if_neg hlt] at hl2
    cases hl2
theorem eq_ref {args : Array Value} {s : State} {t u : Term} {a : Nat} (h : (Cond.eq t u).before args s = true) (ht : t.eval args s none [] s = some (.ref a)) : u.eval args s none [] s = some (.ref a) := by
  cases hv : u.eval args s none [] s with
  | none => simp [Cond.before, Cond.holds, Cond.value, ht, hv] at h
  | some w =>
    simp only [Cond.before, Cond.holds, Cond.value, ht, hv] at h
    cases w <;> simp_all
theorem prim_K {s : State} {args : Array Value} {ty : FieldType} (h : (Cond.arrayClass ty).before args s = true) (hr : ∀ c, s.vm.findClass ("[" ++ ty.toString) = some c → va_RA s c ty) : ∃ c, ArrOfT s c ty ∧ va_RA s c ty := by
  obtain ⟨c, k, comp, h1, h2, h3⟩ := Cond.arrayClass_spec h
  exact ⟨c, fun N z => ⟨(fun q hq => by cases hq), k, h2, comp, h3⟩, hr c h1⟩
theorem over_K {s : State} (h : va_AOA .int s) : ∃ c, ArrOfT s c (.array .int) ∧ va_RA s c (.array .int) := by
  have h' : (Cond.arrayOver (.array .int)).before #[] s = true := h
  simp only [Cond.before, Cond.holds, Cond.value] at h'
  cases h1 : s.vm.findClass (FieldType.array FieldType.int).toString with
  | none => rw [h1] at h'; simp at h'
  | some comp =>
    rw [h1, Option.bind_some] at h'
    rw [beq_iff_eq] at h'
    obtain ⟨c, -, h3⟩ := Option.bind_eq_some_iff.mp h'
    obtain ⟨k, h4, h5⟩ := Option.map_eq_some_iff.mp h3
    cases hk : k.kind with
    | array comp2 ty =>
      rw [hk] at h5
      simp only [Bool.and_eq_true, decide_eq_true_eq] at h5
      obtain ⟨h6, h7⟩ := h5
      subst h6
      exact ⟨c, fun N z => ⟨(fun q hq => by cases hq), k, h4, comp2, hk⟩, h7⟩
    | _ => rw [hk] at h5; simp at h5
theorem stand_K {s : State} (h : va_AO "ThreeLifts$Stand" s) : ∃ c, ArrOfT s c (.object "ThreeLifts$Stand") ∧ va_RA s c (.object "ThreeLifts$Stand") := by
  obtain ⟨comp, c, k, h1, h2, h3, h4, h5⟩ := Cond.arrayOver_spec h
  exact ⟨c, fun N z => ⟨(fun q hq => by cases hq), k, h3, comp, h4⟩, k, comp, h3, h4, h1, h5⟩
theorem start_K {s : State} {args : Array Value} (hts : ∀ w ∈ lw_tbl, w.before args s = true) : ∃ (D : va_G) (cA : Nat → ClassId), KK D cA s := by
  obtain ⟨c0, i0, k0⟩ := u_known (C := RX0) (T := TX0) (N := 8) (n := 8) hts (fun w h => (List.mem_filter.mp (pm_inX0 w h)).1) (hts _ (pm_T1 _ (List.mem_of_getElem? (i := 202) (by decide +kernel))))
  obtain ⟨c1, i1, k1⟩ := u_known (C := RX1) (T := TX1) (N := 3) (n := 3) hts (fun w h => (List.mem_filter.mp (pm_inX1 w h)).1) (hts _ (pm_T1 _ (List.mem_of_getElem? (i := 61) (by decide +kernel))))
  obtain ⟨c2, i2, k2⟩ := u_known (C := RX2) (T := TX2) (N := 3) (n := 3) hts (fun w h => (List.mem_filter.mp (pm_inX2 w h)).1) (hts _ (pm_T1 _ (List.mem_of_getElem? (i := 85) (by decide +kernel))))
  obtain ⟨c3, i3, k3⟩ := u_known (C := RX3) (T := TX3) (N := 5) (n := 5) hts (fun w h => (List.mem_filter.mp (pm_inX3 w h)).1) (hts _ (pm_T2 _ (List.mem_of_getElem? (i := 30) (by decide +kernel))))
  obtain ⟨c4, i4, k4⟩ := u_known (C := RX4) (T := TX4) (N := 3) (n := 3) hts (fun w h => (List.mem_filter.mp (pm_inX4 w h)).1) (hts _ (pm_T1 _ (List.mem_of_getElem? (i := 104) (by decide +kernel))))
  obtain ⟨c5, i5, k5⟩ := u_known (C := RX5) (T := TX5) (N := 8) (n := 8) hts (fun w h => (List.mem_filter.mp (pm_inX5 w h)).1) (hts _ (pm_T1 _ (List.mem_of_getElem? (i := 122) (by decide +kernel))))
  obtain ⟨c6, i6, k6⟩ := u_known (C := RX6) (T := TX6) (N := 6) (n := 6) hts (fun w h => (List.mem_filter.mp (pm_inX6 w h)).1) (hts _ (pm_T1 _ (List.mem_of_getElem? (i := 172) (by decide +kernel))))
  obtain ⟨c7, i7, k7⟩ := u_known (C := RX7) (T := TX7) (N := 7) (n := 7) hts (fun w h => (List.mem_filter.mp (pm_inX7 w h)).1) (hts _ (pm_T1 _ (List.mem_of_getElem? (i := 210) (by decide +kernel))))
  obtain ⟨c8, i8, k8⟩ := u_known (C := RX8) (T := TX8) (N := 8) (n := 8) hts (fun w h => (List.mem_filter.mp (pm_inX8 w h)).1) (hts _ (pm_T2 _ (List.mem_of_getElem? (i := 52) (by decide +kernel))))
  obtain ⟨c9, i9, k9⟩ := u_known (C := RX9) (T := TX9) (N := 2) (n := 2) hts (fun w h => (List.mem_filter.mp (pm_inX9 w h)).1) (hts _ (pm_T1 _ (List.mem_of_getElem? (i := 158) (by decide +kernel))))
  obtain ⟨c10, i10, k10⟩ := u_known (C := RX10) (T := TX10) (N := 4) (n := 4) hts (fun w h => (List.mem_filter.mp (pm_inX10 w h)).1) (hts _ (pm_T1 _ (List.mem_of_getElem? (i := 36) (by decide +kernel))))
  obtain ⟨c11, i11, k11⟩ := u_known (C := RX11) (T := TX11) (N := 19) (n := 19) hts (fun w h => (List.mem_filter.mp (pm_inX11 w h)).1) (hts _ (pm_T1 _ (List.mem_of_getElem? (i := 28) (by decide +kernel))))
  obtain ⟨c12, i12, k12⟩ := u_known (C := RX12) (T := TX12) (N := 48) (n := 48) hts (fun w h => (List.mem_filter.mp (pm_inX12 w h)).1) (hts _ (pm_T6 _ (List.mem_of_getElem? (i := 86) (by decide +kernel))))
  have hAO : va_AO "ThreeLifts$Stand" s := va_AO.of (hts _ (pm_T1 _ (List.mem_of_getElem? (i := 208) (by decide +kernel))))
  have hAA : va_AOA .int s := va_AOA.of (hts _ (pm_T1 _ (List.mem_of_getElem? (i := 128) (by decide +kernel))))
  obtain ⟨a0, a0x, a0y⟩ := prim_K (ty := .int) (hts _ (pm_T1 _ (List.mem_of_getElem? (i := 59) (by decide +kernel)))) (fun _ h => h)
  obtain ⟨a1, a1x, a1y⟩ := prim_K (ty := .byte) (hts _ (pm_T3 _ (List.mem_of_getElem? (i := 132) (by decide +kernel)))) (fun _ h => h)
  obtain ⟨a2, a2x, a2y⟩ := prim_K (ty := .long) (hts _ (pm_T2 _ (List.mem_of_getElem? (i := 2) (by decide +kernel)))) (fun _ h => h)
  obtain ⟨a3, a3x, a3y⟩ := over_K hAA
  obtain ⟨a4, a4x, a4y⟩ := stand_K hAO
  refine ⟨(fun k => ([c0, c1, c2, c3, c4, c5, c6, c7, c8, c9, c10, c11, c12] : List ClassId).getD k c0, fun k => ([i0, i1, i2, i3, i4, i5, i6, i7, i8, i9, i10, i11, i12] : List (Nat → Nat)).getD k i0), fun k => ([a0, a1, a2, a3, a4] : List ClassId).getD k a0, ⟨fun k q hq => ?_, fun k q hq => ?_⟩, hAO, hAA, ?_, ?_, ?_, ?_⟩
  · match k, hq with
    | 0, hq => cases hq; exact k0
    | 1, hq => cases hq; exact k1
    | 2, hq => cases hq; exact k2
    | 3, hq => cases hq; exact k3
    | 4, hq => cases hq; exact k4
    | 5, hq => cases hq; exact k5
    | 6, hq => cases hq; exact k6
    | 7, hq => cases hq; exact k7
    | 8, hq => cases hq; exact k8
    | 9, hq => cases hq; exact k9
    | 10, hq => cases hq; exact k10
    | 11, hq => cases hq; exact k11
    | 12, hq => cases hq; exact k12
    | k + 13, hq => simp [vwCl] at hq
  · match k, hq with
    | 0, hq => cases hq; exact ⟨a0x, a0y⟩
    | 1, hq => cases hq; exact ⟨a1x, a1y⟩
    | 2, hq => cases hq; exact ⟨a2x, a2y⟩
    | 3, hq => cases hq; exact ⟨a3x, a3y⟩
    | 4, hq => cases hq; exact ⟨a4x, a4y⟩
    | k + 5, hq => simp [pm_tys] at hq
  · exact va_Nw.of rfl (hts _ (pm_T1 _ (List.mem_of_getElem? (i := 37) (by decide +kernel))))
  · exact va_Nw.of rfl (hts _ (pm_T1 _ (List.mem_of_getElem? (i := 62) (by decide +kernel))))
  · exact va_Nw.of rfl (hts _ (pm_T1 _ (List.mem_of_getElem? (i := 173) (by decide +kernel))))
  · exact va_Nw.of rfl (hts _ (pm_T1 _ (List.mem_of_getElem? (i := 91) (by decide +kernel))))
def kdb5 (c : Nat) : Bool := match pm_kd c with
  | .inl (5, n, j) => decide ((c, n, j) ∈ [(160, 10, 0), (161, 4, 1), (162, 10, 2), (163, 10, 3), (164, 4, 4), (165, 4, 5)])
  | .inl (6, n, j) => decide ((c, n, j) ∈ [(174, 10, 6), (175, 4, 7), (176, 8, 8), (177, 1, 9)])
  | .inr (100, [v]) => decide ((c, v) ∈ [(170, 174), (171, 175), (172, 176), (173, 177)])
  | _ => true
theorem kdb5_ok : ∀ c, c < 178 → kdb5 c = true := by decide +kernel
theorem kd_big {c : Nat} (h : 178 ≤ c) : pm_kd c = .inl (9, 0, 0) := by
  unfold pm_kd
  rw [List.getD_eq_getElem?_getD, List.getElem?_eq_none (by show 178 ≤ c; exact h)]
  rfl
theorem kd_lt78 {c : Nat} {k : pm_K} (h : pm_kd c = k) (hk : k ≠ .inl (9, 0, 0)) : c < 178 := by
  rcases Nat.lt_or_ge c 178 with q | q
  · exact q
  · exact absurd (h.symm.trans (kd_big q)) hk
theorem va_T_ext {ty : FieldType} {t N : Nat} {f g : Nat → Value} {A : Nat → Prop} {U : State} {H : Heap} (h : va_T ty t N f A U H) (e : ∀ i, i < N → f i = g i) : va_T ty t N g A U H := by
  obtain ⟨cell, h1, h2, h3, h4, h5, h6, h7⟩ := h
  exact ⟨cell, h1, h2, h3, h4, h5, fun j hj => by rw [← e j hj]; exact h6 j hj, h7⟩
theorem start_Ct {s : State} {b : Nat} (hts : ∀ w ∈ lw_tbl, w.before #[Value.ref b] s = true) (hgv : (Jvm.Cond.and given_1 narrow_1).before #[Value.ref b] s = true) {A : Nat → Prop} (hA : ∀ a : Nat, a < s.heap.size → ¬ A a) : ∃ adC : Nat → Nat, (∀ ad : Nat → Nat, (∀ c, 158 ≤ c → c < 190 → ad c = adC c) → pm_Ct ad A s s.heap) ∧ vk_R "ThreeLiftsModel" 26 "y" (adC 173) s ∧ vk_R "ThreeLiftsModel" 32 "wsdtcrkb" (adC 172) s := by
  have hs := flat_of_before _ hgv
  obtain ⟨q160, q160e, q160x, q160A⟩ := va_Xof (tm := (Term.static "ThreeLifts$Hall" "USUAL" "[I")) (N := 10) (xs := pm_ct 0) (A := A) (by decide) (hs _ (by decide +kernel)) (va_eqt (hs (Cond.eq (.length (Term.static "ThreeLifts$Hall" "USUAL" "[I")) (.int 10)) (by decide +kernel))) (fun k hk => match k, hk with
    | 0, _ => va_eqt (hs (Cond.eq (.elem (Term.static "ThreeLifts$Hall" "USUAL" "[I") (.int 0)) (.int 50)) (by decide +kernel))
    | 1, _ => va_eqt (hs (Cond.eq (.elem (Term.static "ThreeLifts$Hall" "USUAL" "[I") (.int 1)) (.int 60)) (by decide +kernel))
    | 2, _ => va_eqt (hs (Cond.eq (.elem (Term.static "ThreeLifts$Hall" "USUAL" "[I") (.int 2)) (.int 60)) (by decide +kernel))
    | 3, _ => va_eqt (hs (Cond.eq (.elem (Term.static "ThreeLifts$Hall" "USUAL" "[I") (.int 3)) (.int 3)) (by decide +kernel))
    | 4, _ => va_eqt (hs (Cond.eq (.elem (Term.static "ThreeLifts$Hall" "USUAL" "[I") (.int 4)) (.int 1)) (by decide +kernel))
    | 5, _ => va_eqt (hs (Cond.eq (.elem (Term.static "ThreeLifts$Hall" "USUAL" "[I") (.int 5)) (.int 1)) (by decide +kernel))
    | 6, _ => va_eqt (hs (Cond.eq (.elem (Term.static "ThreeLifts$Hall" "USUAL" "[I") (.int 6)) (.int 3)) (by decide +kernel))
    | 7, _ => va_eqt (hs (Cond.eq (.elem (Term.static "ThreeLifts$Hall" "USUAL" "[I") (.int 7)) (.int 40)) (by decide +kernel))
    | 8, _ => va_eqt (hs (Cond.eq (.elem (Term.static "ThreeLifts$Hall" "USUAL" "[I") (.int 8)) (.int 50)) (by decide +kernel))
    | 9, _ => va_eqt (hs (Cond.eq (.elem (Term.static "ThreeLifts$Hall" "USUAL" "[I") (.int 9)) (.int 2)) (by decide +kernel))
    | k + 10, hk => absurd hk (by omega)) hA
  obtain ⟨q161, q161e, q161x, q161A⟩ := va_Xof (tm := (Term.static "ThreeLifts$Hall" "USUAL_RULES" "[I")) (N := 4) (xs := pm_ct 1) (A := A) (by decide) (hs _ (by decide +kernel)) (va_eqt (hs (Cond.eq (.length (Term.static "ThreeLifts$Hall" "USUAL_RULES" "[I")) (.int 4)) (by decide +kernel))) (fun k hk => match k, hk with
    | 0, _ => va_eqt (hs (Cond.eq (.elem (Term.static "ThreeLifts$Hall" "USUAL_RULES" "[I") (.int 0)) (.int 2)) (by decide +kernel))
    | 1, _ => va_eqt (hs (Cond.eq (.elem (Term.static "ThreeLifts$Hall" "USUAL_RULES" "[I") (.int 1)) (.int 3)) (by decide +kernel))
    | 2, _ => va_eqt (hs (Cond.eq (.elem (Term.static "ThreeLifts$Hall" "USUAL_RULES" "[I") (.int 2)) (.int 1)) (by decide +kernel))
    | 3, _ => va_eqt (hs (Cond.eq (.elem (Term.static "ThreeLifts$Hall" "USUAL_RULES" "[I") (.int 3)) (.int 0)) (by decide +kernel))
    | k + 4, hk => absurd hk (by omega)) hA
  obtain ⟨q162, q162e, q162x, q162A⟩ := va_Xof (tm := (Term.static "ThreeLifts$HallReader" "LEAST" "[I")) (N := 10) (xs := pm_ct 2) (A := A) (by decide) (hs _ (by decide +kernel)) (va_eqt (hs (Cond.eq (.length (Term.static "ThreeLifts$HallReader" "LEAST" "[I")) (.int 10)) (by decide +kernel))) (fun k hk => match k, hk with
    | 0, _ => va_eqt (hs (Cond.eq (.elem (Term.static "ThreeLifts$HallReader" "LEAST" "[I") (.int 0)) (.int 0)) (by decide +kernel))
    | 1, _ => va_eqt (hs (Cond.eq (.elem (Term.static "ThreeLifts$HallReader" "LEAST" "[I") (.int 1)) (.int 0)) (by decide +kernel))
    | 2, _ => va_eqt (hs (Cond.eq (.elem (Term.static "ThreeLifts$HallReader" "LEAST" "[I") (.int 2)) (.int 1)) (by decide +kernel))
    | 3, _ => va_eqt (hs (Cond.eq (.elem (Term.static "ThreeLifts$HallReader" "LEAST" "[I") (.int 3)) (.int 1)) (by decide +kernel))
    | 4, _ => va_eqt (hs (Cond.eq (.elem (Term.static "ThreeLifts$HallReader" "LEAST" "[I") (.int 4)) (.int 0)) (by decide +kernel))
    | 5, _ => va_eqt (hs (Cond.eq (.elem (Term.static "ThreeLifts$HallReader" "LEAST" "[I") (.int 5)) (.int 0)) (by decide +kernel))
    | 6, _ => va_eqt (hs (Cond.eq (.elem (Term.static "ThreeLifts$HallReader" "LEAST" "[I") (.int 6)) (.int 0)) (by decide +kernel))
    | 7, _ => va_eqt (hs (Cond.eq (.elem (Term.static "ThreeLifts$HallReader" "LEAST" "[I") (.int 7)) (.int 1)) (by decide +kernel))
    | 8, _ => va_eqt (hs (Cond.eq (.elem (Term.static "ThreeLifts$HallReader" "LEAST" "[I") (.int 8)) (.int 1)) (by decide +kernel))
    | 9, _ => va_eqt (hs (Cond.eq (.elem (Term.static "ThreeLifts$HallReader" "LEAST" "[I") (.int 9)) (.int 1)) (by decide +kernel))
    | k + 10, hk => absurd hk (by omega)) hA
  obtain ⟨q163, q163e, q163x, q163A⟩ := va_Xof (tm := (Term.static "ThreeLifts$HallReader" "MOST" "[I")) (N := 10) (xs := pm_ct 3) (A := A) (by decide) (hs _ (by decide +kernel)) (va_eqt (hs (Cond.eq (.length (Term.static "ThreeLifts$HallReader" "MOST" "[I")) (.int 10)) (by decide +kernel))) (fun k hk => match k, hk with
    | 0, _ => va_eqt (hs (Cond.eq (.elem (Term.static "ThreeLifts$HallReader" "MOST" "[I") (.int 0)) (.int 99)) (by decide +kernel))
    | 1, _ => va_eqt (hs (Cond.eq (.elem (Term.static "ThreeLifts$HallReader" "MOST" "[I") (.int 1)) (.int 99)) (by decide +kernel))
    | 2, _ => va_eqt (hs (Cond.eq (.elem (Term.static "ThreeLifts$HallReader" "MOST" "[I") (.int 2)) (.int 99)) (by decide +kernel))
    | 3, _ => va_eqt (hs (Cond.eq (.elem (Term.static "ThreeLifts$HallReader" "MOST" "[I") (.int 3)) (.int 9)) (by decide +kernel))
    | 4, _ => va_eqt (hs (Cond.eq (.elem (Term.static "ThreeLifts$HallReader" "MOST" "[I") (.int 4)) (.int 9)) (by decide +kernel))
    | 5, _ => va_eqt (hs (Cond.eq (.elem (Term.static "ThreeLifts$HallReader" "MOST" "[I") (.int 5)) (.int 9)) (by decide +kernel))
    | 6, _ => va_eqt (hs (Cond.eq (.elem (Term.static "ThreeLifts$HallReader" "MOST" "[I") (.int 6)) (.int 9)) (by decide +kernel))
    | 7, _ => va_eqt (hs (Cond.eq (.elem (Term.static "ThreeLifts$HallReader" "MOST" "[I") (.int 7)) (.int 99)) (by decide +kernel))
    | 8, _ => va_eqt (hs (Cond.eq (.elem (Term.static "ThreeLifts$HallReader" "MOST" "[I") (.int 8)) (.int 99)) (by decide +kernel))
    | 9, _ => va_eqt (hs (Cond.eq (.elem (Term.static "ThreeLifts$HallReader" "MOST" "[I") (.int 9)) (.int 9)) (by decide +kernel))
    | k + 10, hk => absurd hk (by omega)) hA
  obtain ⟨q164, q164e, q164x, q164A⟩ := va_Xof (tm := (Term.static "ThreeLifts$HallReader" "RULE_LEAST" "[I")) (N := 4) (xs := pm_ct 4) (A := A) (by decide) (hs _ (by decide +kernel)) (va_eqt (hs (Cond.eq (.length (Term.static "ThreeLifts$HallReader" "RULE_LEAST" "[I")) (.int 4)) (by decide +kernel))) (fun k hk => match k, hk with
    | 0, _ => va_eqt (hs (Cond.eq (.elem (Term.static "ThreeLifts$HallReader" "RULE_LEAST" "[I") (.int 0)) (.int 0)) (by decide +kernel))
    | 1, _ => va_eqt (hs (Cond.eq (.elem (Term.static "ThreeLifts$HallReader" "RULE_LEAST" "[I") (.int 1)) (.int 1)) (by decide +kernel))
    | 2, _ => va_eqt (hs (Cond.eq (.elem (Term.static "ThreeLifts$HallReader" "RULE_LEAST" "[I") (.int 2)) (.int 1)) (by decide +kernel))
    | 3, _ => va_eqt (hs (Cond.eq (.elem (Term.static "ThreeLifts$HallReader" "RULE_LEAST" "[I") (.int 3)) (.int 0)) (by decide +kernel))
    | k + 4, hk => absurd hk (by omega)) hA
  obtain ⟨q165, q165e, q165x, q165A⟩ := va_Xof (tm := (Term.static "ThreeLifts$HallReader" "RULE_MOST" "[I")) (N := 4) (xs := pm_ct 5) (A := A) (by decide) (hs _ (by decide +kernel)) (va_eqt (hs (Cond.eq (.length (Term.static "ThreeLifts$HallReader" "RULE_MOST" "[I")) (.int 4)) (by decide +kernel))) (fun k hk => match k, hk with
    | 0, _ => va_eqt (hs (Cond.eq (.elem (Term.static "ThreeLifts$HallReader" "RULE_MOST" "[I") (.int 0)) (.int 2)) (by decide +kernel))
    | 1, _ => va_eqt (hs (Cond.eq (.elem (Term.static "ThreeLifts$HallReader" "RULE_MOST" "[I") (.int 1)) (.int 3)) (by decide +kernel))
    | 2, _ => va_eqt (hs (Cond.eq (.elem (Term.static "ThreeLifts$HallReader" "RULE_MOST" "[I") (.int 2)) (.int 5)) (by decide +kernel))
    | 3, _ => va_eqt (hs (Cond.eq (.elem (Term.static "ThreeLifts$HallReader" "RULE_MOST" "[I") (.int 3)) (.int 1)) (by decide +kernel))
    | k + 4, hk => absurd hk (by omega)) hA
  obtain ⟨K170, V170, ⟨S170, -⟩, E170⟩ := vk_Sof (args := #[Value.ref b]) (s := s) (N := 1) (tm := fun _ => (Term.string "ThreeLifts$HallReader" 63)) (len := [10]) (byt := [[115, 106, 98, 100, 102, 99, 119, 111, 112, 109]]) (A := A) (fun i hi => by rw [show i = 0 by omega]; decide) (fun i hi => hs (Cond.exactly (Term.string "ThreeLifts$HallReader" 63) "java/lang/String") (by decide +kernel)) (fun i hi => hs (Cond.eq (.field (Term.string "ThreeLifts$HallReader" 63) "java/lang/String" "coder" "B") (.int 0)) (by decide +kernel)) (fun i hi => hs (Cond.arrayOf (.field (Term.string "ThreeLifts$HallReader" 63) "java/lang/String" "value" "[B") .byte) (by decide +kernel)) (fun i hi => by rw [show i = 0 by omega]; exact hs (Cond.eq (.length (.field (Term.string "ThreeLifts$HallReader" 63) "java/lang/String" "value" "[B")) (.int 10)) (by decide +kernel)) (fun i hi k hk => by
    have h0 : i = 0 := by omega
    subst h0
    match k, hk with
    | 0, _ => exact hs (Cond.eq (.elem (.field (Term.string "ThreeLifts$HallReader" 63) "java/lang/String" "value" "[B") (.int 0)) (.int 115)) (by decide +kernel)
    | 1, _ => exact hs (Cond.eq (.elem (.field (Term.string "ThreeLifts$HallReader" 63) "java/lang/String" "value" "[B") (.int 1)) (.int 106)) (by decide +kernel)
    | 2, _ => exact hs (Cond.eq (.elem (.field (Term.string "ThreeLifts$HallReader" 63) "java/lang/String" "value" "[B") (.int 2)) (.int 98)) (by decide +kernel)
    | 3, _ => exact hs (Cond.eq (.elem (.field (Term.string "ThreeLifts$HallReader" 63) "java/lang/String" "value" "[B") (.int 3)) (.int 100)) (by decide +kernel)
    | 4, _ => exact hs (Cond.eq (.elem (.field (Term.string "ThreeLifts$HallReader" 63) "java/lang/String" "value" "[B") (.int 4)) (.int 102)) (by decide +kernel)
    | 5, _ => exact hs (Cond.eq (.elem (.field (Term.string "ThreeLifts$HallReader" 63) "java/lang/String" "value" "[B") (.int 5)) (.int 99)) (by decide +kernel)
    | 6, _ => exact hs (Cond.eq (.elem (.field (Term.string "ThreeLifts$HallReader" 63) "java/lang/String" "value" "[B") (.int 6)) (.int 119)) (by decide +kernel)
    | 7, _ => exact hs (Cond.eq (.elem (.field (Term.string "ThreeLifts$HallReader" 63) "java/lang/String" "value" "[B") (.int 7)) (.int 111)) (by decide +kernel)
    | 8, _ => exact hs (Cond.eq (.elem (.field (Term.string "ThreeLifts$HallReader" 63) "java/lang/String" "value" "[B") (.int 8)) (.int 112)) (by decide +kernel)
    | 9, _ => exact hs (Cond.eq (.elem (.field (Term.string "ThreeLifts$HallReader" 63) "java/lang/String" "value" "[B") (.int 9)) (.int 109)) (by decide +kernel)
    | k + 10, hk => exact absurd hk (by show ¬ k + 10 < 10; omega)) (fun i j hi hj h => absurd (show i = j by omega) h) hA
  have s170 := S170 0 (by decide)
  have e170 := E170 0 (by decide)
  obtain ⟨K171, V171, ⟨S171, -⟩, E171⟩ := vk_Sof (args := #[Value.ref b]) (s := s) (N := 1) (tm := fun _ => (Term.string "ThreeLifts$HallReader" 79)) (len := [4]) (byt := [[99, 116, 115, 101]]) (A := A) (fun i hi => by rw [show i = 0 by omega]; decide) (fun i hi => hs (Cond.exactly (Term.string "ThreeLifts$HallReader" 79) "java/lang/String") (by decide +kernel)) (fun i hi => hs (Cond.eq (.field (Term.string "ThreeLifts$HallReader" 79) "java/lang/String" "coder" "B") (.int 0)) (by decide +kernel)) (fun i hi => hs (Cond.arrayOf (.field (Term.string "ThreeLifts$HallReader" 79) "java/lang/String" "value" "[B") .byte) (by decide +kernel)) (fun i hi => by rw [show i = 0 by omega]; exact hs (Cond.eq (.length (.field (Term.string "ThreeLifts$HallReader" 79) "java/lang/String" "value" "[B")) (.int 4)) (by decide +kernel)) (fun i hi k hk => by
    have h0 : i = 0 := by omega
    subst h0
    match k, hk with
    | 0, _ => exact hs (Cond.eq (.elem (.field (Term.string "ThreeLifts$HallReader" 79) "java/lang/String" "value" "[B") (.int 0)) (.int 99)) (by decide +kernel)
    | 1, _ => exact hs (Cond.eq (.elem (.field (Term.string "ThreeLifts$HallReader" 79) "java/lang/String" "value" "[B") (.int 1)) (.int 116)) (by decide +kernel)
    | 2, _ => exact hs (Cond.eq (.elem (.field (Term.string "ThreeLifts$HallReader" 79) "java/lang/String" "value" "[B") (.int 2)) (.int 115)) (by decide +kernel)
    | 3, _ => exact hs (Cond.eq (.elem (.field (Term.string "ThreeLifts$HallReader" 79) "java/lang/String" "value" "[B") (.int 3)) (.int 101)) (by decide +kernel)
    | k + 4, hk => exact absurd hk (by show ¬ k + 4 < 4; omega)) (fun i j hi hj h => absurd (show i = j by omega) h) hA
  have s171 := S171 0 (by decide)
  have e171 := E171 0 (by decide)
  obtain ⟨K172, V172, ⟨S172, -⟩, E172⟩ := vk_Sof (args := #[Value.ref b]) (s := s) (N := 1) (tm := fun _ => (Term.string "ThreeLifts$LawReader" 87)) (len := [8]) (byt := [[119, 115, 100, 116, 99, 114, 107, 98]]) (A := A) (fun i hi => by rw [show i = 0 by omega]; decide) (fun i hi => hs (Cond.exactly (Term.string "ThreeLifts$LawReader" 87) "java/lang/String") (by decide +kernel)) (fun i hi => hs (Cond.eq (.field (Term.string "ThreeLifts$LawReader" 87) "java/lang/String" "coder" "B") (.int 0)) (by decide +kernel)) (fun i hi => hs (Cond.arrayOf (.field (Term.string "ThreeLifts$LawReader" 87) "java/lang/String" "value" "[B") .byte) (by decide +kernel)) (fun i hi => by rw [show i = 0 by omega]; exact hs (Cond.eq (.length (.field (Term.string "ThreeLifts$LawReader" 87) "java/lang/String" "value" "[B")) (.int 8)) (by decide +kernel)) (fun i hi k hk => by
    have h0 : i = 0 := by omega
    subst h0
    match k, hk with
    | 0, _ => exact hs (Cond.eq (.elem (.field (Term.string "ThreeLifts$LawReader" 87) "java/lang/String" "value" "[B") (.int 0)) (.int 119)) (by decide +kernel)
    | 1, _ => exact hs (Cond.eq (.elem (.field (Term.string "ThreeLifts$LawReader" 87) "java/lang/String" "value" "[B") (.int 1)) (.int 115)) (by decide +kernel)
    | 2, _ => exact hs (Cond.eq (.elem (.field (Term.string "ThreeLifts$LawReader" 87) "java/lang/String" "value" "[B") (.int 2)) (.int 100)) (by decide +kernel)
    | 3, _ => exact hs (Cond.eq (.elem (.field (Term.string "ThreeLifts$LawReader" 87) "java/lang/String" "value" "[B") (.int 3)) (.int 116)) (by decide +kernel)
    | 4, _ => exact hs (Cond.eq (.elem (.field (Term.string "ThreeLifts$LawReader" 87) "java/lang/String" "value" "[B") (.int 4)) (.int 99)) (by decide +kernel)
    | 5, _ => exact hs (Cond.eq (.elem (.field (Term.string "ThreeLifts$LawReader" 87) "java/lang/String" "value" "[B") (.int 5)) (.int 114)) (by decide +kernel)
    | 6, _ => exact hs (Cond.eq (.elem (.field (Term.string "ThreeLifts$LawReader" 87) "java/lang/String" "value" "[B") (.int 6)) (.int 107)) (by decide +kernel)
    | 7, _ => exact hs (Cond.eq (.elem (.field (Term.string "ThreeLifts$LawReader" 87) "java/lang/String" "value" "[B") (.int 7)) (.int 98)) (by decide +kernel)
    | k + 8, hk => exact absurd hk (by show ¬ k + 8 < 8; omega)) (fun i j hi hj h => absurd (show i = j by omega) h) hA
  have s172 := S172 0 (by decide)
  have e172 := E172 0 (by decide)
  obtain ⟨K173, V173, ⟨S173, -⟩, E173⟩ := vk_Sof (args := #[Value.ref b]) (s := s) (N := 1) (tm := fun _ => (Term.string "ThreeLiftsModel" 26)) (len := [1]) (byt := [[121]]) (A := A) (fun i hi => by rw [show i = 0 by omega]; decide) (fun i hi => hs (Cond.exactly (Term.string "ThreeLiftsModel" 26) "java/lang/String") (by decide +kernel)) (fun i hi => hs (Cond.eq (.field (Term.string "ThreeLiftsModel" 26) "java/lang/String" "coder" "B") (.int 0)) (by decide +kernel)) (fun i hi => hs (Cond.arrayOf (.field (Term.string "ThreeLiftsModel" 26) "java/lang/String" "value" "[B") .byte) (by decide +kernel)) (fun i hi => by rw [show i = 0 by omega]; exact hs (Cond.eq (.length (.field (Term.string "ThreeLiftsModel" 26) "java/lang/String" "value" "[B")) (.int 1)) (by decide +kernel)) (fun i hi k hk => by
    have h0 : i = 0 := by omega
    subst h0
    match k, hk with
    | 0, _ => exact hs (Cond.eq (.elem (.field (Term.string "ThreeLiftsModel" 26) "java/lang/String" "value" "[B") (.int 0)) (.int 121)) (by decide +kernel)
    | k + 1, hk => exact absurd hk (by show ¬ k + 1 < 1; omega)) (fun i j hi hj h => absurd (show i = j by omega) h) hA
  have s173 := S173 0 (by decide)
  have e173 := E173 0 (by decide)
  refine ⟨fun c => ([0, 0, q160, q161, q162, q163, q164, q165, 0, 0, 0, 0, K170 0, K171 0, K172 0, K173 0, V170 0, V171 0, V172 0, V173 0] : List Nat).getD (c - 158) 0, fun ad had => ?_, ?_, ?_⟩
  · have a160 : ad 160 = q160 := had 160 (by decide) (by decide)
    have a161 : ad 161 = q161 := had 161 (by decide) (by decide)
    have a162 : ad 162 = q162 := had 162 (by decide) (by decide)
    have a163 : ad 163 = q163 := had 163 (by decide) (by decide)
    have a164 : ad 164 = q164 := had 164 (by decide) (by decide)
    have a165 : ad 165 = q165 := had 165 (by decide) (by decide)
    have a170 : ad 170 = K170 0 := had 170 (by decide) (by decide)
    have a171 : ad 171 = K171 0 := had 171 (by decide) (by decide)
    have a172 : ad 172 = K172 0 := had 172 (by decide) (by decide)
    have a173 : ad 173 = K173 0 := had 173 (by decide) (by decide)
    have a174 : ad 174 = V170 0 := had 174 (by decide) (by decide)
    have a175 : ad 175 = V171 0 := had 175 (by decide) (by decide)
    have a176 : ad 176 = V172 0 := had 176 (by decide) (by decide)
    have a177 : ad 177 = V173 0 := had 177 (by decide) (by decide)
    refine ⟨fun c n j h => ?_, fun c n j h => ?_, fun c v h => ?_, fun q hq => ?_, fun q hq => ?_, fun q hq => ?_, ?_⟩
    · have hb := kdb5_ok c (kd_lt78 h (by intro e; cases e))
      unfold kdb5 at hb
      rw [h] at hb
      have hm := of_decide_eq_true hb
      rcases List.mem_cons.mp hm with hm | hm
      · cases hm; rw [a160]; exact ⟨q160x, q160A⟩
      rcases List.mem_cons.mp hm with hm | hm
      · cases hm; rw [a161]; exact ⟨q161x, q161A⟩
      rcases List.mem_cons.mp hm with hm | hm
      · cases hm; rw [a162]; exact ⟨q162x, q162A⟩
      rcases List.mem_cons.mp hm with hm | hm
      · cases hm; rw [a163]; exact ⟨q163x, q163A⟩
      rcases List.mem_cons.mp hm with hm | hm
      · cases hm; rw [a164]; exact ⟨q164x, q164A⟩
      rcases List.mem_cons.mp hm with hm | hm
      · cases hm; rw [a165]; exact ⟨q165x, q165A⟩
      · cases hm
    · have hb := kdb5_ok c (kd_lt78 h (by intro e; cases e))
      unfold kdb5 at hb
      rw [h] at hb
      have hm := of_decide_eq_true hb
      rcases List.mem_cons.mp hm with hm | hm
      · cases hm; rw [a174]; exact va_T_ext s170.2.2.2 (fun i hi => match i, hi with
          | 0, _ => rfl
          | 1, _ => rfl
          | 2, _ => rfl
          | 3, _ => rfl
          | 4, _ => rfl
          | 5, _ => rfl
          | 6, _ => rfl
          | 7, _ => rfl
          | 8, _ => rfl
          | 9, _ => rfl
          | i + 10, hi => absurd hi (by show ¬ i + 10 < 10; omega))
      rcases List.mem_cons.mp hm with hm | hm
      · cases hm; rw [a175]; exact va_T_ext s171.2.2.2 (fun i hi => match i, hi with
          | 0, _ => rfl
          | 1, _ => rfl
          | 2, _ => rfl
          | 3, _ => rfl
          | i + 4, hi => absurd hi (by show ¬ i + 4 < 4; omega))
      rcases List.mem_cons.mp hm with hm | hm
      · cases hm; rw [a176]; exact va_T_ext s172.2.2.2 (fun i hi => match i, hi with
          | 0, _ => rfl
          | 1, _ => rfl
          | 2, _ => rfl
          | 3, _ => rfl
          | 4, _ => rfl
          | 5, _ => rfl
          | 6, _ => rfl
          | 7, _ => rfl
          | i + 8, hi => absurd hi (by show ¬ i + 8 < 8; omega))
      rcases List.mem_cons.mp hm with hm | hm
      · cases hm; rw [a177]; exact va_T_ext s173.2.2.2 (fun i hi => match i, hi with
          | 0, _ => rfl
          | i + 1, hi => absurd hi (by show ¬ i + 1 < 1; omega))
      · cases hm
    · have hb := kdb5_ok c (kd_lt78 h (by intro e; cases e))
      unfold kdb5 at hb
      rw [h] at hb
      have hm := of_decide_eq_true hb
      rcases List.mem_cons.mp hm with hm | hm
      · cases hm; rw [a170, a174]; exact ⟨s170.1, s170.2.1, s170.2.2.1⟩
      rcases List.mem_cons.mp hm with hm | hm
      · cases hm; rw [a171, a175]; exact ⟨s171.1, s171.2.1, s171.2.2.1⟩
      rcases List.mem_cons.mp hm with hm | hm
      · cases hm; rw [a172, a176]; exact ⟨s172.1, s172.2.1, s172.2.2.1⟩
      rcases List.mem_cons.mp hm with hm | hm
      · cases hm; rw [a173, a177]; exact ⟨s173.1, s173.2.1, s173.2.2.1⟩
      · cases hm
    · have hm := hq
      unfold pm_sr at hm
      rcases List.mem_cons.mp hm with hm | hm
      · cases hm; show va_Z "ThreeLifts$Hall" "USUAL" "[I" (.ref (ad 160)) A s s.heap; rw [a160]; exact va_Zref (hts _ (pm_T2 _ (List.mem_of_getElem? (i := 185) (by decide +kernel)))) (hts _ (pm_T1 _ (List.mem_of_getElem? (i := 3) (by decide +kernel)))) q160e hA
      rcases List.mem_cons.mp hm with hm | hm
      · cases hm; show va_Z "ThreeLifts$Hall" "USUAL_RULES" "[I" (.ref (ad 161)) A s s.heap; rw [a161]; exact va_Zref (hts _ (pm_T2 _ (List.mem_of_getElem? (i := 180) (by decide +kernel)))) (hts _ (pm_T1 _ (List.mem_of_getElem? (i := 3) (by decide +kernel)))) q161e hA
      rcases List.mem_cons.mp hm with hm | hm
      · cases hm; show va_Z "ThreeLifts$HallReader" "LEAST" "[I" (.ref (ad 162)) A s s.heap; rw [a162]; exact va_Zref (hts _ (pm_T2 _ (List.mem_of_getElem? (i := 196) (by decide +kernel)))) (hts _ (pm_T1 _ (List.mem_of_getElem? (i := 4) (by decide +kernel)))) q162e hA
      rcases List.mem_cons.mp hm with hm | hm
      · cases hm; show va_Z "ThreeLifts$HallReader" "MOST" "[I" (.ref (ad 163)) A s s.heap; rw [a163]; exact va_Zref (hts _ (pm_T2 _ (List.mem_of_getElem? (i := 198) (by decide +kernel)))) (hts _ (pm_T1 _ (List.mem_of_getElem? (i := 4) (by decide +kernel)))) q163e hA
      rcases List.mem_cons.mp hm with hm | hm
      · cases hm; show va_Z "ThreeLifts$HallReader" "RULE_LEAST" "[I" (.ref (ad 164)) A s s.heap; rw [a164]; exact va_Zref (hts _ (pm_T3 _ (List.mem_of_getElem? (i := 70) (by decide +kernel)))) (hts _ (pm_T1 _ (List.mem_of_getElem? (i := 4) (by decide +kernel)))) q164e hA
      rcases List.mem_cons.mp hm with hm | hm
      · cases hm; show va_Z "ThreeLifts$HallReader" "RULE_MOST" "[I" (.ref (ad 165)) A s s.heap; rw [a165]; exact va_Zref (hts _ (pm_T3 _ (List.mem_of_getElem? (i := 72) (by decide +kernel)))) (hts _ (pm_T1 _ (List.mem_of_getElem? (i := 4) (by decide +kernel)))) q165e hA
      · cases hm
    · have hm := hq
      unfold pm_si at hm
      rcases List.mem_cons.mp hm with hm | hm
      · cases hm; exact va_Zof (hts _ (pm_T2 _ (List.mem_of_getElem? (i := 212) (by decide +kernel)))) (hts _ (pm_T1 _ (List.mem_of_getElem? (i := 15) (by decide +kernel)))) (va_eqt (hs (Cond.eq (.static "java/lang/String" "COMPACT_STRINGS" "Z") (.int 1)) (by decide +kernel))) hA
      · cases hm
    · have hm := hq
      unfold pm_sl at hm
      rcases List.mem_cons.mp hm with hm | hm
      · cases hm; show vk_R "ThreeLifts$HallReader" 63 "sjbdfcwopm" (ad 170) s; rw [a170]; exact vk_R.of (A := #[Value.ref b]) (hts _ (pm_T2 _ (List.mem_of_getElem? (i := 194) (by decide +kernel)))) e170
      rcases List.mem_cons.mp hm with hm | hm
      · cases hm; show vk_R "ThreeLifts$HallReader" 79 "ctse" (ad 171) s; rw [a171]; exact vk_R.of (A := #[Value.ref b]) (hts _ (pm_T3 _ (List.mem_of_getElem? (i := 68) (by decide +kernel)))) e171
      rcases List.mem_cons.mp hm with hm | hm
      · cases hm; show vk_R "ThreeLifts$LawReader" 87 "wsdtcrkb" (ad 172) s; rw [a172]; exact vk_R.of (A := #[Value.ref b]) (hts _ (pm_T3 _ (List.mem_of_getElem? (i := 101) (by decide +kernel)))) e172
      rcases List.mem_cons.mp hm with hm | hm
      · cases hm; show vk_R "ThreeLiftsModel" 26 "y" (ad 173) s; rw [a173]; exact vk_R.of (A := #[Value.ref b]) (hts _ (pm_T6 _ (List.mem_of_getElem? (i := 91) (by decide +kernel)))) e173
      rcases List.mem_cons.mp hm with hm | hm
      · cases hm; show vk_R "ThreeLiftsModel" 32 "wsdtcrkb" (ad 172) s; rw [a172]; exact vk_R.of (A := #[Value.ref b]) (hts _ (pm_T6 _ (List.mem_of_getElem? (i := 92) (by decide +kernel)))) (eq_ref (hs (Cond.eq (Term.string "ThreeLifts$LawReader" 87) (Term.string "ThreeLiftsModel" 32)) (by decide +kernel)) e172)
      rcases List.mem_cons.mp hm with hm | hm
      · cases hm; show vk_R "ThreeLiftsModel" 256 "sjbdfcwopm" (ad 170) s; rw [a170]; exact vk_R.of (A := #[Value.ref b]) (hts _ (pm_T7 _ (List.mem_of_getElem? (i := 48) (by decide +kernel)))) (eq_ref (hs (Cond.eq (Term.string "ThreeLifts$HallReader" 63) (Term.string "ThreeLiftsModel" 256)) (by decide +kernel)) e170)
      rcases List.mem_cons.mp hm with hm | hm
      · cases hm; show vk_R "ThreeLiftsModel" 262 "ctse" (ad 171) s; rw [a171]; exact vk_R.of (A := #[Value.ref b]) (hts _ (pm_T7 _ (List.mem_of_getElem? (i := 98) (by decide +kernel)))) (eq_ref (hs (Cond.eq (Term.string "ThreeLifts$HallReader" 79) (Term.string "ThreeLiftsModel" 262)) (by decide +kernel)) e171)
      · cases hm
    · exact va_Zqof (hts _ (pm_T3 _ (List.mem_of_getElem? (i := 20) (by decide +kernel)))) (hts _ (pm_T1 _ (List.mem_of_getElem? (i := 19) (by decide +kernel)))) (hs (Cond.isRef (.static "jdk/internal/util/Preconditions" "SIOOBE_FORMATTER" "Ljava/util/function/BiFunction;")) (by decide +kernel)) hA
  · exact vk_R.of (A := #[Value.ref b]) (hts _ (pm_T6 _ (List.mem_of_getElem? (i := 91) (by decide +kernel)))) e173
  · exact vk_R.of (A := #[Value.ref b]) (hts _ (pm_T6 _ (List.mem_of_getElem? (i := 92) (by decide +kernel)))) (eq_ref (hs (Cond.eq (Term.string "ThreeLifts$LawReader" 87) (Term.string "ThreeLiftsModel" 32)) (by decide +kernel)) e172)

/-! ===== an index is checked: the text's maker of exceptions, null or not, is read and handed on ===== -/
def pm_chk : pm_F := fun ev g => match g.2.2.1 with
  | .int n :: .int i :: st => if (¬ i < 0 ∧ i < n) ∧ pm_sw st ≤ 8 then (match ev 81 [.int i, .int n, .null] g.2.2.2 with
    | some _ => some (.inl (g.1 + 6, g.2.1, .int i :: st, g.2.2.2))
    | none => none) else none
  | _ => none
def pg_chk : List (Nat × pm_F) := [(0, pm_il 0 1), (1, pm_zlt 9), (4, pm_il 0 1), (5, pm_il 1 1), (6, pm_clt 16), (16, pm_il 0 1), (17, pm_iret .int)]
theorem ok_chk : pm_all (fun _ _ _ => True) RJ3 cJ3_checkIndex_8e157 3 (some .int) pg_chk := pm_ac (ps_iload_n dJ3_checkIndex_8e157_0 rfl) (pm_ac (ps_zlt dJ3_checkIndex_8e157_1 (by decide)) (pm_ac (ps_iload_n dJ3_checkIndex_8e157_4 rfl) (pm_ac (ps_iload_n dJ3_checkIndex_8e157_5 rfl) (pm_ac (ps_clt dJ3_checkIndex_8e157_6 (by decide)) (pm_ac (ps_iload_n dJ3_checkIndex_8e157_16 rfl) (pm_ac (ps_iret dJ3_checkIndex_8e157_17 rfl) pm_an))))))
theorem chk_run {i n : Int32} {σ : pm_H} (h0 : ¬ i < 0) (h1 : i < n) : pm_runF (fun _ _ _ => none) pg_chk 7 (0, [.int i, .int n, .null], [], σ) = some (some (.int i), σ) := by
  simp [pm_runF, pm_k, pm_stp, pm_at, pg_chk, pm_il, pm_zlt, pm_clt, pm_iret, h0, h1, narrow]
theorem chk_met (l : Launch) {D : va_G} {cA : Nat → ClassId} {ad : Nat → Nat} {A : Nat → Prop} (hJ : pm_J ad A) (v : Value) {i n : Int32} (h0 : ¬ i < 0) (h1 : i < n) (hv : (lg_sl [.int i, .int n, v]).length ≤ 3) (σ : pm_H) (d' : Nat) : Met l yJ3_checkIndex_8e157 (pm_wl (yJ3_checkIndex_8e157, cJ3_checkIndex_8e157, 3, some .int)) (pm_rm d') (va_Pc [.int i, .int n, v] (fun U => pm_Wd D cA ad A σ U)) (pm_Qc D cA ad A (some (.int i), σ)) 0 0 A := by
  refine pm_ofWF (cc := cJ3_checkIndex_8e157) (maxL := 3) (ret := some .int) (by decide +kernel) rfl ?_
  intro p e s m args below meth c s₁ B hml hw
  obtain ⟨rfl, hP, hK, hCt⟩ := hw
  have hts := atoms_spec (ws := pm_wl (yJ3_checkIndex_8e157, cJ3_checkIndex_8e157, 3, some .int)) B.pre
  have hown : s.vm.findClass RJ3 = some m.cls := findClass_of_methodNamed B.named
  have hC : pm_C p s m ([.int i, .int n, v] : List Value).toArray meth c (headSpec (pm_wl (yJ3_checkIndex_8e157, cJ3_checkIndex_8e157, 3, some .int)) (pm_rm d')).room 0 0 d' D cA ad A (fun _ _ _ => True) RJ3 cJ3_checkIndex_8e157 3 (some .int) :=
    ⟨⟨B.exec, B.bytes, hml, hown, fun w hw => hts w (List.mem_cons_of_mem _ hw)⟩, ⟨B.returns, B.notSynchronized⟩, ⟨Nat.le_refl _, Nat.le_refl _, Nat.le_refl _, Nat.le_refl _⟩, hK, hJ, hCt, trivial⟩
  have hG := pm_runF_G (l := l) (e := e) (below := below) ok_chk hC (fun _ _ _ _ h => by cases h) 7 _ (chk_run (σ := σ) h0 h1)
  have hl := lv_entry ([.int i, .int n, v] : List Value) (n := 3) hv
  rw [lg_entry_eq]
  refine hG s.heap [] _ ⟨rfl, hl.1, hl.2.1, fun q hq => hl.2.2 q ?_⟩ hP va_S.rf
  have hq : q ∈ [(0, Value.int i), (1, Value.int n)] := by
    simpa [pm_as, pm_cv] using hq
  rcases List.mem_cons.mp hq with rfl | hq
  · simp [lv_args]
  · rcases List.mem_cons.mp hq with rfl | hq
    · simp [lv_args, Value.category]
    · cases hq
theorem ps_chk {X : State → (Nat → Nat) → (Nat → Prop) → Prop} {nL : Nat} {ret : Option FieldType} : pm_Snd X RJ0 cJ0_checkIndex_df160 nL ret 2 pm_chk := by
  intro p l e R s m args below meth co cells slots d D cA ad A Q ev hC hE L st σ o h k
  obtain ⟨⟨hx, hb, hml, hown, hts⟩, ⟨hr, hlk⟩, ⟨hR1, hR2, hR3, hR4⟩, hK, hJ, hCt, hX⟩ := hC
  dsimp only [pm_chk] at h
  split at h
  · rename_i n i rest
    split at h
    · rename_i hcc
      obtain ⟨⟨h0, h1⟩, hlen⟩ := hcc
      split at h
      · rename_i r hev
        cases h
        obtain ⟨d', rfl, -⟩ := hE _ _ _ _ hev
        intro H locs ls hL hP hS
        have fin : ∀ v : Value, va_Z "jdk/internal/util/Preconditions" "SIOOBE_FORMATTER" "Ljava/util/function/BiFunction;" v A s s.heap → (lg_sl [.int i, .int n, v]).length ≤ 3 → W p l e R s m args below meth co H locs cells slots Q (F0 m 2 ls ((Value.int n :: Value.int i :: rest).map (pm_cv ad))) := fun v hZ hv => by
          refine va_gets hx hb hZ hS hown (hts _ pw_68) (fun _ z => z) dJ0_checkIndex_df160_2 ?_
          refine pm_go (va_runS (As := [.int i, .int n, v]) (n := 3) (rest := rest.map (pm_cv ad)) ⟨hx, hb, hml, hown, hts⟩ (chk_met l hJ v h0 h1 hv σ d') ⟨pm_cb (p := p) (l := l) (e := e) (i := (yJ3_checkIndex_8e157, cJ3_checkIndex_8e157, 3, some .int)) hR1 hR2 hts pw_567 pw_565 pw_133 (by decide) (by decide +kernel), hts _ pw_568⟩ ⟨pm_blind _, fun U hU hW => ⟨rfl, pm_Wd_at hK hCt hP hS hU hW⟩⟩ rfl rfl hL.2.1 rfl (lv_room ?_) dJ0_checkIndex_df160_5 ⟨hR3, hR4⟩) hS (fun H1 locs1 hP1 hS1 => ?_)
          · have := pm_cats ad rest
            omega
          · exact k H1 locs1 ls hL hP1 hS1
        rcases hCt.2.2.2.2.2.2 with hz | ⟨t, hz⟩
        · exact fin .null hz (Nat.le_of_ble_eq_true rfl)
        · exact fin (.ref t) hz (Nat.le_of_ble_eq_true rfl)
      · cases h
    · cases h
  · cases h

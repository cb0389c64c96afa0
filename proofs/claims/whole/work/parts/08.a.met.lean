/-! ===== the same, for methods of classes of which others are built in (plainFor) ===== -/
theorem pm_ofWF {l : Launch} {y : MethodName} {ws ws' : List Cond} {rm : Room} {Pc : Array Value → State → Prop} {Qc : Array Value → State → Outcome → State → Prop} {mc ms : Nat} {free : Addr → Prop} {cc : ByteArray} {maxL : Nat} {ret : Option FieldType}
    (hy : plainFor y = true) (hw : ws = Cond.code y cc maxL ret :: ws')
    (body : ∀ p e s m args below meth c s₁, BodyLoose p l y (headSpec ws rm) cc maxL ret e s m args below meth c s₁ → c.maxLocals = maxL → Pc args s →
      W p l e (headSpec ws rm).room s m args below meth c s.heap [] 0 0 (MQ below Qc args s mc ms free) (entryFrame m args maxL)) : Met l y ws rm Pc Qc mc ms free := by
  refine MetFree.of_bodySF (code := cc) (maxLocals := maxL) (ret := ret) hy ?_ ?_
  · intro args s m h hn
    obtain ⟨meth, c, h1, h2, h3, h4, h5, h6, -, -⟩ := Cond.code_spec hn (atoms_spec (ws := ws) h _ (by rw [hw]; exact List.mem_cons_self))
    exact ⟨meth, c, h1, h2, h3, h4, h5, h6⟩
  · intro p e s m args below meth c s₁ B hml hP _
    have hh0 : s₁.heap = s.heap := by rw [B.state]; rfl
    obtain ⟨t, a1, o, b1, b2, b3⟩ := body p e s m args below meth c s₁ B hml hP s₁ hh0 (Stand.of_body B)
    exact ⟨t, o, a1, b1, b2, ⟨b3.1, b3.2⟩⟩
def pm_OkF (PP : Nat → List (Nat × pm_F)) : Prop := ∀ μ, PP μ = [] ∨ (pm_all (fun _ _ _ => True) (pm_M μ).1.cls (pm_M μ).2.1 (pm_M μ).2.2.1 (pm_M μ).2.2.2 (PP μ) ∧ plainFor (pm_M μ).1 = true)
/-- every call of the machine of numbers is met by the machine itself -/
theorem pm_metF {PP : Nat → List (Nat × pm_F)} (hPP : pm_OkF PP) (l : Launch) {D : va_G} {cA : Nat → ClassId} {ad : Nat → Nat} {A : Nat → Prop} (hJ : pm_J ad A) : ∀ d : Nat, pm_Eo l d D cA ad A (pm_ex PP d)
  | 0 => fun _ _ _ _ h => by cases h
  | d + 1 => by
    intro μ as σ r h
    refine ⟨d, rfl, ?_⟩
    have h : (if (pm_fl as).length ≤ (pm_M μ).2.2.1 then pm_run (pm_ex PP d) (PP μ) (0, pm_ent (pm_M μ).2.2.1 as, [], σ) else none) = some r := h
    split at h
    · rename_i hlen
      rcases hPP μ with he | ⟨ha, hpn⟩
      · rw [he, pm_run_nil] at h
        cases h
      · obtain ⟨n, hn⟩ := pm_run_of h
        refine pm_ofWF (cc := (pm_M μ).2.1) (maxL := (pm_M μ).2.2.1) (ret := (pm_M μ).2.2.2) hpn rfl ?_
        intro p e s m args below meth c s₁ B hml hv
        obtain ⟨rfl, hP, hK, hCt⟩ := hv
        have hts := atoms_spec (ws := pm_wl (pm_M μ)) B.pre
        have hown : s.vm.findClass (pm_M μ).1.cls = some m.cls := findClass_of_methodNamed B.named
        have hC : pm_C p s m (as.map (pm_cv ad)).toArray meth c (headSpec (pm_wl (pm_M μ)) (pm_rm d)).room 0 0 d D cA ad A (fun _ _ _ => True) (pm_M μ).1.cls (pm_M μ).2.1 (pm_M μ).2.2.1 (pm_M μ).2.2.2 :=
          ⟨⟨B.exec, B.bytes, hml, hown, fun w hw => hts w (List.mem_cons_of_mem _ hw)⟩, ⟨B.returns, B.notSynchronized⟩, ⟨Nat.le_refl _, Nat.le_refl _, Nat.le_refl _, Nat.le_refl _⟩, hK, hJ, hCt, trivial⟩
        have hG := pm_runF_G (e := e) (below := below) ha hC (pm_metF hPP l hJ d) n _ hn
        have hl := lv_entry (as.map (pm_cv ad)) (n := (pm_M μ).2.2.1) (by rw [pm_fl_len]; exact hlen)
        rw [lg_entry_eq]
        refine hG s.heap [] _ ⟨?_, hl.1, hl.2.1, fun q hq => hl.2.2 q (pm_as_ent _ as 0 q hq)⟩ hP va_S.rf
        simp only [pm_ent, List.length_append, List.length_replicate]
        omega
    · cases h
def pm_ok1F (μ : Nat) (P : List (Nat × pm_F)) : Prop := P = [] ∨ (pm_all (fun _ _ _ => True) (pm_M μ).1.cls (pm_M μ).2.1 (pm_M μ).2.2.1 (pm_M μ).2.2.2 P ∧ plainFor (pm_M μ).1 = true)
def pm_oksF : Nat → List (List (Nat × pm_F)) → Prop
  | _, [] => True
  | k, P :: l => pm_ok1F k P ∧ pm_oksF (k + 1) l
theorem pm_ocF {k : Nat} {P : List (Nat × pm_F)} {l : List (List (Nat × pm_F))} (h : pm_ok1F k P) (t : pm_oksF (k + 1) l) : pm_oksF k (P :: l) := ⟨h, t⟩
theorem pm_onF (k : Nat) : pm_oksF k [] := trivial
theorem pm_oks_atF : ∀ (l : List (List (Nat × pm_F))) (k i : Nat), pm_oksF k l → pm_ok1F (k + i) (l.getD i [])
  | [], _, _, _ => Or.inl rfl
  | P :: l, k, 0, h => h.1
  | P :: l, k, i + 1, h => by
    have := pm_oks_atF l (k + 1) i h.2
    rw [show k + 1 + i = k + (i + 1) by omega] at this
    exact this
theorem pm_Ok_ofF {t : List (List (Nat × pm_F))} (h : pm_oksF 0 t) : pm_OkF (fun μ => t.getD μ []) := by
  intro μ
  have := pm_oks_atF t 0 μ h
  rw [Nat.zero_add] at this
  exact this

/-! ===== rows of steps put together; a text's constant by a wide index ===== -/
theorem pm_ldcwS {p : Program} {l : Launch} {e : Env} {R : Room} {s : State} {m : MethodId} {args : Array Value} {below : List Frame} {meth : Method} {c : Code} {H : Heap} {locs : List Loc} {cells slots : Nat} {Q : State → Prop} {cc : ByteArray} {pc : Nat} {ls : Array Slot} {rest : List Value} (hexec : p.tables.exec = Jvm.exec) (hb : c.code = cc) {own tx : String} {index q : Nat} (hown : s.vm.findClass own = some m.cls) (hZ : vk_R own index tx q s) (hdg : decode cc pc = .ok (.ldc_w index, 3))
    (k : W p l e R s m args below meth c H locs cells slots Q (F0 m (pc + 3) ls (.ref q :: rest))) : W p l e R s m args below meth c H locs cells slots Q (F0 m pc ls rest) := by
  intro T hT X
  obtain ⟨t, a1, b1⟩ := k T hT X
  refine ⟨t, ?_, b1⟩
  obtain ⟨k, cf, i, a', hk, hcf, hcp, -, hr, hev'⟩ := Cond.stringRef_spec hown hZ.1
  cases hZ.2.symm.trans hev'
  obtain ⟨k', hk', he⟩ := X.warmed.alike.2.2 _ _ hk
  have hr' : k'.resolved[index]? = some (some (.string q)) := by
    rcases X.warmed.entry hk hk' index with h | ⟨h, -⟩
    · rw [h]; exact hr
    · rw [hr] at h; cases h
  subst hb
  jvm_step X.here [hexec, hdg, ldc_w.wp_string (e := e) (s := T) (f := F0 m pc ls rest) X.here.top hk' (by rw [he]; exact hcf) hcp hr']
  exact a1
theorem ps_ldsw {X : State → (Nat → Nat) → (Nat → Prop) → Prop} {own : String} {cc : ByteArray} {nL : Nat} {ret : Option FieldType} {pc : Nat} {t : String} {v idx : Nat} (hd : decode cc pc = .ok (.ldc_w idx, 3)) (hq : (own, idx, t, v) ∈ pm_sl) : pm_Snd X own cc nL ret pc (pm_cr v 3) := by
  intro p l e R s m args below meth co cells slots d D cA ad A Q ev hC hE L st σ o h k
  obtain ⟨⟨hx, hb, hml, hown, hts⟩, ⟨hr, hlk⟩, ⟨hR1, hR2, hR3, hR4⟩, hK, hJ, hCt, hX⟩ := hC
  cases h
  exact fun H locs ls hL hP hS => pm_ldcwS hx hb hown (hCt.2.2.2.2.2.1 _ hq) hd (k H locs ls hL hP hS)
theorem pm_ac {X : State → (Nat → Nat) → (Nat → Prop) → Prop} {own : String} {cc : ByteArray} {nL : Nat} {ret : Option FieldType} {pc : Nat} {f : pm_F} {l : List (Nat × pm_F)} (h : pm_Snd X own cc nL ret pc f) (t : pm_all X own cc nL ret l) : pm_all X own cc nL ret ((pc, f) :: l) := ⟨h, t⟩
theorem pm_an {X : State → (Nat → Nat) → (Nat → Prop) → Prop} {own : String} {cc : ByteArray} {nL : Nat} {ret : Option FieldType} : pm_all X own cc nL ret [] := trivial
def pm_ok1 (μ : Nat) (P : List (Nat × pm_F)) : Prop := P = [] ∨ (pm_all (fun _ _ _ => True) (pm_M μ).1.cls (pm_M μ).2.1 (pm_M μ).2.2.1 (pm_M μ).2.2.2 P ∧ plainFor (pm_M μ).1 = true)
def pm_oks : Nat → List (List (Nat × pm_F)) → Prop
  | _, [] => True
  | k, P :: l => pm_ok1 k P ∧ pm_oks (k + 1) l
theorem pm_oc {k : Nat} {P : List (Nat × pm_F)} {l : List (List (Nat × pm_F))} (h : pm_ok1 k P) (t : pm_oks (k + 1) l) : pm_oks k (P :: l) := ⟨h, t⟩
theorem pm_on (k : Nat) : pm_oks k [] := trivial
theorem pm_oks_at : ∀ (l : List (List (Nat × pm_F))) (k i : Nat), pm_oks k l → pm_ok1 (k + i) (l.getD i [])
  | [], _, _, _ => Or.inl rfl
  | P :: l, k, 0, h => h.1
  | P :: l, k, i + 1, h => by
    have := pm_oks_at l (k + 1) i h.2
    rw [show k + 1 + i = k + (i + 1) by omega] at this
    exact this
theorem pm_Ok_of {t : List (List (Nat × pm_F))} (h : pm_oks 0 t) : pm_Ok (fun μ => t.getD μ []) := by
  intro μ
  have := pm_oks_at t 0 μ h
  rw [Nat.zero_add] at this
  exact this
/-! at a loop's head: what is dead is forgotten -/
def pm_kill (L : List Value) : List Nat → List Value
  | [] => L
  | i :: ds => pm_kill (L.set i .null) ds
def pm_kl (ds : List Nat) (f : pm_F) : pm_F := fun ev g => f ev (g.1, pm_kill g.2.1 ds, g.2.2)
theorem pm_L_kill {ad : Nat → Nat} {nL : Nat} {ls : Array Slot} : ∀ (ds : List Nat) (L : List Value), pm_L ad nL L ls → pm_L ad nL (pm_kill L ds) ls
  | [], _, h => h
  | i :: ds, L, h => by
    refine pm_L_kill ds _ ⟨by rw [List.length_set]; exact h.1, h.2.1, h.2.2.1, fun q hq => ?_⟩
    obtain ⟨k, w, h1, h2, rfl⟩ := pm_as_of _ _ _ hq
    by_cases hk : i = k
    · subst hk
      have hl : i < L.length := by
        have := (List.getElem?_eq_some_iff.mp h1).1
        simpa using this
      rw [List.getElem?_set_self hl] at h1
      exact absurd (Option.some.inj h1).symm h2
    · rw [List.getElem?_set_ne hk] at h1
      exact h.2.2.2 _ (pm_as_in L 0 k w h1 h2)
theorem ps_kl {X : State → (Nat → Nat) → (Nat → Prop) → Prop} {own : String} {cc : ByteArray} {nL : Nat} {ret : Option FieldType} {pc : Nat} {ds : List Nat} {f : pm_F} (hf : pm_Snd X own cc nL ret pc f) : pm_Snd X own cc nL ret pc (pm_kl ds f) := by
  intro p l e R s m args below meth co cells slots d D cA ad A Q ev hC hE L st σ o h k
  exact fun H locs ls hL hP hS => hf p l e R s m args below meth co cells slots d D cA ad A Q ev hC hE (pm_kill L ds) st σ o h k H locs ls (pm_L_kill ds L hL) hP hS

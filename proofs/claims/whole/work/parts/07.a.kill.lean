/-! at a loop's head: what is dead is forgotten -/
def pm_kill (L : List Value) : List Nat → List Value
  | [] => L
  | i :: ds => pm_kill (L.set i .null) ds
def pm_kl (ds : List Nat) (f : pm_F) : pm_F := fun ev g => f ev (g.1, pm_kill g.2.1 ds, g.2.2)
theorem pm_L_kill {ad : Nat → Nat} {nL : Nat} {ls : Array Slot} : ∀ (ds : List Nat) (L : List Value), pm_L ad nL L ls → pm_L ad nL (pm_kill L ds) ls
  | [], _, h => h
  | i :: ds, L, h => by
    refine pm_L_kill ds _ ⟨by rw [List.length_set]; exact h.1, h.2.1, h.2.2.1, fun q hq => ?_⟩
    obtain ⟨k, w, h1, h2, rfl⟩ := pm_as_of _ _ _ hq
    by_cases hk : i = k
    · subst hk
      have hl : i < L.length := by
        have := (List.getElem?_eq_some_iff.mp h1).1
        simpa using this
      rw [List.getElem?_set_self hl] at h1
      exact absurd (Option.some.inj h1).symm h2
    · rw [List.getElem?_set_ne hk] at h1
      exact h.2.2.2 _ (pm_as_in L 0 k w h1 h2)
theorem ps_kl {X : State → (Nat → Nat) → (Nat → Prop) → Prop} {own : String} {cc : ByteArray} {nL : Nat} {ret : Option FieldType} {pc : Nat} {ds : List Nat} {f : pm_F} (hf : pm_Snd X own cc nL ret pc f) : pm_Snd X own cc nL ret pc (pm_kl ds f) := by
  intro p l e R s m args below meth co cells slots d D cA ad A Q ev hC hE L st σ o h k
  exact fun H locs ls hL hP hS => hf p l e R s m args below meth co cells slots d D cA ad A Q ev hC hE (pm_kill L ds) st σ o h k H locs ls (pm_L_kill ds L hL) hP hS

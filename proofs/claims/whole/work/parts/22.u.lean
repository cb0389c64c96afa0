/-! ===== the cells as they are made: all ===== -/
theorem wdM_e3 {cA : Nat → ClassId} {q0 q1 qo b : Nat} {u v : cn_U} {adC : Nat → Nat} : ([(qo, .inl (cA 2, 1, .inr (.inl (fun _ => 0))))] : va_W) = [(fun c => (adM q0 q1 qo b u.1 v.1 adC c, enM cA u.2 (adM q0 q1 qo b u.1 v.1 adC) c)) 157] := rfl
theorem wdM_at {cA : Nat → ClassId} {q0 q1 qo b : Nat} {u v : cn_U} {adC : Nat → Nat} : ∀ c, c < 158 → (wdM cA q0 q1 qo (adC 173) (adC 172) u v)[c]? = some ((fun c => (adM q0 q1 qo b u.1 v.1 adC c, enM cA u.2 (adM q0 q1 qo b u.1 v.1 adC) c)) c) := by
  intro c hc
  unfold wdM
  rw [wdM_e1 (q1 := q1) (qo := qo) (b := b) (v := v) (adC := adC), wdM_e2 (cA := cA) (q0 := q0) (q1 := q1) (qo := qo) (b := b) (u := u) (v := v) (adC := adC), wdM_e3 (cA := cA) (q0 := q0) (q1 := q1) (qo := qo) (b := b) (u := u) (v := v) (adC := adC)]
  rcases Nat.lt_or_ge c 133 with h | h
  · rw [List.getElem?_append_left (by simp; omega), List.getElem?_append_left (by simp; omega)]
    simp [h]
  · rcases Nat.lt_or_ge c 157 with h2 | h2
    · rw [List.getElem?_append_left (by simp; omega), List.getElem?_append_right (by simp; omega)]
      rw [List.length_map, List.length_range, List.getElem?_map, List.getElem?_range (by omega)]
      simp only [Option.map_some]
      rw [show 133 + (c - 133) = c by omega]
    · rw [show c = 157 by omega, List.getElem?_append_right (by simp)]
      simp
theorem wdM_P {D : va_G} {cA : Nat → ClassId} {q0 q1 qo b : Nat} {u v : cn_U} {adC : Nat → Nat} {H : Heap} (hP : va_P D vwCl (wdM cA q0 q1 qo (adC 173) (adC 172) u v) H) (h13 : ∀ i, i < 6 → u.2 13 i = some (u.1 (14 + i))) (h43 : ∀ i, i < 13 → u.2 43 i = some (u.1 (44 + 2 * i))) (h78 : ∀ i, i < 4 → u.2 78 i = some (u.1 (79 + i))) (h83 : ∀ i, i < 3 → u.2 83 i = some (u.1 (84 + i))) (h87 : ∀ i, i < 3 → u.2 87 i = some (u.1 (88 + i))) (h92 : ∀ i, i < 40 → u.2 92 i = some (u.1 (93 + i))) : va_P D vwCl (pm_ws cA (adM q0 q1 qo b u.1 v.1 adC) sig0) H := by
  intro k q hk
  obtain ⟨hk', rfl⟩ := pm_ws_of hk
  have hk2 : k < 158 := hk'
  have h : va_at D vwCl (adM q0 q1 qo b u.1 v.1 adC k, enM cA u.2 (adM q0 q1 qo b u.1 v.1 adC) k) H := hP k _ (wdM_at (b := b) k hk2)
  unfold enM at h
  by_cases e13 : k = 13
  · subst e13
    exact at_refs h (fun i hi => (h13 i hi).trans (congrArg some (adM_u (q0 := q0) (q1 := q1) (qo := qo) (b := b) (u := u.1) (v := v.1) (adC := adC) (c := 14 + i) (by omega) (by omega)).symm))
  rw [if_neg e13] at h
  by_cases e43 : k = 43
  · subst e43
    exact at_refs h (fun i hi => (h43 i hi).trans (congrArg some (adM_u (q0 := q0) (q1 := q1) (qo := qo) (b := b) (u := u.1) (v := v.1) (adC := adC) (c := 44 + 2 * i) (by omega) (by omega)).symm))
  rw [if_neg e43] at h
  by_cases e78 : k = 78
  · subst e78
    exact at_refs h (fun i hi => (h78 i hi).trans (congrArg some (adM_u (q0 := q0) (q1 := q1) (qo := qo) (b := b) (u := u.1) (v := v.1) (adC := adC) (c := 79 + i) (by omega) (by omega)).symm))
  rw [if_neg e78] at h
  by_cases e83 : k = 83
  · subst e83
    exact at_refs h (fun i hi => (h83 i hi).trans (congrArg some (adM_u (q0 := q0) (q1 := q1) (qo := qo) (b := b) (u := u.1) (v := v.1) (adC := adC) (c := 84 + i) (by omega) (by omega)).symm))
  rw [if_neg e83] at h
  by_cases e87 : k = 87
  · subst e87
    exact at_refs h (fun i hi => (h87 i hi).trans (congrArg some (adM_u (q0 := q0) (q1 := q1) (qo := qo) (b := b) (u := u.1) (v := v.1) (adC := adC) (c := 88 + i) (by omega) (by omega)).symm))
  rw [if_neg e87] at h
  by_cases e92 : k = 92
  · subst e92
    exact at_refs h (fun i hi => (h92 i hi).trans (congrArg some (adM_u (q0 := q0) (q1 := q1) (qo := qo) (b := b) (u := u.1) (v := v.1) (adC := adC) (c := 93 + i) (by omega) (by omega)).symm))
  rw [if_neg e92] at h
  exact h
theorem wdM_J {cA : Nat → ClassId} {q0 q1 qo b : Nat} {u v : cn_U} {adC : Nat → Nat} {A : Nat → Prop} (hD : va_D A (wdM cA q0 q1 qo (adC 173) (adC 172) u v)) : pm_J (adM q0 q1 qo b u.1 v.1 adC) A :=
  ⟨fun i j hi hj e => hD.1 i j _ _ (wdM_at (b := b) i hi) (wdM_at (b := b) j hj) e, fun i hi => hD.2 i _ (wdM_at (b := b) i hi)⟩

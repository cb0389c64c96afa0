/-! ===== text: LAWS with one more ===== -/
theorem cod_ext {f g : Nat → Int32} : ∀ (c : List Int32) (m : Nat), (∀ j, m ≤ j → j < m + c.length → g j = f j) → cod f m c → cod g m c
  | [], m, h, hc => trivial
  | x :: c, m, h, hc => by
    refine ⟨?_, cod_ext c (m + 1) (fun j h1 h2 => h j (by omega) (by rw [List.length_cons]; omega)) hc.2⟩
    rw [h m (Nat.le_refl _) (by rw [List.length_cons]; omega)]
    exact hc.1
theorem pts_lo : ∀ (c : List Int32) (s : Nat → Int32) (m j : Nat), j < m → pts s m c j = s j
  | [], s, m, j, h => rfl
  | x :: c, s, m, j, h => by
    show pts (upd s m x) (m + 1) c j = s j
    rw [pts_lo c _ (m + 1) j (by omega), up_ne _ _ (by omega)]
theorem cod_pts : ∀ (c : List Int32) (s : Nat → Int32) (m : Nat), cod (pts s m c) m c
  | [], s, m => trivial
  | x :: c, s, m => by
    refine ⟨?_, cod_pts c (upd s m x) (m + 1)⟩
    show pts (upd s m x) (m + 1) c m = x
    rw [pts_lo c _ (m + 1) m (by omega), up_at]

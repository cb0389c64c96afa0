/-! ===== text: LAWS with one more ===== -/
theorem cod_ext {f g : Nat → Int32} : ∀ (c : List Int32) (m : Nat), (∀ j, m ≤ j → j < m + c.length → g j = f j) → cod f m c → cod g m c
  | [], m, h, hc => trivial
  | x :: c, m, h, hc => by
    refine ⟨?_, cod_ext c (m + 1) (fun j h1 h2 => h j (by omega) (by rw [List.length_cons]; omega)) hc.2⟩
    rw [h m (Nat.le_refl _) (by rw [List.length_cons]; omega)]
    exact hc.1
theorem pts_lo : ∀ (c : List Int32) (s : Nat → Int32) (m j : Nat), j < m → pts s m c j = s j
  | [], s, m, j, h => rfl
  | x :: c, s, m, j, h => by
    show pts (upd s m x) (m + 1) c j = s j
    rw [pts_lo c _ (m + 1) j (by omega), up_ne _ _ (by omega)]
theorem cod_pts : ∀ (c : List Int32) (s : Nat → Int32) (m : Nat), cod (pts s m c) m c
  | [], s, m => trivial
  | x :: c, s, m => by
    refine ⟨?_, cod_pts c (upd s m x) (m + 1)⟩
    show pts (upd s m x) (m + 1) c m = x
    rw [pts_lo c _ (m + 1) m (by omega), up_at]
theorem LW_grow {nl n : Nat} {V : Nat → LV → Int32} {σ σ' : pm_H} {b : Nat → Nat} {c : List Int32} {v : LV → Option Int32} {q : Nat} (w : LW nl V σ) (hnl : nl < 6) (hb : okb b n) (hp : pLaw b n = .inr (c, v, q)) (ht : R_t σ') (h5 : σ'.1 12 5 = nI (nl + 1)) (h6 : σ'.1 12 6 = σ.1 12 6) (h7 : σ'.1 12 7 = σ.1 12 7) (h20 : σ'.1 20 nl = nI c.length ∧ ∀ j, j < nl → σ'.1 20 j = σ.1 20 j) (h14 : cod (σ'.1 (14 + nl)) 0 c ∧ ∀ j, j < nl → σ'.1 (14 + j) = σ.1 (14 + j)) (m7 : σ'.1 133 7 = nI (nl + 1)) (m27 : σ'.1 133 27 = σ.1 133 27) (m28 : σ'.1 133 28 = σ.1 133 28) (m136 : σ'.1 136 nl = nI n ∧ ∀ j, j < nl → σ'.1 136 j = σ.1 136 j) (m135 : (∀ j, j < n → σ'.1 135 (240 * nl + j) = byt (b j)) ∧ ∀ j, j < 240 * nl → σ'.1 135 j = σ.1 135 j) (hO : sameO σ σ') (hL : bdL (LM σ')) : LW (nl + 1) (fun j => if j = nl then wv v else V j) σ' := by
  obtain ⟨-, ⟨c1, c2, c3⟩, ⟨m1, m2, m3⟩, o, -, ⟨f1, f2⟩, o1, o2⟩ := w
  have up : ∀ x, lawok nl x → lawok (nl + 1) x := fun x hx => by
    rcases hx with hx | ⟨j, hj, hx⟩
    · exact Or.inl hx
    · exact Or.inr ⟨j, by omega, hx⟩
  refine ⟨ht, ⟨by omega, h5, fun j hj => ?_⟩, ⟨by omega, m7, fun j hj => ?_⟩, fun p hp' => ?_, hL, ⟨by rw [m27, h6]; exact f1, by rw [m28, h7]; exact f2⟩, by rw [h6]; exact up _ o1, by rw [h7]; exact up _ o2⟩
  · by_cases e : j = nl
    · subst e
      refine ⟨c, h20.1, ?_, h14.1, fun L hL => ?_⟩
      · have hb0 : bdL (fun _ => 0) := fun i _ => bd_nI (a := 0) (by omega)
        have := (pLaw_run hp hb0).2.2
        have := hb.1
        omega
      · show wrun L c false [] = some ((if j = j then wv v else V j) L) ∧ bd ((if j = j then wv v else V j) L)
        rw [if_pos rfl]
        have := pLaw_run hp hL
        exact ⟨this.1, this.2.1⟩
    · obtain ⟨cc, a1, a2, a3, a4⟩ := c3 j (by omega)
      refine ⟨cc, by rw [h20.2 j (by omega)]; exact a1, a2, by rw [h14.2 j (by omega)]; exact a3, fun L hL => ?_⟩
      show wrun L cc false [] = some ((if j = nl then wv v else V j) L) ∧ bd ((if j = nl then wv v else V j) L)
      rw [if_neg e]
      exact a4 L hL
  · by_cases e : j = nl
    · subst e
      exact ⟨b, n, c, v, q, hb, hp, if_pos rfl, m136.1, m135.1⟩
    · obtain ⟨b', n', c', v', q', a1, a2, a3, a4, a5⟩ := m3 j (by omega)
      refine ⟨b', n', c', v', q', a1, a2, (if_neg e).trans a3, by rw [m136.2 j (by omega)]; exact a4, fun i hi => ?_⟩
      have hn' := a1.1
      rw [m135.2 _ (by omega)]
      exact a5 i hi
  · rw [hO.1, hO.2]
    rcases o p hp' with h | ⟨W, I, D, T, C, B, j, r1, r2, r3, r4⟩
    · exact Or.inl h
    · refine Or.inr ⟨W, I, D, T, C, B, j, r1, by omega, r3, ?_⟩
      show _ = (if j = nl then wv v else V j) _
      rw [if_neg (by omega)]
      exact r4

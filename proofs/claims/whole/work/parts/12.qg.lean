/-! ===== a lift keeps the rows together ===== -/
theorem mx_eq (a b : Int32) : (if a < b then b else a) = (if b < a then a else b) := by
  by_cases h : a < b
  · have h2 : ¬ b < a := Int32.not_lt.mpr (Int32.le_of_lt h)
    rw [if_pos h, if_neg h2]
  · by_cases h2 : b < a
    · rw [if_neg h, if_pos h2]
    · rw [if_neg h, if_neg h2]
      exact Int32.le_antisymm (Int32.not_lt.mp h2) (Int32.not_lt.mp h)
theorem rel_made {sz : Nat} {t r t' r' f w : Nat → Int32} {who n rd : Nat} (li : Int32) (good : Bool) (hr : relW sz f w) (hs : sz ≤ 6) (hw : who < sz) (h0 : f 0 = nI rd) (hrd : rd < 2) (hn : n < 36) (ht : t' (10 * who + 9) = t (who * 10 + 9)) (hr0 : r' 0 = r 0) (hr2 : r' 2 = r 2) : relW sz (g_made t r f who good) (h_made t' r' w n who li good rd) := by
  obtain ⟨⟨a0, a1, a2, a3, a4⟩, hk⟩ := hr
  obtain ⟨⟨b0, b1, b2, b3, b4⟩, b5, b6, b7, b8, b9⟩ := hk who hw
  unfold g_made h_made
  rw [a2, a3, b0]
  generalize f 2 + (if f 3 = nI who then nI 2 else nI 1) = mi
  generalize hwt : f (5 + who) = wt
  unfold g_mk2 h_mk2
  rw [ht, hr0, hr2, mx_eq (t (who * 10 + 9)) (r 2)]
  generalize (if r 2 < t (who * 10 + 9) then t (who * 10 + 9) else r 2) = more
  have z0 : ¬ nI 1 = (0 : Int32) := by decide
  have z1 : nI 0 = (0 : Int32) := by decide
  cases good with
  | false =>
    refine ⟨⟨?_, ?_, ?_, ?_, ?_⟩, fun l hl => ?_⟩
    · simp (disch := omega) only [up_ne, up_at, Bool.false_eq_true, if_false, a0]
    · simp (disch := omega) only [up_ne, up_at, Bool.false_eq_true, if_false]
    · simp (disch := omega) only [up_ne, up_at, Bool.false_eq_true, if_false]
    · simp (disch := omega) only [up_ne, up_at, Bool.false_eq_true, if_false]
    · simp (disch := omega) only [up_ne, up_at, Bool.false_eq_true, if_false, a4]
    · obtain ⟨⟨c0, c1, c2, c3, c4⟩, c5, c6, c7, c8, c9⟩ := hk l hl
      by_cases e : l = who
      · subst e
        refine ⟨⟨?_, ?_, ?_, ?_, ?_⟩, ?_, ?_, ?_, ?_, ?_⟩ <;> simp (disch := omega) only [up_ne, up_at, Bool.false_eq_true, if_false, b0, b1, b2, b3, b6, b7, b9]
      · refine ⟨⟨?_, ?_, ?_, ?_, ?_⟩, ?_, ?_, ?_, ?_, ?_⟩ <;> simp (disch := omega) only [up_ne, Bool.false_eq_true, if_false, c0, c1, c2, c3, c4, c5, c6, c7, c8, c9]
  | true =>
    rcases (show rd = 0 ∨ rd = 1 by omega) with rfl | rfl
    · have z2 : ¬ (0 = 1) := by decide
      refine ⟨⟨?_, ?_, ?_, ?_, ?_⟩, fun l hl => ?_⟩
      · simp (disch := omega) only [up_ne, up_at, if_true, z2, if_false, a0, h0, z1]
      · simp (disch := omega) only [up_ne, up_at, if_true, z2, if_false, a0, h0, z1]
      · simp (disch := omega) only [up_ne, up_at, if_true, z2, if_false, a0, h0, z1]
      · simp (disch := omega) only [up_ne, up_at, if_true, z2, if_false, a0, h0, z1]
      · simp (disch := omega) only [up_ne, up_at, if_true, z2, if_false, a4, h0, z1]
      · obtain ⟨⟨c0, c1, c2, c3, c4⟩, c5, c6, c7, c8, c9⟩ := hk l hl
        by_cases e : l = who
        · subst e
          refine ⟨⟨?_, ?_, ?_, ?_, ?_⟩, ?_, ?_, ?_, ?_, ?_⟩ <;> simp (disch := omega) only [up_ne, up_at, if_true, z2, if_false, h0, z1, Nat.add_zero, b0, b1, b2, b3, b6, b7, b9]
        · refine ⟨⟨?_, ?_, ?_, ?_, ?_⟩, ?_, ?_, ?_, ?_, ?_⟩ <;> simp (disch := omega) only [up_ne, if_true, z2, if_false, h0, z1, c0, c1, c2, c3, c4, c5, c6, c7, c8, c9]
    · refine ⟨⟨?_, ?_, ?_, ?_, ?_⟩, fun l hl => ?_⟩
      · simp (disch := omega) only [up_ne, up_at, if_true, if_false, a0, h0, z0]
      · simp (disch := omega) only [up_ne, up_at, if_true, if_false, a0, h0, z0]
      · simp (disch := omega) only [up_ne, up_at, if_true, if_false, a0, h0, z0]
      · simp (disch := omega) only [up_ne, up_at, if_true, if_false, a0, h0, z0]
      · simp (disch := omega) only [up_ne, up_at, if_true, if_false, a4, h0, z0]
      · obtain ⟨⟨c0, c1, c2, c3, c4⟩, c5, c6, c7, c8, c9⟩ := hk l hl
        by_cases e : l = who
        · subst e
          refine ⟨⟨?_, ?_, ?_, ?_, ?_⟩, ?_, ?_, ?_, ?_, ?_⟩ <;> simp (disch := omega) only [up_ne, up_at, if_true, if_false, h0, z0, Nat.reduceAdd, Nat.add_assoc, b0, b1, b2, b3, b6, b7, b9]
        · refine ⟨⟨?_, ?_, ?_, ?_, ?_⟩, ?_, ?_, ?_, ?_, ?_⟩ <;> simp (disch := omega) only [up_ne, if_true, if_false, h0, z0, c0, c1, c2, c3, c4, c5, c6, c7, c8, c9]
/-! ===== and so does the going on ===== -/
theorem rel_jerk1 {sz : Nat} {t r t' r' f w : Nat → Int32} {i : Nat} (hr : relW sz f w) (hs : sz ≤ 6) (hi : i < sz) (hb : sm (f (53 + i)) 1000) (hh : f (47 + i) = nI 0 ∨ f (47 + i) = nI 1) (ht : t' (10 * i + 8) = t (i * 10 + 8)) (hr0 : r' 0 = r 0) : relW sz (g_jerk1 t r f i) (h_jerk1 t' r' w i) := by
  obtain ⟨⟨a0, a1, a2, a3, a4⟩, hk⟩ := hr
  obtain ⟨⟨b0, b1, b2, b3, b4⟩, b5, b6, b7, b8, b9⟩ := hk i hi
  unfold g_jerk1 h_jerk1 g_start
  rw [b2, b6, a2, ht, hr0]
  have z0 : ¬ nI 1 = (0 : Int32) := by decide
  have z1 : nI 0 = (0 : Int32) := by decide
  have z2 : ¬ nI 0 = nI 1 := by decide
  have hpos : (0 < f (53 + i)) = ¬ (f (53 + i) = 0) := by
    obtain ⟨k, hk', e⟩ := hb
    rw [e, ← nI_0]
    refine propext ?_
    rw [nI_ltI (by omega) (by omega), nI_eq (by omega) (by omega)]
    omega
  simp only [hpos]
  have fin : ∀ (F G : Nat → Int32), (F 0 = f 0 ∧ F 1 = f 1 ∧ F 2 = f 2 ∧ F 3 = f 3 ∧ F 4 = f 4) → (G 66 = w 66 ∧ G 67 = w 67 ∧ G 68 = w 68 ∧ G 69 = w 69 ∧ G 70 = w 70) →
      (∀ l, l < sz → l ≠ i → (F (5 + l) = f (5 + l) ∧ F (11 + l) = f (11 + l) ∧ F (53 + l) = f (53 + l) ∧ F (59 + l) = f (59 + l) ∧ F (17 + l) = f (17 + l)) ∧ (F (23 + l) = f (23 + l) ∧ F (47 + l) = f (47 + l) ∧ F (29 + l) = f (29 + l) ∧ F (41 + l) = f (41 + l) ∧ F (35 + l) = f (35 + l))) →
      (∀ l, l < sz → l ≠ i → (G (11 * l + 0) = w (11 * l + 0) ∧ G (11 * l + 1) = w (11 * l + 1) ∧ G (11 * l + 2) = w (11 * l + 2) ∧ G (11 * l + 3) = w (11 * l + 3) ∧ G (11 * l + 4) = w (11 * l + 4)) ∧ (G (11 * l + 5) = w (11 * l + 5) ∧ G (11 * l + 6) = w (11 * l + 6) ∧ G (11 * l + 7) = w (11 * l + 7) ∧ G (11 * l + 8) = w (11 * l + 8) ∧ G (11 * l + 9) = w (11 * l + 9))) →
      ((G (11 * i + 0) = F (5 + i) ∧ G (11 * i + 1) = F (11 + i) ∧ G (11 * i + 2) = F (53 + i) ∧ G (11 * i + 3) = F (59 + i) ∧ G (11 * i + 4) = F (17 + i)) ∧ (G (11 * i + 5) = F (23 + i) ∧ G (11 * i + 6) = F (47 + i) ∧ G (11 * i + 7) = F (29 + i) ∧ G (11 * i + 8) = F (41 + i) ∧ G (11 * i + 9) = F (35 + i))) → relW sz F G := by
    intro F G h1 h2 h3 h4 h5
    obtain ⟨p0, p1, p2, p3, p4⟩ := h1
    obtain ⟨q0, q1, q2, q3, q4⟩ := h2
    refine ⟨⟨by rw [q0, p0, a0], by rw [q1, p1, a1], by rw [q2, p2, a2], by rw [q3, p3, a3], by rw [q4, p4, a4]⟩, fun l hl => ?_⟩
    by_cases e : l = i
    · subst e
      exact h5
    · obtain ⟨⟨c0, c1, c2, c3, c4⟩, c5, c6, c7, c8, c9⟩ := hk l hl
      obtain ⟨⟨d0, d1, d2, d3, d4⟩, d5, d6, d7, d8, d9⟩ := h3 l hl e
      obtain ⟨⟨e0, e1, e2, e3, e4⟩, e5, e6, e7, e8, e9⟩ := h4 l hl e
      exact ⟨⟨by rw [e0, d0, c0], by rw [e1, d1, c1], by rw [e2, d2, c2], by rw [e3, d3, c3], by rw [e4, d4, c4]⟩, by rw [e5, d5, c5], by rw [e6, d6, c6], by rw [e7, d7, c7], by rw [e8, d8, c8], by rw [e9, d9, c9]⟩
  by_cases h1 : f (53 + i) = 0
  · simp only [h1, not_true, if_true, if_false]
    refine fin _ _ ⟨?_, ?_, ?_, ?_, ?_⟩ ⟨?_, ?_, ?_, ?_, ?_⟩ (fun l hl e => ⟨⟨?_, ?_, ?_, ?_, ?_⟩, ?_, ?_, ?_, ?_, ?_⟩) (fun l hl e => ⟨⟨?_, ?_, ?_, ?_, ?_⟩, ?_, ?_, ?_, ?_, ?_⟩) ⟨⟨?_, ?_, ?_, ?_, ?_⟩, ?_, ?_, ?_, ?_, ?_⟩ <;> simp (disch := omega) only [up_ne, up_at, b0, b1, b2, b3, b4, b5, b6, b7, b8, b9]
  · rcases hh with h2 | h2
    · have h2a : (f (47 + i) = 0) = True := eq_true (by rw [h2]; decide)
      have h2b : (f (47 + i) = nI 1) = False := eq_false (by rw [h2]; decide)
      simp only [h1, h2a, h2b, not_false_eq_true, if_true, if_false]
      refine fin _ _ ⟨?_, ?_, ?_, ?_, ?_⟩ ⟨?_, ?_, ?_, ?_, ?_⟩ (fun l hl e => ⟨⟨?_, ?_, ?_, ?_, ?_⟩, ?_, ?_, ?_, ?_, ?_⟩) (fun l hl e => ⟨⟨?_, ?_, ?_, ?_, ?_⟩, ?_, ?_, ?_, ?_, ?_⟩) ⟨⟨?_, ?_, ?_, ?_, ?_⟩, ?_, ?_, ?_, ?_, ?_⟩ <;> simp (disch := omega) only [up_ne, up_at, b0, b1, b2, b3, b4, b5, b6, b7, b8, b9]
    · have h2a : (f (47 + i) = 0) = False := eq_false (by rw [h2]; decide)
      have h2b : (f (47 + i) = nI 1) = True := eq_true h2
      simp only [h1, h2a, h2b, not_false_eq_true, if_true, if_false]
      refine fin _ _ ⟨?_, ?_, ?_, ?_, ?_⟩ ⟨?_, ?_, ?_, ?_, ?_⟩ (fun l hl e => ⟨⟨?_, ?_, ?_, ?_, ?_⟩, ?_, ?_, ?_, ?_, ?_⟩) (fun l hl e => ⟨⟨?_, ?_, ?_, ?_, ?_⟩, ?_, ?_, ?_, ?_, ?_⟩) ⟨⟨?_, ?_, ?_, ?_, ?_⟩, ?_, ?_, ?_, ?_, ?_⟩ <;> simp (disch := omega) only [up_ne, up_at, b0, b1, b2, b3, b4, b5, b6, b7, b8, b9, h2]
/-- what the beginning of the jerk needs of the rows -/
def okB (sz : Nat) (f : Nat → Int32) : Prop := ∀ l, l < sz → sm (f (53 + l)) 1000 ∧ (f (47 + l) = nI 0 ∨ f (47 + l) = nI 1)
theorem jerk1_ne {t r f : Nat → Int32} {i l : Nat} (h : l ≠ i) (hi : i < 6) (hl : l < 6) : g_jerk1 t r f i (53 + l) = f (53 + l) ∧ g_jerk1 t r f i (47 + l) = f (47 + l) := by
  unfold g_jerk1 g_start
  by_cases h1 : 0 < f (53 + i)
  · by_cases h2 : f (47 + i) = 0
    · simp only [h1, h2, if_true]
      exact ⟨by simp (disch := omega) only [up_ne], by simp (disch := omega) only [up_ne]⟩
    · simp only [h1, h2, if_true, if_false]
      exact ⟨by simp (disch := omega) only [up_ne], by simp (disch := omega) only [up_ne]⟩
  · simp only [h1, if_false]
    exact ⟨by simp (disch := omega) only [up_ne], by simp (disch := omega) only [up_ne]⟩
theorem rel_jerkL {sz : Nat} {t r t' r' : Nat → Int32} (hs : sz ≤ 6) (ht : ∀ l, l < sz → t' (10 * l + 8) = t (l * 10 + 8)) (hr0 : r' 0 = r 0) : ∀ (k i : Nat) (f w : Nat → Int32), i + k = sz → relW sz f w → (∀ l, i ≤ l → l < sz → sm (f (53 + l)) 1000 ∧ (f (47 + l) = nI 0 ∨ f (47 + l) = nI 1)) → relW sz (g_jerkL t r i k f) (h_jerkL t' r' i k w)
  | 0, _, _, _, _, hr, _ => hr
  | k + 1, i, f, w, h, hr, hb => by
    unfold g_jerkL h_jerkL
    have hi := hb i (Nat.le_refl i) (by omega)
    refine rel_jerkL hs ht hr0 k (i + 1) _ _ (by omega) (rel_jerk1 hr hs (by omega) hi.1 hi.2 (ht i (by omega)) hr0) (fun l h1 h2 => ?_)
    obtain ⟨e1, e2⟩ := jerk1_ne (t := t) (r := r) (f := f) (i := i) (l := l) (by omega) (by omega) (by omega)
    rw [e1, e2]
    exact hb l (by omega) h2
theorem rel_up3 {sz : Nat} {f w : Nat → Int32} (hs : sz ≤ 6) (hr : relW sz f w) (a b c : Int32) : relW sz (upd (upd (upd f 0 a) 1 b) 3 c) (upd (upd (upd w 66 a) 67 b) 69 c) := by
  obtain ⟨⟨a0, a1, a2, a3, a4⟩, hk⟩ := hr
  refine ⟨⟨?_, ?_, ?_, ?_, ?_⟩, fun l hl => ?_⟩
  · simp (disch := omega) only [up_ne, up_at]
  · simp (disch := omega) only [up_ne, up_at]
  · simp (disch := omega) only [up_ne, up_at, a2]
  · simp (disch := omega) only [up_ne, up_at]
  · simp (disch := omega) only [up_ne, up_at, a4]
  · obtain ⟨⟨c0, c1, c2, c3, c4⟩, c5, c6, c7, c8, c9⟩ := hk l hl
    refine ⟨⟨?_, ?_, ?_, ?_, ?_⟩, ?_, ?_, ?_, ?_, ?_⟩ <;> simp (disch := omega) only [up_ne, c0, c1, c2, c3, c4, c5, c6, c7, c8, c9]
theorem rel_up0 {sz : Nat} {f w : Nat → Int32} (hs : sz ≤ 6) (hr : relW sz f w) (a : Int32) : relW sz (upd f 0 a) (upd w 66 a) := by
  obtain ⟨⟨a0, a1, a2, a3, a4⟩, hk⟩ := hr
  refine ⟨⟨?_, ?_, ?_, ?_, ?_⟩, fun l hl => ?_⟩
  · simp (disch := omega) only [up_ne, up_at]
  · simp (disch := omega) only [up_ne, up_at, a1]
  · simp (disch := omega) only [up_ne, up_at, a2]
  · simp (disch := omega) only [up_ne, up_at, a3]
  · simp (disch := omega) only [up_ne, up_at, a4]
  · obtain ⟨⟨c0, c1, c2, c3, c4⟩, c5, c6, c7, c8, c9⟩ := hk l hl
    refine ⟨⟨?_, ?_, ?_, ?_, ?_⟩, ?_, ?_, ?_, ?_, ?_⟩ <;> simp (disch := omega) only [up_ne, c0, c1, c2, c3, c4, c5, c6, c7, c8, c9]
/-- nobody, by counting -/
theorem cnt_le (p : Nat → Bool) : ∀ k i : Nat, ∃ n, n ≤ k ∧ cnt p i k = nI n ∧ (n = 0 ↔ non p i k = true)
  | 0, _ => ⟨0, Nat.le_refl 0, rfl, by simp [non]⟩
  | k + 1, i => by
    obtain ⟨n, h1, h2, h3⟩ := cnt_le p k (i + 1)
    unfold cnt non
    rw [h2]
    cases hp : p i
    · exact ⟨n, by omega, by show nI 0 + nI n = nI n; rw [nI_add, Nat.zero_add], by simp [h3]⟩
    · exact ⟨1 + n, by omega, by show nI 1 + nI n = _; rw [nI_add], by simp⟩
theorem cnt_0 (p : Nat → Bool) {sz : Nat} (hs : sz ≤ 6) : (cnt p 0 sz = 0) = (non p 0 sz = true) := by
  obtain ⟨n, h1, h2, h3⟩ := cnt_le p sz 0
  rw [h2, ← nI_0, propext (nI_eq (by omega) (by omega)), propext h3]
theorem non_eq {p p' : Nat → Bool} {sz : Nat} (hp : ∀ l, l < sz → p l = p' l) : ∀ (k i : Nat), i + k = sz → non p i k = non p' i k
  | 0, _, _ => rfl
  | k + 1, i, h => by
    unfold non
    rw [hp i (by omega), non_eq hp k (i + 1) (by omega)]
/-- IN by the reference is IN, while the round isn't over -/
theorem on_in2 {sz : Nat} {r r' f w : Nat → Int32} (hr : relW sz f w) (hr1 : r' 1 = r 1) (h : f 0 < nI 2) {l : Nat} (hl : l < sz) : m_on r' w l = s_in r f l := by
  obtain ⟨⟨h0, -⟩, hk⟩ := hr
  obtain ⟨⟨-, h1, -, -, h4⟩, -, h6, -⟩ := hk l hl
  unfold m_on s_in
  rw [h0, h1, h4, h6, hr1]
  simp only [h, decide_true, Bool.true_and]
  cases decide (f (11 + l) < r 1) <;> cases decide (f (47 + l) = 0) <;> cases decide (nI 99 < f (17 + l)) <;> rfl
theorem rel_over {sz : Nat} {r r' f w : Nat → Int32} (hs : sz ≤ 6) (hr : relW sz f w) (hr1 : r' 1 = r 1) : relW sz (g_over sz r f) (h_over sz r' w) := by
  unfold g_over h_over
  rw [hr.1.1]
  by_cases h : f 0 = nI 1
  · rw [if_pos h, if_pos h, non_eq (p := s_in r f) (p' := m_on r' w) (fun l hl => (on_in2 hr hr1 (by rw [h]; decide) hl).symm) sz 0 (by omega)]
    simp only [cnt_0 _ hs]
    cases hn : non (m_on r' w) 0 sz
    · simp only [Bool.false_eq_true, if_false]
      exact hr
    · simp only [if_true]
      exact rel_up0 hs hr _
  · rw [if_neg h, if_neg h]
    exact hr
theorem rel_on {sz : Nat} {t r t' r' f w : Nat → Int32} (hs : sz ≤ 6) (hr : relW sz f w) (hb : okB sz f) (ht : ∀ l, l < sz → t' (10 * l + 8) = t (l * 10 + 8)) (hr0 : r' 0 = r 0) (hr1 : r' 1 = r 1) : relW sz (g_on sz t r f) (h_on sz t' r' w) := by
  unfold g_on h_on
  rw [hr.1.1]
  refine rel_over hs ?_ hr1
  by_cases h : f 0 = nI 0
  · have h' : f 0 = 0 := by rw [h]; rfl
    rw [if_pos h, if_pos h', non_eq (p := s_in r f) (p' := m_on r' w) (fun l hl => (on_in2 hr hr1 (by rw [h]; decide) hl).symm) sz 0 (by omega)]
    simp only [cnt_0 _ hs]
    cases hn : non (m_on r' w) 0 sz
    · simp only [Bool.false_eq_true, if_false]
      exact hr
    · simp only [if_true]
      unfold g_jerk h_jerk
      rw [hr.1.1, h, nI_add]
      refine rel_jerkL hs ht hr0 sz 0 _ _ (by omega) (rel_up3 hs hr _ _ _) (fun l _ hl => ?_)
      simp (disch := omega) only [up_ne]
      exact hb l hl
  · have h' : ¬ f 0 = 0 := fun e => h (by rw [e]; rfl)
    rw [if_neg h, if_neg h']
    exact hr

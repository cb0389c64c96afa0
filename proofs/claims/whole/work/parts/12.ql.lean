/-! ===== what a lift and the going on leave as it was ===== -/
theorem g_jerk1_hi (t r f : Nat → Int32) {l j : Nat} (hl : l < 6) (hj : 53 ≤ j ∨ 29 ≤ j ∧ j < 41) : g_jerk1 t r f l j = f j := by
  unfold g_jerk1 g_start
  by_cases h1 : 0 < f (53 + l)
  · by_cases h2 : f (47 + l) = 0
    · simp only [h1, h2, if_true]
      simp (disch := omega) only [up_ne]
    · simp only [h1, h2, if_true, if_false]
      simp (disch := omega) only [up_ne]
  · simp only [h1, if_false]
    simp (disch := omega) only [up_ne]
theorem g_jerkL_hi (t r : Nat → Int32) {j : Nat} (hj : 53 ≤ j ∨ 29 ≤ j ∧ j < 41) : ∀ (k i : Nat) (f : Nat → Int32), i + k ≤ 6 → g_jerkL t r i k f j = f j
  | 0, _, _, _ => rfl
  | k + 1, i, f, h => by
    unfold g_jerkL
    rw [g_jerkL_hi t r hj k (i + 1) _ (by omega), g_jerk1_hi t r f (by omega) hj]
theorem g_over_ne (sz : Nat) (r f : Nat → Int32) {j : Nat} (hj : j ≠ 0) : g_over sz r f j = f j := by
  unfold g_over
  by_cases h : f 0 = nI 1
  · rw [if_pos h]
    cases non (s_in r f) 0 sz
    · rfl
    · exact up_ne f _ hj
  · rw [if_neg h]
theorem g_on_hi {sz : Nat} (hs : sz ≤ 6) (t r f : Nat → Int32) {j : Nat} (hj : 53 ≤ j ∨ 29 ≤ j ∧ j < 41) : g_on sz t r f j = f j := by
  unfold g_on
  rw [g_over_ne sz r _ (by omega)]
  by_cases h : f 0 = 0
  · rw [if_pos h]
    cases non (s_in r f) 0 sz
    · rfl
    · simp only [if_true]
      unfold g_jerk
      rw [g_jerkL_hi t r hj sz 0 _ (by omega)]
      simp (disch := omega) only [up_ne]
  · rw [if_neg h]
theorem g_on_0 {sz : Nat} (t r f : Nat → Int32) (h : g_on sz t r f 0 = 0) : f 0 = 0 := by
  unfold g_on at h
  by_cases h0 : f 0 = 0
  · exact h0
  · rw [if_neg h0] at h
    unfold g_over at h
    by_cases h1 : f 0 = nI 1
    · rw [if_pos h1] at h
      revert h
      cases non (s_in r f) 0 sz
      · exact id
      · simp only [if_true, up_at]
        exact fun e => absurd e (by decide)
    · rw [if_neg h1] at h
      exact h
/-- the places of a row that the beginning of the jerk may change -/
def jkp (j : Nat) : Prop := 70 ≤ j ∨ ∃ l, l < 6 ∧ (j = 11 * l + 2 ∨ j = 11 * l + 3 ∨ j = 11 * l + 7 ∨ j = 11 * l + 9 ∨ j = 11 * l + 10)
theorem h_jerk1_keep (t r w : Nat → Int32) {l j : Nat} (hl : l < 6) (hj : jkp j) : h_jerk1 t r w l j = w j := by
  have h6 : j ≠ 11 * l + 0 ∧ j ≠ 11 * l + 1 ∧ j ≠ 11 * l + 4 ∧ j ≠ 11 * l + 5 ∧ j ≠ 11 * l + 6 ∧ j ≠ 11 * l + 8 := by
    rcases hj with h | ⟨m, hm, h⟩ <;> omega
  obtain ⟨n0, n1, n4, n5, n6, n8⟩ := h6
  unfold h_jerk1
  by_cases h1 : w (11 * l + 2) = 0
  · simp only [h1, if_true, up_ne _ _ n0, up_ne _ _ n1, up_ne _ _ n4, up_ne _ _ n5, up_ne _ _ n6, up_ne _ _ n8]
  · by_cases h2 : w (11 * l + 6) = nI 1
    · simp only [h1, h2, if_true, if_false, up_ne _ _ n0, up_ne _ _ n1, up_ne _ _ n4, up_ne _ _ n5, up_ne _ _ n6, up_ne _ _ n8]
    · simp only [h1, h2, if_false, up_ne _ _ n0, up_ne _ _ n1, up_ne _ _ n4, up_ne _ _ n5, up_ne _ _ n6, up_ne _ _ n8]
theorem h_jerkL_keep (t r : Nat → Int32) {j : Nat} (hj : jkp j) : ∀ (k i : Nat) (w : Nat → Int32), i + k ≤ 6 → h_jerkL t r i k w j = w j
  | 0, _, _, _ => rfl
  | k + 1, i, w, h => by
    unfold h_jerkL
    rw [h_jerkL_keep t r hj k (i + 1) _ (by omega), h_jerk1_keep t r w (by omega) hj]
theorem h_over_ne (sz : Nat) (r w : Nat → Int32) {j : Nat} (hj : j ≠ 66) : h_over sz r w j = w j := by
  unfold h_over
  by_cases h : w 66 = nI 1
  · rw [if_pos h]
    by_cases h2 : cnt (m_on r w) 0 sz = 0
    · rw [if_pos h2]; exact up_ne w _ hj
    · rw [if_neg h2]
  · rw [if_neg h]
theorem h_on_keep {sz : Nat} (hs : sz ≤ 6) (t r w : Nat → Int32) {j : Nat} (hj : jkp j) : h_on sz t r w j = w j := by
  have hne : j ≠ 66 ∧ j ≠ 67 ∧ j ≠ 69 := by
    rcases hj with h | ⟨m, hm, h⟩ <;> omega
  unfold h_on
  rw [h_over_ne sz r _ hne.1]
  by_cases h : w 66 = nI 0
  · rw [if_pos h]
    by_cases h2 : cnt (m_on r w) 0 sz = 0
    · rw [if_pos h2]
      unfold h_jerk
      rw [h_jerkL_keep t r hj sz 0 _ (by omega), up_ne _ _ hne.2.2, up_ne _ _ hne.2.1, up_ne _ _ hne.1]
    · rw [if_neg h2]
  · rw [if_neg h]
/-- the sums' times are small; no jerk's best in the snatch -/
def okS (sz : Nat) (f : Nat → Int32) : Prop := ∀ l, l < sz → sm (f (65 + l)) 36 ∧ (f 0 = 0 → f (59 + l) = 0) ∧ (¬ f 0 = 0 → f (47 + l) = 0 → ¬ f (53 + l) = 0)
theorem g_jerkL_lo (t r : Nat → Int32) : ∀ (k i : Nat) (f : Nat → Int32), i + k ≤ 6 → ∀ l, l < i → g_jerkL t r i k f (47 + l) = f (47 + l)
  | 0, _, _, _, _, _ => rfl
  | k + 1, i, f, h, l, hl => by
    unfold g_jerkL
    rw [g_jerkL_lo t r k (i + 1) _ (by omega) l (by omega), (jerk1_ne (t := t) (r := r) (f := f) (i := i) (l := l) (by omega) (by omega) (by omega)).2]
theorem g_jerkL_47 (t r : Nat → Int32) : ∀ (k i : Nat) (f : Nat → Int32), i + k ≤ 6 → ∀ l, i ≤ l → l < i + k → g_jerkL t r i k f (47 + l) = 0 → 0 < f (53 + l)
  | 0, _, _, _, _, _, _, _ => by omega
  | k + 1, i, f, h, l, h1, h2, h0 => by
    unfold g_jerkL at h0
    by_cases e : l = i
    · subst e
      rw [g_jerkL_lo t r k (l + 1) _ (by omega) l (by omega)] at h0
      unfold g_jerk1 g_start at h0
      by_cases c1 : 0 < f (53 + l)
      · exact c1
      · simp only [c1, if_false, up_at] at h0
        exact absurd h0 (by decide)
    · have := g_jerkL_47 t r k (i + 1) _ (by omega) l (by omega) (by omega) h0
      rw [g_jerk1_hi t r f (by omega) (by omega)] at this
      exact this
theorem okS_on {sz : Nat} (hs : sz ≤ 6) (t r : Nat → Int32) {f : Nat → Int32} (h : okS sz f) : okS sz (g_on sz t r f) := by
  intro l hl
  rw [g_on_hi hs t r f (Or.inl (show 53 ≤ 65 + l by omega)), g_on_hi hs t r f (Or.inl (show 53 ≤ 59 + l by omega)), g_on_hi hs t r f (Or.inl (show 53 ≤ 53 + l by omega))]
  refine ⟨(h l hl).1, fun e => (h l hl).2.1 (g_on_0 t r f e), fun e e47 => ?_⟩
  by_cases c0 : f 0 = 0
  · unfold g_on at e e47
    rw [if_pos c0] at e e47
    rw [g_over_ne sz r _ (by omega)] at e47
    cases hn : non (s_in r f) 0 sz
    · rw [hn] at e
      simp only [Bool.false_eq_true, if_false] at e
      unfold g_over at e
      rw [if_neg (by rw [c0]; decide)] at e
      exact absurd c0 e
    · rw [hn] at e47
      simp only [if_true] at e47
      unfold g_jerk at e47
      have := g_jerkL_47 t r sz 0 _ (by omega) l (by omega) (by omega) e47
      simp (disch := omega) only [up_ne] at this
      intro z
      rw [z] at this
      exact Int32.lt_irrefl this
  · have e' : f (47 + l) = 0 := by
      unfold g_on at e47
      rw [if_neg c0, g_over_ne sz r _ (by omega)] at e47
      exact e47
    exact (h l hl).2.2 c0 e'
theorem relS_on {sz : Nat} (hs : sz ≤ 6) (t r t' r' : Nat → Int32) {f w : Nat → Int32} (h : relS sz f w) : relS sz (g_on sz t r f) (h_on sz t' r' w) := by
  intro l hl
  rw [g_on_hi hs t r f (by omega), g_on_hi hs t r f (by omega), g_on_hi hs t r f (by omega), h_on_keep hs t' r' w (Or.inr ⟨l, by omega, by omega⟩)]
  exact h l hl
/-! ===== a lift: the same of the sums' times ===== -/
theorem g_made_at {t r f : Nat → Int32} {who l : Nat} (hw : who < 6) (hl : l < 6) (good : Bool) :
    g_made t r f who good 0 = f 0 ∧ g_made t r f who good (65 + l) = (if good = true ∧ l = who then f 4 else f (65 + l)) ∧
    g_made t r f who good (59 + l) = (if good = true ∧ l = who ∧ ¬ f 0 = 0 then f (5 + who) else f (59 + l)) ∧
    g_made t r f who good (53 + l) = (if good = true ∧ l = who ∧ f 0 = 0 then f (5 + who) else f (53 + l)) := by
  unfold g_made g_mk2
  cases good with
  | false =>
    simp only [Bool.false_eq_true, false_and, if_false]
    refine ⟨?_, ?_, ?_, ?_⟩ <;> simp (disch := omega) only [up_ne]
  | true =>
    simp only [true_and, if_true]
    have h0 : upd (upd (upd f 2 (f 2 + (if f 3 = nI who then nI 2 else nI 1))) 1 (f (5 + who))) 3 (nI who) 0 = f 0 := by simp (disch := omega) only [up_ne]
    rw [h0]
    by_cases e0 : f 0 = 0
    · simp only [e0, if_true, not_true, and_false, if_false, and_true]
      by_cases e : l = who
      · subst e
        simp only [if_true]
        refine ⟨?_, ?_, ?_, ?_⟩ <;> simp (disch := omega) only [up_ne, up_at, e0]
      · simp only [e, if_false]
        refine ⟨?_, ?_, ?_, ?_⟩ <;> simp (disch := omega) only [up_ne, up_at, e0]
    · simp only [e0, if_false, not_false_eq_true, and_true, and_false]
      by_cases e : l = who
      · subst e
        simp only [if_true]
        refine ⟨?_, ?_, ?_, ?_⟩ <;> simp (disch := omega) only [up_ne, up_at]
      · simp only [e, if_false]
        refine ⟨?_, ?_, ?_, ?_⟩ <;> simp (disch := omega) only [up_ne, up_at]
theorem g_made_47 {t r f : Nat → Int32} {who l : Nat} (hw : who < 6) (hl : l < 6) {good : Bool} : g_made t r f who good (47 + l) = f (47 + l) := by
  unfold g_made g_mk2
  cases good with
  | false =>
    simp only [Bool.false_eq_true, if_false]
    simp (disch := omega) only [up_ne]
  | true =>
    simp only [if_true]
    by_cases e0 : upd (upd (upd f 2 (f 2 + (if f 3 = nI who then nI 2 else nI 1))) 1 (f (5 + who))) 3 (nI who) 0 = 0
    · rw [if_pos e0]
      simp (disch := omega) only [up_ne]
    · rw [if_neg e0]
      simp (disch := omega) only [up_ne]
theorem okS_made {sz who n : Nat} {t r f : Nat → Int32} (hs : sz ≤ 6) (hw : who < sz) (good : Bool) (h4 : f 4 = nI n) (hn : n < 36) (h : okS sz f) : okS sz (g_made t r f who good) := by
  intro l hl
  obtain ⟨a0, a65, a59, a53⟩ := g_made_at (t := t) (r := r) (f := f) (who := who) (l := l) (by omega) (by omega) good
  rw [a0, a65, a59, a53, g_made_47 (by omega) (by omega)]
  refine ⟨?_, fun e => ?_, fun e e47 => ?_⟩
  · by_cases c : good = true ∧ l = who
    · rw [if_pos c, h4]
      exact ⟨n, by omega, rfl⟩
    · rw [if_neg c]
      exact (h l hl).1
  · rw [if_neg (fun c => c.2.2 e)]
    exact (h l hl).2.1 e
  · rw [if_neg (fun c => e c.2.2)]
    exact (h l hl).2.2 e e47
theorem h_made_10 {t r w : Nat → Int32} {n who l rd : Nat} {li : Int32} (hw : who < 6) (hl : l < 6) (good : Bool) (hrd : rd < 2) : h_made t r w n who li good rd (11 * l + 10) = (if good = true ∧ l = who ∧ rd = 1 then w 70 else w (11 * l + 10)) := by
  unfold h_made h_mk2
  cases good with
  | false =>
    simp only [Bool.false_eq_true, false_and, if_false]
    simp (disch := omega) only [up_ne]
  | true =>
    simp only [true_and, if_true]
    rcases (show rd = 0 ∨ rd = 1 by omega) with rfl | rfl
    · simp only [show ¬ (0 = 1) by decide, if_false, and_false]
      simp (disch := omega) only [up_ne]
    · simp only [if_true, and_true]
      by_cases e : l = who
      · subst e
        simp only [if_true]
        simp (disch := omega) only [up_ne, up_at]
      · simp only [e, if_false]
        simp (disch := omega) only [up_ne]
theorem relS_made {sz who n rd : Nat} {t r t' r' f w : Nat → Int32} (hs : sz ≤ 6) (hw : who < sz) (li : Int32) (good : Bool) (hr : relW sz f w) (h0 : f 0 = nI rd) (hrd : rd < 2) (hS : okS sz f) (h : relS sz f w) : relS sz (g_made t r f who good) (h_made t' r' w n who li good rd) := by
  intro l hl b0 b1
  obtain ⟨a0, a65, a59, a53⟩ := g_made_at (t := t) (r := r) (f := f) (who := who) (l := l) (by omega) (by omega) good
  rw [a53] at b0
  rw [a59] at b1
  rw [a65, h_made_10 (by omega) (by omega) good hrd]
  rcases (show rd = 0 ∨ rd = 1 by omega) with rfl | rfl
  · have e0 : f 0 = 0 := h0
    rw [if_neg (fun c => c.2.2 e0)] at b1
    exact absurd ((hS l hl).2.1 e0) b1
  · have e0 : ¬ f 0 = 0 := by rw [h0]; decide
    by_cases c : good = true ∧ l = who
    · rw [if_pos c, if_pos ⟨c.1, c.2, rfl⟩]
      exact hr.1.2.2.2.2
    · rw [if_neg c, if_neg (fun x => c ⟨x.1, x.2.1⟩)]
      rw [if_neg (fun x => c ⟨x.1, x.2.1⟩)] at b0 b1
      exact h l hl b0 b1
theorem g_made_35 {t r f : Nat → Int32} {who l : Nat} (hw : who < 6) (hl : l < 6) (good : Bool) : g_made t r f who good (35 + l) = (if l = who then f (35 + who) + nI 1 else f (35 + l)) := by
  unfold g_made g_mk2
  cases good with
  | false =>
    simp only [Bool.false_eq_true, if_false]
    by_cases e : l = who
    · subst e
      simp (disch := omega) only [up_ne, up_at, if_true]
    · simp (disch := omega) only [up_ne, e, if_false]
  | true =>
    simp only [if_true]
    by_cases e0 : upd (upd (upd f 2 (f 2 + (if f 3 = nI who then nI 2 else nI 1))) 1 (f (5 + who))) 3 (nI who) 0 = 0
    · rw [if_pos e0]
      by_cases e : l = who
      · subst e
        simp (disch := omega) only [up_ne, up_at, if_true]
      · simp (disch := omega) only [up_ne, e, if_false]
    · rw [if_neg e0]
      by_cases e : l = who
      · subst e
        simp (disch := omega) only [up_ne, up_at, if_true]
      · simp (disch := omega) only [up_ne, e, if_false]

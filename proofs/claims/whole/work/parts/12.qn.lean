/-! ===== asked, changed, gone home, warmed up: class and reference together ===== -/
theorem okN_up {k sz R1 l a v : Nat} {F : Nat → Nat} (hs : sz ≤ 6) (h : okN k sz R1 F) (hl : l < sz) (ha : (a = 5 ∧ 1 ≤ v ∧ v ≤ 99) ∨ (a = 23 ∧ v ≤ 2) ∨ (a = 29 ∧ v ≤ 9) ∨ (a = 41 ∧ v ≤ F 2) ∨ (a = 47 ∧ v ≤ 1) ∨ (a = 59 ∧ v ≤ 99)) : okN k sz R1 (upn F (a + l) v) := by
  obtain ⟨o0, o1, o2, o4, ol⟩ := h
  refine ⟨?_, ?_, ?_, ?_, fun i hi => ?_⟩
  · simp (disch := omega) only [un_ne]; exact o0
  · simp (disch := omega) only [un_ne]; exact o1
  · simp (disch := omega) only [un_ne]; exact o2
  · rw [sumN_same (G := fun l => F (35 + l)) sz (fun i hi => by simp (disch := omega) only [un_ne])]
    simp (disch := omega) only [un_ne]; exact o4
  · have := ol i hi
    unfold okL at this ⊢
    by_cases e : i = l
    · subst e
      rcases ha with ⟨rfl, ha⟩ | ⟨rfl, ha⟩ | ⟨rfl, ha⟩ | ⟨rfl, ha⟩ | ⟨rfl, ha⟩ | ⟨rfl, ha⟩ <;> (simp (disch := omega) only [un_ne, un_at]; omega)
    · simp (disch := omega) only [un_ne]
      exact this
theorem relG_ext {k sz n : Nat} {lg : Nat → Nat → Int32} {w w' : Nat → Int32} (h : relG k sz n lg w) (hw : ∀ j, 71 ≤ j → w' j = w j) : relG k sz n lg w' := by
  intro i hi
  rw [hw (71 + 5 * i) (by omega), hw (71 + 5 * i + 1) (by omega), hw (71 + 5 * i + 2) (by omega), hw (71 + 5 * i + 3) (by omega), hw (71 + 5 * i + 4) (by omega)]
  exact h i hi
theorem relM_ask {k sz n l v R1 : Nat} {r f w : Nat → Int32} {lg : Nat → Nat → Int32} (hs : sz ≤ 6) (h : relM k sz r R1 f lg w n) (hl : l < sz) (h1 : 1 ≤ v) (h2 : v ≤ 99) : relM k sz r R1 (upd f (5 + l) (nI v)) lg (upd w (11 * l + 0) (nI v)) n := by
  obtain ⟨⟨F, h1, h2, h3⟩, h4, h5, h6, h7, h8⟩ := h
  refine ⟨⟨upn F (5 + l) v, rp_up h1 _ rfl, okN_up hs h2 hl (by omega), by simp (disch := omega) only [un_ne]; exact h3⟩, ?_, rel_upl _ hs h5 hl (by omega), ?_, ?_, relG_ext h8.1 (fun j hj => up_ne _ _ (by omega)), fun i hi => by simp (disch := omega) only [up_ne]; exact h8.2 i hi⟩
  · intro e i hi
    simp (disch := omega) only [up_ne] at e
    have := h4 e i hi
    unfold s_in at this ⊢
    simp (disch := omega) only [up_ne]
    exact this
  · intro i hi
    simp (disch := omega) only [up_ne]
    exact h6 i hi
  · intro i hi
    simp (disch := omega) only [up_ne]
    exact h7 i hi
theorem relM_chg {k sz n l v R1 : Nat} {r f w : Nat → Int32} {lg : Nat → Nat → Int32} (hs : sz ≤ 6) (h : relM k sz r R1 f lg w n) (hl : l < sz) (h2 : v ≤ 2) : relM k sz r R1 (upd f (23 + l) (nI v)) lg (upd w (11 * l + 5) (nI v)) n := by
  obtain ⟨⟨F, h1, h2, h3⟩, h4, h5, h6, h7, h8⟩ := h
  refine ⟨⟨upn F (23 + l) v, rp_up h1 _ rfl, okN_up hs h2 hl (by omega), by simp (disch := omega) only [un_ne]; exact h3⟩, ?_, rel_upl _ hs h5 hl (by omega), ?_, ?_, relG_ext h8.1 (fun j hj => up_ne _ _ (by omega)), fun i hi => by simp (disch := omega) only [up_ne]; exact h8.2 i hi⟩
  · intro e i hi
    simp (disch := omega) only [up_ne] at e
    have := h4 e i hi
    unfold s_in at this ⊢
    simp (disch := omega) only [up_ne]
    exact this
  · intro i hi
    simp (disch := omega) only [up_ne]
    exact h6 i hi
  · intro i hi
    simp (disch := omega) only [up_ne]
    exact h7 i hi
theorem relM_leave {k sz n l R1 : Nat} {r f w : Nat → Int32} {lg : Nat → Nat → Int32} (hs : sz ≤ 6) (h : relM k sz r R1 f lg w n) (hl : l < sz) : relM k sz r R1 (upd f (47 + l) (nI 1)) lg (upd w (11 * l + 6) (nI 1)) n := by
  obtain ⟨⟨F, h1, h2, h3⟩, h4, h5, h6, h7, h8⟩ := h
  refine ⟨⟨upn F (47 + l) 1, rp_up h1 _ rfl, okN_up hs h2 hl (by omega), by simp (disch := omega) only [un_ne]; exact h3⟩, ?_, rel_upl _ hs h5 hl (by omega), ?_, ?_, relG_ext h8.1 (fun j hj => up_ne _ _ (by omega)), fun i hi => by simp (disch := omega) only [up_ne]; exact h8.2 i hi⟩
  · intro e i hi
    simp (disch := omega) only [up_ne] at e
    have := h4 e i hi
    unfold s_in at this ⊢
    by_cases c : i = l
    · subst c
      simp only [up_at]
      rfl
    · simp (disch := omega) only [up_ne]
      exact this
  · intro i hi
    simp (disch := omega) only [up_ne]
    exact h6 i hi
  · intro i hi
    obtain ⟨s1, s2, s3⟩ := h7 i hi
    refine ⟨by simp (disch := omega) only [up_ne]; exact s1, by simp (disch := omega) only [up_ne]; exact s2, fun e e47 => ?_⟩
    simp (disch := omega) only [up_ne] at e ⊢
    by_cases c : i = l
    · subst c
      rw [up_at] at e47
      exact absurd e47 (by decide)
    · simp (disch := omega) only [up_ne] at e47
      exact s3 e e47
/-- going on -/
theorem relM_on {k sz n : Nat} {t r t' r' f w : Nat → Int32} {T R : Nat → Nat} {lg : Nat → Nat → Int32} (hs : sz ≤ 6) (ht : okT sz t r T R) (htt : ∀ l, l < sz → ∀ j, j < 10 → t' (10 * l + j) = t (l * 10 + j)) (hrr : ∀ j, j < 4 → r' j = r j) (h : relM k sz r (R 1) f lg w n) : relM k sz r (R 1) (g_on sz t r f) lg (h_on sz t' r' w) n := by
  obtain ⟨⟨F, h1, h2, h3⟩, h4, h5, h6, h7, h8⟩ := h
  obtain ⟨F2, b1, b2, b3, b4, b5⟩ := inv_on hs ht h1 h2 h4
  have hB : okB sz f := by
    intro l hl
    rw [h1 (53 + l) (by omega) (by omega), h1 (47 + l) (by omega) (by omega)]
    have := h2.2.2.2.2 l hl
    unfold okL at this
    refine ⟨⟨_, by omega, rfl⟩, ?_⟩
    rcases (show F (47 + l) = 0 ∨ F (47 + l) = 1 by omega) with e | e
    · exact Or.inl (by rw [e])
    · exact Or.inr (by rw [e])
  exact ⟨⟨F2, b1, b2, by omega⟩, b5, rel_on hs h5 hB (fun l hl => htt l hl 8 (by omega)) (hrr 0 (by omega)) (hrr 1 (by omega)), relS_on hs _ _ _ _ h6, okS_on hs _ _ h7, relG_ext h8.1 (fun j hj => h_on_keep hs t' r' _ (Or.inl (by omega))), fun i hi => by rw [g_on_hi hs _ _ _ (by omega)]; exact h8.2 i hi⟩
def h_warm (w : Nat → Int32) (l : Nat) : Nat → Int32 :=
  upd (upd (upd w (11 * l + 7) (if w (11 * l + 7) + nI 1 < nI 9 then w (11 * l + 7) + nI 1 else nI 9)) 68 (w 68 + nI 1)) (11 * l + 8) (w 68 + nI 1)
theorem mn_eq (a b : Int32) : (if a < b then a else b) = (if b < a then b else a) := by
  by_cases h : a < b
  · have h2 : ¬ b < a := Int32.not_lt.mpr (Int32.le_of_lt h)
    rw [if_pos h, if_neg h2]
  · by_cases h2 : b < a
    · rw [if_neg h, if_pos h2]
    · rw [if_neg h, if_neg h2]
      exact Int32.le_antisymm (Int32.not_lt.mp h) (Int32.not_lt.mp h2)
theorem relM_warm {k sz n l R1 : Nat} {r f w : Nat → Int32} {lg : Nat → Nat → Int32} (hs : sz ≤ 6) (h : relM k sz r R1 f lg w n) (hl : l < sz) : relM (k + 1) sz r R1 (g_warm f l) lg (h_warm w l) n := by
  obtain ⟨⟨F, h1, h2, h3⟩, h4, h5, h6, h7, h8⟩ := h
  have hL := h2.2.2.2.2 l hl
  unfold okL at hL
  have h29 := h1 (29 + l) (by omega) (by omega)
  have hmn : (if f (29 + l) + nI 1 < nI 9 then f (29 + l) + nI 1 else nI 9) = nI (if F (29 + l) + 1 < 9 then F (29 + l) + 1 else 9) := by
    rw [h29, nI_add]
    by_cases c : F (29 + l) + 1 < 9
    · rw [if_pos c, if_pos (nI_lt c (by omega))]
    · rw [if_neg c, if_neg (nI_nlt (by omega) (by omega))]
  have hmi : f 2 + nI 1 = nI (F 2 + 1) := by rw [h1 2 (by omega) (by omega), nI_add]
  unfold g_warm h_warm
  obtain ⟨c7, -⟩ := (h5.2 l hl).2.2.2
  rw [c7, h5.1.2.2.1]
  have hN : okN (k + 1) sz R1 (upn (upn (upn F (29 + l) (if F (29 + l) + 1 < 9 then F (29 + l) + 1 else 9)) 2 (F 2 + 1)) (41 + l) (F 2 + 1)) := by
    refine okN_up hs ?_ hl (Or.inr (Or.inr (Or.inr (Or.inl ⟨rfl, by rw [un_at]; exact Nat.le_refl _⟩))))
    have h2' := okN_up (a := 29) (v := if F (29 + l) + 1 < 9 then F (29 + l) + 1 else 9) hs h2 hl (by split <;> omega)
    obtain ⟨o0, o1, o2, o4, ol⟩ := h2'
    refine ⟨?_, ?_, ?_, ?_, fun i hi => ?_⟩
    · simp (disch := omega) only [un_ne] at o0 ⊢; exact o0
    · simp (disch := omega) only [un_ne] at o1 ⊢; exact o1
    · simp (disch := omega) only [un_ne, un_at] at o2 ⊢; omega
    · simp (disch := omega) only [un_ne] at o4 ⊢
      exact o4
    · have := ol i hi
      unfold okL at this ⊢
      simp (disch := omega) only [un_ne, un_at] at this ⊢
      omega
  refine ⟨⟨_, rp_up (rp_up (rp_up h1 _ hmn) 2 hmi) (41 + l) hmi, hN, by simp (disch := omega) only [un_ne]; exact h3⟩, ?_, ?_, ?_, ?_, relG_mono (relG_ext h8.1 (fun j hj => by simp (disch := omega) only [up_ne])) (by omega), fun i hi => by simp (disch := omega) only [up_ne]; exact h8.2 i hi⟩
  · intro e i hi
    simp (disch := omega) only [up_ne] at e
    have := h4 e i hi
    unfold s_in at this ⊢
    simp (disch := omega) only [up_ne]
    exact this
  · exact rel_upl _ hs (rel_up2 _ hs (rel_upl _ hs h5 hl (by omega))) hl (by omega)
  · intro i hi
    simp (disch := omega) only [up_ne]
    exact h6 i hi
  · intro i hi
    simp (disch := omega) only [up_ne]
    exact h7 i hi
/-! ===== what both read of a meet is the same ===== -/
theorem relM_in {k sz n : Nat} {t r r' f w : Nat → Int32} {T R : Nat → Nat} {lg : Nat → Nat → Int32} (hrr : r' 1 = r 1) (h : relM k sz r (R 1) f lg w n) {l : Nat} (hl : l < sz) : m_on r' w l = s_in r f l := by
  obtain ⟨⟨F, h1, h2, h3⟩, h4, h5, h6, h7, h8⟩ := h
  have e0 := h1 0 (by omega) (by omega)
  by_cases c : F 0 < 2
  · exact on_in2 h5 hrr (by rw [e0]; exact nI_lt c (by omega)) hl
  · have e2 : f 0 = nI 2 := by rw [e0, show F 0 = 2 by have := h2.1; omega]
    rw [h4 e2 l hl]
    unfold m_on
    rw [h5.1.1, e2]
    rfl
theorem relM_next {k sz n : Nat} {r r' f w : Nat → Int32} {R : Nat → Nat} {lg : Nat → Nat → Int32} (hrr : r' 1 = r 1) (h : relM k sz r (R 1) f lg w n) : nx1 (m_on r' w) (m_ah w) 0 sz none = nx1 (s_in r f) (s_ah f) 0 sz none :=
  nx1_eq (fun l hl => relM_in (t := f) (T := R) hrr h hl) (fun i j hi hj => ah_ah h.2.2.1 hi hj) sz 0 none (by omega) (fun j e => by cases e)
theorem relM_sm {k sz n R1 : Nat} {r f w : Nat → Int32} {lg : Nat → Nat → Int32} (hs : sz ≤ 6) (hR : R1 ≤ 3) (h : relM k sz r R1 f lg w n) : ∀ l, l < sz → m_sm w l := by
  intro l hl
  obtain ⟨⟨F, h1, h2, h3⟩, h4, h5, h6, h7, h8⟩ := h
  have hL := h2.2.2.2.2 l hl
  unfold okL at hL
  obtain ⟨⟨c0, c1, -⟩, -⟩ := h5.2 l hl
  unfold m_sm
  rw [c0, c1, h1 (5 + l) (by omega) (by omega), h1 (11 + l) (by omega) (by omega)]
  exact ⟨⟨_, by omega, rfl⟩, ⟨_, by omega, rfl⟩⟩
/-- the next one is in -/
theorem nx1_in (p : Nat → Bool) (a : Nat → Nat → Bool) : ∀ (k i : Nat) (b : Option Nat), (∀ j, b = some j → j < i ∧ p j = true) → ∀ j, nx1 p a i k b = some j → j < i + k ∧ p j = true
  | 0, i, b, h, j, e => by
    have := h j e
    exact ⟨by omega, this.2⟩
  | k + 1, i, b, h, j, e => by
    unfold nx1 at e
    have fin : ∀ b', nx1 p a (i + 1) k b' = some j → (∀ m, b' = some m → m < i + 1 ∧ p m = true) → j < i + (k + 1) ∧ p j = true := fun b' e h' => by
      have := nx1_in p a k (i + 1) b' h' j e
      exact ⟨by omega, this.2⟩
    cases b with
    | none =>
      cases hp : p i
      · simp only [hp, Bool.false_and, Bool.false_eq_true, if_false] at e
        exact fin none e (fun m em => by cases em)
      · simp only [hp, Bool.true_and, if_true] at e
        exact fin (some i) e (fun m em => by cases em; exact ⟨by omega, hp⟩)
    | some j0 =>
      have h0 := h j0 rfl
      cases hp : p i
      · simp only [hp, Bool.false_and, Bool.false_eq_true, if_false] at e
        exact fin (some j0) e (fun m em => by cases em; exact ⟨by omega, h0.2⟩)
      · cases ha : a i j0
        · simp only [hp, ha, Bool.and_false, Bool.false_eq_true, if_false] at e
          exact fin (some j0) e (fun m em => by cases em; exact ⟨by omega, h0.2⟩)
        · simp only [hp, ha, Bool.and_self, if_true] at e
          exact fin (some i) e (fun m em => by cases em; exact ⟨by omega, hp⟩)
theorem relM_rd {k sz n R1 : Nat} {r f w : Nat → Int32} {lg : Nat → Nat → Int32} {l : Nat} (h : relM k sz r R1 f lg w n) (hl : l < sz) (hin : s_in r f l = true) : ∃ rd, rd < 2 ∧ f 0 = nI rd ∧ w 66 = nI rd := by
  obtain ⟨⟨F, h1, h2, h3⟩, h4, h5, h6, h7, h8⟩ := h
  have e0 := h1 0 (by omega) (by omega)
  refine ⟨F 0, ?_, e0, by rw [h5.1.1, e0]⟩
  by_cases c : F 0 < 2
  · exact c
  · have e2 : f 0 = nI 2 := by rw [e0, show F 0 = 2 by have := h2.1; omega]
    rw [h4 e2 l hl] at hin
    cases hin

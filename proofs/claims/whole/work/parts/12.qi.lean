/-! ===== a lift keeps what always holds ===== -/
theorem in_N {sz : Nat} {t r f : Nat → Int32} {T R F : Nat → Nat} {k l : Nat} (hs : sz ≤ 6) (ht : okT sz t r T R) (h : rp f F) (ho : okN k sz (R 1) F) (hl : l < sz) : s_in r f l = true ↔ F (47 + l) = 0 ∧ F (11 + l) < R 1 ∧ F (17 + l) ≤ 99 := by
  obtain ⟨-, -, -, -, ol⟩ := ho
  have hL := ol l hl
  unfold okL at hL
  have hR := ht.2.2.1
  unfold s_in
  rw [h (47 + l) (by omega) (by omega), h (11 + l) (by omega) (by omega), h (17 + l) (by omega) (by omega), ht.2.1 1 (by omega), ← nI_0]
  simp only [Bool.and_eq_true, decide_eq_true_eq, Bool.not_eq_true', decide_eq_false_iff_not]
  rw [nI_eq (by omega) (by omega), nI_ltI (by omega) (by omega), nI_ltI (by omega) (by omega)]
  omega
theorem made_lt {sz k : Nat} {R F : Nat → Nat} {who : Nat} (hs : sz ≤ 6) (hR : R 1 ≤ 3) (ho : okN k sz (R 1) F) (hw : who < sz) (h11 : F (11 + who) < R 1) : F 4 < 36 := by
  obtain ⟨o0, -, -, o4, ol⟩ := ho
  have h6 : ∀ l, l < sz → F (35 + l) ≤ 6 := fun l hl => by
    have := ol l hl
    unfold okL at this
    omega
  have hw6 : F (35 + who) < 6 := by
    have := ol who hw
    unfold okL at this
    omega
  have := sumN_lt (G := fun l => F (35 + l)) (b := 6) (who := who) sz h6 hw hw6
  rw [o4]
  omega
theorem inv_made {k sz who : Nat} {t r f : Nat → Int32} {T R F : Nat → Nat} (good : Bool) (hs : sz ≤ 6) (ht : okT sz t r T R) (h : rp f F) (ho : okN k sz (R 1) F) (hw : who < sz) (hin : s_in r f who = true) (h2 : F 0 < 2) : ∃ F', rp (g_made t r f who good) F' ∧ okN k sz (R 1) F' ∧ F' 4 = F 4 + 1 ∧ F' 0 = F 0 := by
  obtain ⟨n1, n2, n3⟩ := (in_N hs ht h ho hw).mp hin
  obtain ⟨o0, o1, o2, o4, ol⟩ := ho
  have hR := ht.2.2.1
  have hT := ht.2.2.2 who hw
  have how := ol who hw
  obtain ⟨mi, hmi, hmi2⟩ : ∃ mi, f 2 + (if f 3 = nI who then nI 2 else nI 1) = nI mi ∧ F 2 ≤ mi ∧ mi ≤ F 2 + 2 := by
    rw [h 2 (by omega) (by omega)]
    by_cases e : f 3 = nI who
    · exact ⟨F 2 + 2, by rw [if_pos e, nI_add], by omega, by omega⟩
    · exact ⟨F 2 + 1, by rw [if_neg e, nI_add], by omega, by omega⟩
  have h5 := h (5 + who) (by omega) (by omega)
  have p1 : rp (upd (upd (upd f 2 (f 2 + (if f 3 = nI who then nI 2 else nI 1))) 1 (f (5 + who))) 3 (nI who)) (upn (upn F 2 mi) 1 (F (5 + who))) := rp_up3 (rp_up (rp_up h _ hmi) _ h5) _
  generalize hg : upd (upd (upd f 2 (f 2 + (if f 3 = nI who then nI 2 else nI 1))) 1 (f (5 + who))) 3 (nI who) = g at p1
  unfold g_made
  rw [hg]
  have p2 : rp (upd (upd (upd (upd (upd g (41 + who) (g 2)) (11 + who) (g (11 + who) + nI 1)) (35 + who) (g (35 + who) + nI 1)) (23 + who) (r 0)) (17 + who) (f (5 + who)))
      (upn (upn (upn (upn (upn (upn (upn F 2 mi) 1 (F (5 + who))) (41 + who) mi) (11 + who) (F (11 + who) + 1)) (35 + who) (F (35 + who) + 1)) (23 + who) (R 0)) (17 + who) (F (5 + who))) := by
    refine rp_up (rp_up (rp_up (rp_up (rp_up p1 _ ?_) _ ?_) _ ?_) _ (ht.2.1 0 (by omega))) _ h5
    · rw [p1 2 (by omega) (by omega)]
      simp (disch := omega) only [un_ne, un_at]
    · rw [p1 (11 + who) (by omega) (by omega), nI_add]
      simp (disch := omega) only [un_ne]
    · rw [p1 (35 + who) (by omega) (by omega), nI_add]
      simp (disch := omega) only [un_ne]
  have g4 : g 4 = nI (F 4) := by
    rw [p1 4 (by omega) (by omega)]
    simp (disch := omega) only [un_ne]
  have hsum : ∀ G : Nat → Nat, G (35 + who) = F (35 + who) + 1 → (∀ l, l < sz → l ≠ who → G (35 + l) = F (35 + l)) → sumN (fun l => G (35 + l)) sz = sumN (fun l => F (35 + l)) sz + 1 := fun G e1 e2 => by
    have := sumN_up (G := fun l => F (35 + l)) (G' := fun l => G (35 + l)) (who := who) sz hw e2
    simp only [e1] at this
    omega
  have fin : ∀ G : Nat → Nat, (G 0 = F 0 ∧ G 1 = F (5 + who) ∧ G 2 = mi ∧ G 4 = F 4 + 1) → (∀ l, l < sz → l ≠ who → ∀ a, (a = 5 ∨ a = 11 ∨ a = 17 ∨ a = 23 ∨ a = 29 ∨ a = 35 ∨ a = 41 ∨ a = 47 ∨ a = 53 ∨ a = 59) → G (a + l) = F (a + l)) →
      (G (35 + who) = F (35 + who) + 1 ∧ G (11 + who) = F (11 + who) + 1 ∧ G (23 + who) = R 0 ∧ G (29 + who) = F (29 + who) ∧ G (41 + who) = mi ∧ G (47 + who) = F (47 + who)) → (1 ≤ G (5 + who) ∧ G (5 + who) ≤ 99) → (1 ≤ G (17 + who) ∧ G (17 + who) ≤ 104) → (G (53 + who) ≤ 99 ∧ G (59 + who) ≤ 99) → okN k sz (R 1) G := by
    intro G ⟨q0, q1, q2, q4⟩ hne ⟨w35, w11, w23, w29, w41, w47⟩ w5 w17 wb
    unfold okL at how
    refine ⟨by omega, by omega, by omega, ?_, fun l hl => ?_⟩
    · rw [q4, hsum G w35 (fun l hl e => hne l hl e 35 (by omega)), o4]
    · have hl' := ol l hl
      unfold okL at hl' ⊢
      by_cases e : l = who
      · subst e
        rw [q0, q2, w35, w11, w23, w29, w41, w47]
        omega
      · rw [q0, q2, hne l hl e 5 (by omega), hne l hl e 11 (by omega), hne l hl e 17 (by omega), hne l hl e 23 (by omega), hne l hl e 29 (by omega), hne l hl e 35 (by omega), hne l hl e 41 (by omega), hne l hl e 47 (by omega), hne l hl e 53 (by omega), hne l hl e 59 (by omega)]
        omega
  unfold okL at how
  unfold g_mk2
  cases good with
  | false =>
    simp only [Bool.false_eq_true, if_false]
    refine ⟨_, rp_up p2 4 (m := F 4 + 1) (by rw [g4, nI_add]), fin _ ⟨?_, ?_, ?_, ?_⟩ (fun l hl e a ha => ?_) ⟨?_, ?_, ?_, ?_, ?_, ?_⟩ ⟨?_, ?_⟩ ⟨?_, ?_⟩ ⟨?_, ?_⟩, ?_, ?_⟩
    case refine_5 => rcases ha with rfl | rfl | rfl | rfl | rfl | rfl | rfl | rfl | rfl | rfl <;> simp (disch := omega) only [un_ne]
    all_goals (simp (disch := omega) only [un_ne, un_at] <;> omega)
  | true =>
    simp only [if_true]
    obtain ⟨a, ha, ha2⟩ : ∃ a, (if f (5 + who) + (if r 2 < t (who * 10 + 9) then t (who * 10 + 9) else r 2) < nI 99 then f (5 + who) + (if r 2 < t (who * 10 + 9) then t (who * 10 + 9) else r 2) else nI 99) = nI a ∧ 1 ≤ a ∧ a ≤ 99 := by
      obtain ⟨m, hm, hm2⟩ : ∃ m, (if r 2 < t (who * 10 + 9) then t (who * 10 + 9) else r 2) = nI m ∧ m ≤ 9 := by
        by_cases e : r 2 < t (who * 10 + 9)
        · exact ⟨T (who * 10 + 9), by rw [if_pos e]; exact ht.1 who hw 9 (by omega), by omega⟩
        · exact ⟨R 2, by rw [if_neg e]; exact ht.2.1 2 (by omega), by omega⟩
      rw [hm, h5, nI_add]
      by_cases e : nI (F (5 + who) + m) < nI 99
      · exact ⟨F (5 + who) + m, by rw [if_pos e], by omega, by have := (nI_ltI (by omega) (by omega)).mp e; omega⟩
      · exact ⟨99, by rw [if_neg e], by omega, by omega⟩
    have hw17 : f (5 + who) + r 2 = nI (F (5 + who) + R 2) := by rw [h5, ht.2.1 2 (by omega), nI_add]
    rw [ha]
    by_cases e0 : g 0 = 0
    · simp only [e0, if_true]
      refine ⟨_, rp_up (rp_up (rp_up (rp_up (rp_up p2 (53 + who) h5) (65 + who) g4) (17 + who) hw17) (5 + who) (m := a) rfl) 4 (m := F 4 + 1) (by rw [g4, nI_add]), fin _ ⟨?_, ?_, ?_, ?_⟩ (fun l hl e a ha => ?_) ⟨?_, ?_, ?_, ?_, ?_, ?_⟩ ⟨?_, ?_⟩ ⟨?_, ?_⟩ ⟨?_, ?_⟩, ?_, ?_⟩
      case refine_5 => rcases ha with rfl | rfl | rfl | rfl | rfl | rfl | rfl | rfl | rfl | rfl <;> simp (disch := omega) only [un_ne]
      all_goals (simp (disch := omega) only [un_ne, un_at] <;> omega)
    · simp only [e0, if_false]
      refine ⟨_, rp_up (rp_up (rp_up (rp_up (rp_up p2 (59 + who) h5) (65 + who) g4) (17 + who) hw17) (5 + who) (m := a) rfl) 4 (m := F 4 + 1) (by rw [g4, nI_add]), fin _ ⟨?_, ?_, ?_, ?_⟩ (fun l hl e a ha => ?_) ⟨?_, ?_, ?_, ?_, ?_, ?_⟩ ⟨?_, ?_⟩ ⟨?_, ?_⟩ ⟨?_, ?_⟩, ?_, ?_⟩
      case refine_5 => rcases ha with rfl | rfl | rfl | rfl | rfl | rfl | rfl | rfl | rfl | rfl <;> simp (disch := omega) only [un_ne]
      all_goals (simp (disch := omega) only [un_ne, un_at] <;> omega)

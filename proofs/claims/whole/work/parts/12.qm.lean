/-! ===== rows change together ===== -/
theorem rel_upl {sz i a b : Nat} {f w : Nat → Int32} (v : Int32) (hs : sz ≤ 6) (hr : relW sz f w) (hi : i < sz) (hab : (a = 5 ∧ b = 0) ∨ (a = 11 ∧ b = 1) ∨ (a = 17 ∧ b = 4) ∨ (a = 23 ∧ b = 5) ∨ (a = 29 ∧ b = 7) ∨ (a = 41 ∧ b = 8) ∨ (a = 47 ∧ b = 6) ∨ (a = 59 ∧ b = 3)) : relW sz (upd f (a + i) v) (upd w (11 * i + b) v) := by
  obtain ⟨⟨a0, a1, a2, a3, a4⟩, hk⟩ := hr
  refine ⟨⟨?_, ?_, ?_, ?_, ?_⟩, fun l hl => ?_⟩
  · simp (disch := omega) only [up_ne, a0]
  · simp (disch := omega) only [up_ne, a1]
  · simp (disch := omega) only [up_ne, a2]
  · simp (disch := omega) only [up_ne, a3]
  · simp (disch := omega) only [up_ne, a4]
  · obtain ⟨⟨c0, c1, c2, c3, c4⟩, c5, c6, c7, c8, c9⟩ := hk l hl
    by_cases e : l = i
    · subst e
      rcases hab with ⟨rfl, rfl⟩ | ⟨rfl, rfl⟩ | ⟨rfl, rfl⟩ | ⟨rfl, rfl⟩ | ⟨rfl, rfl⟩ | ⟨rfl, rfl⟩ | ⟨rfl, rfl⟩ | ⟨rfl, rfl⟩ <;> (refine ⟨⟨?_, ?_, ?_, ?_, ?_⟩, ?_, ?_, ?_, ?_, ?_⟩ <;> simp (disch := omega) only [up_ne, up_at, c0, c1, c2, c3, c4, c5, c6, c7, c8, c9])
    · refine ⟨⟨?_, ?_, ?_, ?_, ?_⟩, ?_, ?_, ?_, ?_, ?_⟩ <;> simp (disch := omega) only [up_ne, c0, c1, c2, c3, c4, c5, c6, c7, c8, c9]
theorem rel_up2 {sz : Nat} {f w : Nat → Int32} (v : Int32) (hs : sz ≤ 6) (hr : relW sz f w) : relW sz (upd f 2 v) (upd w 68 v) := by
  obtain ⟨⟨a0, a1, a2, a3, a4⟩, hk⟩ := hr
  refine ⟨⟨?_, ?_, ?_, ?_, ?_⟩, fun l hl => ?_⟩
  · simp (disch := omega) only [up_ne, a0]
  · simp (disch := omega) only [up_ne, a1]
  · simp (disch := omega) only [up_at]
  · simp (disch := omega) only [up_ne, a3]
  · simp (disch := omega) only [up_ne, a4]
  · obtain ⟨⟨c0, c1, c2, c3, c4⟩, c5, c6, c7, c8, c9⟩ := hk l hl
    refine ⟨⟨?_, ?_, ?_, ?_, ?_⟩, ?_, ?_, ?_, ?_, ?_⟩ <;> simp (disch := omega) only [up_ne, c0, c1, c2, c3, c4, c5, c6, c7, c8, c9]
/-! ===== the record of lifts ===== -/
def relG (k sz n : Nat) (lg : Nat → Nat → Int32) (w : Nat → Int32) : Prop := ∀ i, i < n →
  (w (71 + 5 * i) = lg 0 i ∧ w (71 + 5 * i + 1) = lg 1 i ∧ w (71 + 5 * i + 2) = lg 2 i ∧ w (71 + 5 * i + 3) = lg 3 i ∧ w (71 + 5 * i + 4) = lg 4 i) ∧
  ∃ a b c e g : Nat, (lg 0 i = nI a ∧ lg 1 i = nI b ∧ lg 2 i = nI c ∧ lg 3 i = nI e ∧ lg 4 i = nI g) ∧ a < sz ∧ 1 ≤ b ∧ b ≤ 99 ∧ c < 8 ∧ e ≤ 80 + k ∧ g < 2
def rowsN (lg : Nat → Nat → Int32) (l : Nat) : Nat → Nat
  | 0 => 0
  | n + 1 => rowsN lg l n + (if lg 0 n = nI l then 1 else 0)
theorem rowsN_ext {lg lg' : Nat → Nat → Int32} (l : Nat) : ∀ n : Nat, (∀ i, i < n → lg' 0 i = lg 0 i) → rowsN lg' l n = rowsN lg l n
  | 0, _ => rfl
  | n + 1, h => by
    unfold rowsN
    rw [rowsN_ext l n (fun i hi => h i (by omega)), h n (by omega)]
/-- each one's lifts are as many as its rows -/
def relC (sz n : Nat) (f : Nat → Int32) (lg : Nat → Nat → Int32) : Prop := ∀ l, l < sz → f (35 + l) = nI (rowsN lg l n)
/-- a meet as it stands: Stand's row, the log's rows, the reference's row; n lifts made -/
def relM (k sz : Nat) (r : Nat → Int32) (R1 : Nat) (f : Nat → Int32) (lg : Nat → Nat → Int32) (w : Nat → Int32) (n : Nat) : Prop :=
  (∃ F, rp f F ∧ okN k sz R1 F ∧ F 4 = n) ∧ okO sz r f ∧ relW sz f w ∧ relS sz f w ∧ okS sz f ∧ relG k sz n lg w ∧ relC sz n f lg
theorem okN_mono {k k' sz R1 : Nat} {F : Nat → Nat} (h : okN k sz R1 F) (hk : k ≤ k') : okN k' sz R1 F := by
  obtain ⟨o0, o1, o2, o4, ol⟩ := h
  exact ⟨o0, o1, by omega, o4, ol⟩
theorem relG_mono {k k' sz n : Nat} {lg : Nat → Nat → Int32} {w : Nat → Int32} (h : relG k sz n lg w) (hk : k ≤ k') : relG k' sz n lg w := by
  intro i hi
  obtain ⟨h1, a, b, c, e, g, h2, h3, h4, h5, h6, h7, h8⟩ := h i hi
  exact ⟨h1, a, b, c, e, g, h2, h3, h4, h5, h6, by omega, h8⟩
theorem relM_mono {k k' sz R1 n : Nat} {r f w : Nat → Int32} {lg : Nat → Nat → Int32} (h : relM k sz r R1 f lg w n) (hk : k ≤ k') : relM k' sz r R1 f lg w n := by
  obtain ⟨⟨F, h1, h2, h3⟩, h4, h5, h6, h7, h8⟩ := h
  exact ⟨⟨F, h1, okN_mono h2 hk, h3⟩, h4, h5, h6, h7, relG_mono h8.1 hk, h8.2⟩
theorem relM_n {k sz R1 n : Nat} {r f w : Nat → Int32} {lg : Nat → Nat → Int32} (hs : sz ≤ 6) (hR : R1 ≤ 3) (h : relM k sz r R1 f lg w n) : n ≤ 36 ∧ f 4 = nI n ∧ w 70 = nI n := by
  obtain ⟨⟨F, h1, ⟨o0, o1, o2, o4, ol⟩, h3⟩, h4, h5, h6, h7, h8⟩ := h
  have e4 : f 4 = nI n := by rw [h1 4 (by omega) (by omega), h3]
  refine ⟨?_, e4, by rw [h5.1.2.2.2.2, e4]⟩
  have := sumN_le (G := fun l => F (35 + l)) (b := 6) sz (fun l hl => by
    have := ol l hl
    unfold okL at this
    show F (35 + l) ≤ 6
    omega)
  omega
theorem relM_ext {k sz R1 n : Nat} {r f f' w w' : Nat → Int32} {lg lg' : Nat → Nat → Int32} (hs : sz ≤ 6) (hf : ∀ j, j < 71 → f' j = f j) (hw : ∀ j, j < 71 + 5 * n → w' j = w j) (hl : ∀ q i, q < 5 → i < n → lg' q i = lg q i) (h : relM k sz r R1 f lg w n) : relM k sz r R1 f' lg' w' n := by
  obtain ⟨⟨F, h1, h2, h3⟩, h4, h5, h6, h7, h8⟩ := h
  refine ⟨⟨F, fun j a b => by rw [hf j a]; exact h1 j a b, h2, h3⟩, ?_, ?_, ?_, ?_, ?_⟩
  · intro e l hl
    rw [hf 0 (by omega)] at e
    have := h4 e l hl
    unfold s_in at this ⊢
    rw [hf (47 + l) (by omega), hf (11 + l) (by omega), hf (17 + l) (by omega)]
    exact this
  · obtain ⟨⟨a0, a1, a2, a3, a4⟩, hk⟩ := h5
    refine ⟨?_, fun l hl => ?_⟩
    · rw [hw 66 (by omega), hw 67 (by omega), hw 68 (by omega), hw 69 (by omega), hw 70 (by omega), hf 0 (by omega), hf 1 (by omega), hf 2 (by omega), hf 3 (by omega), hf 4 (by omega)]
      exact ⟨a0, a1, a2, a3, a4⟩
    · have := hk l hl
      rw [hw (11 * l + 0) (by omega), hw (11 * l + 1) (by omega), hw (11 * l + 2) (by omega), hw (11 * l + 3) (by omega), hw (11 * l + 4) (by omega), hw (11 * l + 5) (by omega), hw (11 * l + 6) (by omega), hw (11 * l + 7) (by omega), hw (11 * l + 8) (by omega), hw (11 * l + 9) (by omega), hf (5 + l) (by omega), hf (11 + l) (by omega), hf (53 + l) (by omega), hf (59 + l) (by omega), hf (17 + l) (by omega), hf (23 + l) (by omega), hf (47 + l) (by omega), hf (29 + l) (by omega), hf (41 + l) (by omega), hf (35 + l) (by omega)]
      exact this
  · intro l hl
    rw [hf (53 + l) (by omega), hf (59 + l) (by omega), hf (65 + l) (by omega), hw (11 * l + 10) (by omega)]
    exact h6 l hl
  · intro l hl
    rw [hf (65 + l) (by omega), hf (59 + l) (by omega), hf 0 (by omega), hf (47 + l) (by omega), hf (53 + l) (by omega)]
    exact h7 l hl
  · refine ⟨?_, fun l hl' => by rw [hf (35 + l) (by omega), rowsN_ext l n (fun i hi => hl 0 i (by omega) hi)]; exact h8.2 l hl'⟩
    intro i hi
    rw [hw (71 + 5 * i) (by omega), hw (71 + 5 * i + 1) (by omega), hw (71 + 5 * i + 2) (by omega), hw (71 + 5 * i + 3) (by omega), hw (71 + 5 * i + 4) (by omega), hl 0 i (by omega) hi, hl 1 i (by omega) hi, hl 2 i (by omega) hi, hl 3 i (by omega) hi, hl 4 i (by omega) hi]
    exact h8.1 i hi
/-! ===== a lift ===== -/
def lg_add (lg : Nat → Nat → Int32) (n : Nat) (v : Nat → Int32) : Nat → Nat → Int32 := fun q => upd (lg q) n (v q)
theorem h_made_hi {t r w : Nat → Int32} {n who rd : Nat} {li : Int32} (hw : who < 6) (good : Bool) (hrd : rd < 2) : (∀ j, 71 ≤ j → (j < 71 + 5 * n ∨ 76 + 5 * n ≤ j) → h_made t r w n who li good rd j = w j) ∧ h_made t r w n who li good rd (71 + 5 * n) = nI who ∧ h_made t r w n who li good rd (71 + 5 * n + 1) = w (11 * who + 0) ∧ h_made t r w n who li good rd (71 + 5 * n + 2) = li ∧ h_made t r w n who li good rd (71 + 5 * n + 3) = w 68 + (if w 69 = nI who then nI 2 else nI 1) ∧ h_made t r w n who li good rd (71 + 5 * n + 4) = w 66 := by
  unfold h_made h_mk2
  cases good with
  | false =>
    simp only [Bool.false_eq_true, if_false]
    refine ⟨fun j h1 h2 => ?_, ?_, ?_, ?_, ?_, ?_⟩ <;> simp (disch := omega) only [up_ne, up_at]
  | true =>
    simp only [if_true]
    rcases (show rd = 0 ∨ rd = 1 by omega) with rfl | rfl
    · simp only [show ¬ (0 = 1) by decide, if_false]
      refine ⟨fun j h1 h2 => ?_, ?_, ?_, ?_, ?_, ?_⟩ <;> simp (disch := omega) only [up_ne, up_at]
    · simp only [if_true]
      refine ⟨fun j h1 h2 => ?_, ?_, ?_, ?_, ?_, ?_⟩ <;> simp (disch := omega) only [up_ne, up_at]
theorem relM_lift {k sz who n li rd : Nat} {t r t' r' f w : Nat → Int32} {T R : Nat → Nat} {lg : Nat → Nat → Int32} (hs : sz ≤ 6) (ht : okT sz t r T R) (htt : ∀ l, l < sz → ∀ j, j < 10 → t' (10 * l + j) = t (l * 10 + j)) (hrr : ∀ j, j < 4 → r' j = r j) (h : relM k sz r (R 1) f lg w n) (hw : who < sz) (hin : s_in r f who = true) (hli : li < 8) (h0 : f 0 = nI rd) (hrd : rd < 2) :
    n < 36 ∧ relM k sz r (R 1) (g_on sz t r (g_made t r f who (gd li))) (lg_add lg n (fun q => if q = 0 then nI who else if q = 1 then f (5 + who) else if q = 2 then nI li else if q = 3 then f 2 + (if f 3 = nI who then nI 2 else nI 1) else nI rd)) (h_on sz t' r' (h_made t' r' w n who (nI li) (gd li) rd)) (n + 1) := by
  obtain ⟨⟨F, h1, h2, h3⟩, h4, h5, h6, h7, h8⟩ := h
  have e0 : F 0 = rd := by
    have := h1 0 (by omega) (by omega)
    rw [h0] at this
    exact ((nI_eq (by omega) (by have := h2.1; omega)).mp this).symm
  have hnn := (in_N hs ht h1 h2 hw).mp hin
  have hn : n < 36 := by
    rw [← h3]
    exact made_lt hs ht.2.2.1.2.1 h2 hw hnn.2.1
  have h4n : f 4 = nI n := by rw [h1 4 (by omega) (by omega), h3]
  refine ⟨hn, ?_⟩
  obtain ⟨F', a1, a2, a3, a4⟩ := inv_made (gd li) hs ht h1 h2 hw hin (by omega)
  have hO : okO sz r (g_made t r f who (gd li)) := by
    intro e
    rw [(g_made_at (t := t) (r := r) (f := f) (who := who) (l := 0) (by omega) (by omega) (gd li)).1, h0] at e
    have := (nI_eq (by omega) (by omega)).mp e
    omega
  obtain ⟨F2, b1, b2, b3, b4, b5⟩ := inv_on hs ht a1 a2 hO
  have hrel := rel_made (t := t) (r := r) (t' := t') (r' := r') (nI li) (gd li) h5 hs hw h0 hrd hn (htt who hw 9 (by omega)) (hrr 0 (by omega)) (hrr 2 (by omega))
  have hB : okB sz (g_made t r f who (gd li)) := by
    intro l hl
    rw [a1 (53 + l) (by omega) (by omega), a1 (47 + l) (by omega) (by omega)]
    have := a2.2.2.2.2 l hl
    unfold okL at this
    refine ⟨⟨_, by omega, rfl⟩, ?_⟩
    rcases (show F' (47 + l) = 0 ∨ F' (47 + l) = 1 by omega) with e | e
    · exact Or.inl (by rw [e])
    · exact Or.inr (by rw [e])
  refine ⟨⟨F2, b1, b2, by omega⟩, b5, rel_on hs hrel hB (fun l hl => htt l hl 8 (by omega)) (hrr 0 (by omega)) (hrr 1 (by omega)), relS_on hs _ _ _ _ (relS_made hs hw _ _ h5 h0 hrd h7 h6), okS_on hs _ _ (okS_made hs hw _ h4n hn h7), ?_, ?_⟩
  case refine_2 =>
    intro l hl
    rw [g_on_hi hs _ _ _ (by omega), g_made_35 (by omega) (by omega)]
    unfold rowsN lg_add
    rw [up_at]
    have hx : rowsN (fun q => upd (lg q) n (if q = 0 then nI who else if q = 1 then f (5 + who) else if q = 2 then nI li else if q = 3 then f 2 + (if f 3 = nI who then nI 2 else nI 1) else nI rd)) l n = rowsN lg l n := rowsN_ext l n (fun i hi => up_ne _ _ (by omega))
    rw [hx]
    simp only [if_true]
    by_cases e : l = who
    · subst e
      rw [if_pos rfl, if_pos rfl, h8.2 l hl, nI_add]
    · rw [if_neg e, if_neg (fun c => e ((nI_eq (by omega) (by omega)).mp c).symm), h8.2 l hl, Nat.add_zero]
  obtain ⟨m0, m1, m2, m3, m4, m5⟩ := h_made_hi (t := t') (r := r') (w := w) (n := n) (who := who) (rd := rd) (li := nI li) (by omega) (gd li) hrd
  intro i hi
  have kp : ∀ j, 71 ≤ j → h_on sz t' r' (h_made t' r' w n who (nI li) (gd li) rd) j = h_made t' r' w n who (nI li) (gd li) rd j := fun j hj => h_on_keep hs t' r' _ (Or.inl (by omega))
  rw [kp _ (by omega), kp _ (by omega), kp _ (by omega), kp _ (by omega), kp _ (by omega)]
  unfold lg_add
  by_cases e : i = n
  · subst e
    simp only [up_at, m1, m2, m3, m4, m5, if_true, show ¬ (1 = 0) by decide, show ¬ (2 = 0) by decide, show ¬ (2 = 1) by decide, show ¬ (3 = 0) by decide, show ¬ (3 = 1) by decide, show ¬ (3 = 2) by decide, show ¬ (4 = 0) by decide, show ¬ (4 = 1) by decide, show ¬ (4 = 2) by decide, show ¬ (4 = 3) by decide, if_false]
    have hL := h2.2.2.2.2 who hw
    unfold okL at hL
    refine ⟨⟨trivial, (h5.2 who hw).1.1, trivial, by rw [h5.1.2.2.1, h5.1.2.2.2.1], by rw [h5.1.1, h0]⟩, who, F (5 + who), li, F 2 + (if f 3 = nI who then 2 else 1), rd, ⟨rfl, h1 _ (by omega) (by omega), rfl, ?_, rfl⟩, hw, by omega, by omega, hli, ?_, hrd⟩
    · rw [h1 2 (by omega) (by omega)]
      by_cases c : f 3 = nI who
      · rw [if_pos c, if_pos c, nI_add]
      · rw [if_neg c, if_neg c, nI_add]
    · have := h2.2.2.1
      split <;> omega
  · rw [m0 _ (by omega) (by omega), m0 _ (by omega) (by omega), m0 _ (by omega) (by omega), m0 _ (by omega) (by omega), m0 _ (by omega) (by omega)]
    simp only [up_ne _ _ e]
    exact h8.1 i (by omega)

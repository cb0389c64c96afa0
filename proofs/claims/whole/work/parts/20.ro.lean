/-! ===== text(0): the class begins a MEET ===== -/
def g_begL (t r : Nat → Int32) : Nat → Nat → (Nat → Int32) → (Nat → Int32)
  | _, 0, f => f
  | i, k + 1, f => g_begL t r (i + 1) k (g_start t r (upd f (29 + i) (t (i * 10 + 6))) i 7)
theorem w_begin_l (d : Nat) {c sz : Nat} (hc : st_ok c) (hs : sz ≤ 6) (σ : pm_H) (hz : σ.1 3 2 = nI sz) : ∀ (k i : Nat) (f : Nat → Int32), i + k = sz → pm_run (xe (d + 2)) pg_X9_begin (10, [.ref c, .int (nI i)], [], pm_wC σ (c + 1) f) = some (none, pm_wC σ (c + 1) (upd (g_begL (σ.1 4) (σ.1 5) i k f) 3 (-1)))
  | 0, i, f, h => by
    rw [sg_X9_begin_10 hc.1 hc.2, wC_ne σ f (st_3 hc), hz, if_neg (nI_nlt (by omega) (by omega))]
    simp (disch := omega) only [ck_n, nI_clamp, wI_wC, wC_at, wC_wC]
    rfl
  | k + 1, i, f, h => by
    rw [sg_X9_begin_10 hc.1 hc.2, wC_ne σ f (st_3 hc), hz, if_pos (nI_lt (by omega) (by omega)), q_hof (d + 1) _ (by omega) (show i < 6 by omega)]
    simp only [pm_cl_some, Option.toList_some, Option.toList_none, List.cons_append, List.nil_append]
    rw [nI_add, sg_X9_begin_39 hc.1 hc.2]
    simp (disch := omega) only [ck_n, nI_clamp, wI_wC, wC_at, wC_wC, wC_ne _ _ (st_4 hc)]
    rw [w_startRound d _ hc (show i < 6 by omega) (by omega)]
    simp only [pm_cl_some, Option.toList_some, Option.toList_none, List.cons_append, List.nil_append]
    rw [sg_X9_begin_47 hc.1 hc.2, nI_add]
    simp only [wC_at, wC_wC, wC_ne _ _ (st_4 hc), wC_ne _ _ (st_5 hc)]
    unfold g_begL
    exact w_begin_l d hc hs σ hz k (i + 1) _ (by omega)
theorem w_begin (d : Nat) (σ : pm_H) {c sz : Nat} (hc : st_ok c) (hs : sz ≤ 6) (hz : σ.1 3 2 = nI sz) : xe (d + 3) 109 [.ref c] σ = some (none, pm_wC σ (c + 1) (upd (g_begL (σ.1 4) (σ.1 5) 0 sz (fun j => if j < 71 then nI 0 else σ.1 (c + 1) j)) 3 (-1))) := by
  rw [en_X9_begin, sg_X9_begin_0 hc.1 hc.2, q_fill (d + 1) σ hc.2 (by omega) (nI 0)]
  simp only [pm_cl_some, Option.toList_some, Option.toList_none, List.cons_append, List.nil_append]
  rw [sg_X9_begin_8 hc.1 hc.2]
  exact w_begin_l d hc hs σ hz sz 0 _ (by omega)
def NB (T R : Nat → Nat) (i : Nat) : Nat → Nat := fun j => if 5 ≤ j ∧ j < 5 + i then T ((j - 5) * 10 + 7) else if 17 ≤ j ∧ j < 17 + i then 1 else if 23 ≤ j ∧ j < 23 + i then R 0 else if 29 ≤ j ∧ j < 29 + i then T ((j - 29) * 10 + 6) else 0
theorem NB_5 (T R : Nat → Nat) {i l : Nat} (h : l < i) : NB T R i (5 + l) = T (l * 10 + 7) := by
  unfold NB
  rw [if_pos (show 5 ≤ 5 + l ∧ 5 + l < 5 + i by omega), Nat.add_sub_cancel_left]
theorem NB_17 (T R : Nat → Nat) {i l : Nat} (hi : i ≤ 6) (h : l < i) : NB T R i (17 + l) = 1 := by
  unfold NB
  rw [if_neg (show ¬ (5 ≤ 17 + l ∧ 17 + l < 5 + i) by omega), if_pos (show 17 ≤ 17 + l ∧ 17 + l < 17 + i by omega)]
theorem NB_23 (T R : Nat → Nat) {i l : Nat} (hi : i ≤ 6) (h : l < i) : NB T R i (23 + l) = R 0 := by
  unfold NB
  rw [if_neg (show ¬ (5 ≤ 23 + l ∧ 23 + l < 5 + i) by omega), if_neg (show ¬ (17 ≤ 23 + l ∧ 23 + l < 17 + i) by omega), if_pos (show 23 ≤ 23 + l ∧ 23 + l < 23 + i by omega)]
theorem NB_29 (T R : Nat → Nat) {i l : Nat} (hi : i ≤ 6) (h : l < i) : NB T R i (29 + l) = T (l * 10 + 6) := by
  unfold NB
  rw [if_neg (show ¬ (5 ≤ 29 + l ∧ 29 + l < 5 + i) by omega), if_neg (show ¬ (17 ≤ 29 + l ∧ 29 + l < 17 + i) by omega), if_neg (show ¬ (23 ≤ 29 + l ∧ 29 + l < 23 + i) by omega), if_pos (show 29 ≤ 29 + l ∧ 29 + l < 29 + i by omega), Nat.add_sub_cancel_left]
theorem NB_0 (T R : Nat → Nat) {i j : Nat} (hi : i ≤ 6) (h : j < 5 ∨ 11 ≤ j ∧ j < 17 ∨ 35 ≤ j) : NB T R i j = 0 := by
  unfold NB
  rw [if_neg (show ¬ (5 ≤ j ∧ j < 5 + i) by omega), if_neg (show ¬ (17 ≤ j ∧ j < 17 + i) by omega), if_neg (show ¬ (23 ≤ j ∧ j < 23 + i) by omega), if_neg (show ¬ (29 ≤ j ∧ j < 29 + i) by omega)]
theorem NB_z (T R : Nat → Nat) (j : Nat) : NB T R 0 j = 0 := by
  unfold NB
  rw [if_neg (show ¬ (5 ≤ j ∧ j < 5 + 0) by omega), if_neg (show ¬ (17 ≤ j ∧ j < 17 + 0) by omega), if_neg (show ¬ (23 ≤ j ∧ j < 23 + 0) by omega), if_neg (show ¬ (29 ≤ j ∧ j < 29 + 0) by omega)]
theorem NB_s (T R : Nat → Nat) {i : Nat} (hi : i < 6) : N_start T R (upn (NB T R i) (29 + i) (T (i * 10 + 6))) i 7 = NB T R (i + 1) := by
  funext j
  unfold N_start
  by_cases h5 : j = 5 + i
  · subst h5
    rw [un_at, NB_5 T R (show i < i + 1 by omega)]
  · rw [un_ne _ _ h5]
    by_cases h17 : j = 17 + i
    · subst h17
      rw [un_at, NB_17 T R (show i + 1 ≤ 6 by omega) (show i < i + 1 by omega)]
    · rw [un_ne _ _ h17]
      by_cases h23 : j = 23 + i
      · subst h23
        rw [un_at, NB_23 T R (show i + 1 ≤ 6 by omega) (show i < i + 1 by omega)]
      · rw [un_ne _ _ h23]
        by_cases h29 : j = 29 + i
        · subst h29
          rw [un_at, NB_29 T R (show i + 1 ≤ 6 by omega) (show i < i + 1 by omega)]
        · rw [un_ne _ _ h29]
          unfold NB
          have e1 : (5 ≤ j ∧ j < 5 + i) ↔ (5 ≤ j ∧ j < 5 + (i + 1)) := by omega
          have e2 : (17 ≤ j ∧ j < 17 + i) ↔ (17 ≤ j ∧ j < 17 + (i + 1)) := by omega
          have e3 : (23 ≤ j ∧ j < 23 + i) ↔ (23 ≤ j ∧ j < 23 + (i + 1)) := by omega
          have e4 : (29 ≤ j ∧ j < 29 + i) ↔ (29 ≤ j ∧ j < 29 + (i + 1)) := by omega
          simp only [e1, e2, e3, e4]
theorem rp_begL {sz : Nat} {t r : Nat → Int32} {T R : Nat → Nat} (hs : sz ≤ 6) (ht : okT sz t r T R) : ∀ (k i : Nat) (f : Nat → Int32), i + k = sz → rp f (NB T R i) → rp (g_begL t r i k f) (NB T R sz)
  | 0, i, f, h, hf => by
    have e : i = sz := by omega
    subst e
    exact hf
  | k + 1, i, f, h, hf => by
    unfold g_begL
    refine rp_begL hs ht k (i + 1) _ (by omega) ?_
    rw [← NB_s T R (show i < 6 by omega)]
    exact rp_start ht (rp_up hf _ (ht.1 i (by omega) 6 (by omega))) (by omega) (by omega)
/-- the reference's row, as it begins -/
def QB (i : Nat) (t r u : Nat → Int32) : Prop := (∀ l, l < i → u (11 * l + 0) = t (10 * l + 7) ∧ u (11 * l + 4) = nI 1 ∧ u (11 * l + 5) = r 0 ∧ u (11 * l + 7) = t (10 * l + 6)) ∧ (∀ l, l < 6 → ∀ a, (a = 1 ∨ a = 2 ∨ a = 3 ∨ a = 6 ∨ a = 8 ∨ a = 9) → u (11 * l + a) = nI 0) ∧ (u 66 = nI 0 ∧ u 67 = nI 0 ∧ u 68 = nI 0 ∧ u 69 = -1 ∧ u 70 = nI 0)
theorem relM_beg {k sz : Nat} {t r t' r' f w : Nat → Int32} {T R : Nat → Nat} {lg : Nat → Nat → Int32} (hs : sz ≤ 6) (ht : okT sz t r T R) (htt : ∀ l, l < sz → ∀ j, j < 10 → t' (10 * l + j) = t (l * 10 + j)) (hrr : ∀ j, j < 4 → r' j = r j) (hf : rp f (NB T R sz)) (h3 : f 3 = -1) (hw : QB sz t' r' w) : relM k sz r (R 1) f lg w 0 := by
  obtain ⟨q1, q2, q66, q67, q68, q69, q70⟩ := hw
  have z : ∀ j, j < 71 → j ≠ 3 → (j < 5 ∨ 11 ≤ j ∧ j < 17 ∨ 35 ≤ j) → f j = nI 0 := fun j h1 h2 h => by rw [hf j h1 h2, NB_0 T R hs h]
  have f0 : f 0 = nI 0 := z 0 (by omega) (by omega) (by omega)
  obtain ⟨t1, t2, ⟨r0, r1, r1', -⟩, tl⟩ := ht
  refine ⟨⟨NB T R sz, hf, ⟨?_, ?_, ?_, ?_, fun l hl => ?_⟩, NB_0 T R hs (by omega)⟩, fun e => ?_, ⟨⟨?_, ?_, ?_, ?_, ?_⟩, fun l hl => ?_⟩, fun l hl h => ?_, fun l hl => ?_, fun i hi => absurd hi (Nat.not_lt_zero i), fun l hl => ?_⟩
  · rw [NB_0 T R hs (by omega)]; omega
  · rw [NB_0 T R hs (by omega)]; omega
  · rw [NB_0 T R hs (show 2 < 5 ∨ _ by omega)]; omega
  · rw [NB_0 T R hs (show 4 < 5 ∨ _ by omega)]
    have := sumN_le (G := fun l => NB T R sz (35 + l)) (b := 0) sz (fun l hl => by
      show NB T R sz (35 + l) ≤ 0
      rw [NB_0 T R hs (by omega)]
      omega)
    omega
  · have a := tl l hl
    unfold okL
    rw [NB_5 T R hl, NB_0 T R hs (show 11 + l < 5 ∨ 11 ≤ 11 + l ∧ 11 + l < 17 ∨ 35 ≤ 11 + l by omega), NB_17 T R hs hl, NB_23 T R hs hl, NB_29 T R hs hl, NB_0 T R hs (show 35 + l < 5 ∨ 11 ≤ 35 + l ∧ 35 + l < 17 ∨ 35 ≤ 35 + l by omega), NB_0 T R hs (show 41 + l < 5 ∨ 11 ≤ 41 + l ∧ 41 + l < 17 ∨ 35 ≤ 41 + l by omega), NB_0 T R hs (show 47 + l < 5 ∨ 11 ≤ 47 + l ∧ 47 + l < 17 ∨ 35 ≤ 47 + l by omega), NB_0 T R hs (show 53 + l < 5 ∨ 11 ≤ 53 + l ∧ 53 + l < 17 ∨ 35 ≤ 53 + l by omega), NB_0 T R hs (show 59 + l < 5 ∨ 11 ≤ 59 + l ∧ 59 + l < 17 ∨ 35 ≤ 59 + l by omega)]
    omega
  · rw [f0] at e
    exact absurd e (by decide)
  · rw [q66, f0]
  · rw [q67, z 1 (by omega) (by omega) (by omega)]
  · rw [q68, z 2 (by omega) (by omega) (by omega)]
  · rw [q69, h3]
  · rw [q70, z 4 (by omega) (by omega) (by omega)]
  · obtain ⟨a0, a4, a5, a7⟩ := q1 l hl
    have b := q2 l (by omega)
    refine ⟨⟨?_, ?_, ?_, ?_, ?_⟩, ?_, ?_, ?_, ?_, ?_⟩
    · rw [a0, htt l hl 7 (by omega), t1 l hl 7 (by omega), hf (5 + l) (by omega) (by omega), NB_5 T R hl]
    · rw [b 1 (by omega), z (11 + l) (by omega) (by omega) (by omega)]
    · rw [b 2 (by omega), z (53 + l) (by omega) (by omega) (by omega)]
    · rw [b 3 (by omega), z (59 + l) (by omega) (by omega) (by omega)]
    · rw [a4, hf (17 + l) (by omega) (by omega), NB_17 T R hs hl]
    · rw [a5, hrr 0 (by omega), t2 0 (by omega), hf (23 + l) (by omega) (by omega), NB_23 T R hs hl]
    · rw [b 6 (by omega), z (47 + l) (by omega) (by omega) (by omega)]
    · rw [a7, htt l hl 6 (by omega), t1 l hl 6 (by omega), hf (29 + l) (by omega) (by omega), NB_29 T R hs hl]
    · rw [b 8 (by omega), z (41 + l) (by omega) (by omega) (by omega)]
    · rw [b 9 (by omega), z (35 + l) (by omega) (by omega) (by omega)]
  · exact absurd (by rw [z (53 + l) (by omega) (by omega) (by omega)]; rfl) h
  · refine ⟨⟨0, by omega, z (65 + l) (by omega) (by omega) (by omega)⟩, fun _ => by rw [z (59 + l) (by omega) (by omega) (by omega)]; rfl, fun h => absurd (by rw [f0]; rfl) h⟩
  · exact z (35 + l) (by omega) (by omega) (by omega)
theorem q_bec3 (d : Nat) (σ : pm_H) : xe (d + 1) 108 [.ref 3, .ref 7] σ = some (none, pm_wC (pm_wC (pm_wI σ 3 2 (σ.1 7 2)) 4 (va_cpy (σ.1 8) (σ.1 4) 0 0 60)) 5 (va_cpy (σ.1 9) (σ.1 5) 0 0 4)) := by
  have hcp : ∀ (L : Nat) (t : Option pm_R), L < 2 ^ 31 → pm_cpk (nI 0) (nI 0) (nI L) L L t = t := fun L t hL => if_pos (by
    rw [nI_clamp (by omega), nI_clamp (by omega)]
    exact ⟨nI_pos (by omega), nI_pos (by omega), nI_pos (by omega), by omega, by omega⟩)
  rw [en_X1_become, sg_X1_become_0, hcp 60 _ (by omega), sg_X1_become_26, hcp 4 _ (by omega), nI_clamp (show 0 < 2 ^ 31 by omega), nI_clamp (show 60 < 2 ^ 31 by omega), nI_clamp (show 4 < 2 ^ 31 by omega)]
  simp only [wI_wC, wC_ne _ _ (show (8 : Nat) ≠ 3 by decide), wC_ne _ _ (show (4 : Nat) ≠ 3 by decide), wC_ne _ _ (show (9 : Nat) ≠ 4 by decide), wC_ne _ _ (show (9 : Nat) ≠ 3 by decide), wC_ne _ _ (show (5 : Nat) ≠ 4 by decide), wC_ne _ _ (show (5 : Nat) ≠ 3 by decide)]
theorem q_takeHall (d : Nat) {sz : Nat} {σ : pm_H} (hs : sz ≤ 6) (h7 : σ.1 7 2 = nI sz) : ∃ σ', xe (d + 5) 107 [.ref 0] σ = some (some (.int (nI sz)), σ') ∧ (∀ c, c ≠ 0 → c ≠ 1 → c ≠ 3 → c ≠ 4 → c ≠ 5 → c ≠ 24 → c ≠ 27 → σ'.1 c = σ.1 c) ∧ σ'.2 = σ.2 ∧ (σ'.1 0 16 = nI 0 ∧ σ'.1 0 17 = nI 0 ∧ ∀ j, j ≠ 16 → j ≠ 17 → σ'.1 0 j = σ.1 0 j) ∧ σ'.1 1 1 = nI 0 ∧ σ'.1 3 2 = nI sz ∧ (∀ j, j < 60 → σ'.1 4 j = σ.1 8 j) ∧ (∀ j, j < 4 → σ'.1 5 j = σ.1 9 j) ∧ (∃ f0 : Nat → Int32, σ'.1 24 = upd (g_begL (σ'.1 4) (σ'.1 5) 0 sz f0) 3 (-1) ∧ ∀ j, j < 71 → f0 j = nI 0) ∧ σ'.1 27 5 = nI 0 := by
  rw [en_X11_takeHall, sg_X11_takeHall_0, q_bec3 (d + 3)]
  simp only [pm_cl_some, Option.toList_some, Option.toList_none, List.cons_append, List.nil_append]
  rw [sg_X11_takeHall_14, h7]
  have a4 : ∀ j, j < 60 → va_cpy (σ.1 8) (σ.1 4) 0 0 60 j = σ.1 8 j := fun j hj => by
    show (if 0 ≤ j ∧ j < 0 + 60 then σ.1 8 (0 + (j - 0)) else σ.1 4 j) = _
    rw [if_pos (by omega), Nat.sub_zero, Nat.zero_add]
  have a5 : ∀ j, j < 4 → va_cpy (σ.1 9) (σ.1 5) 0 0 4 j = σ.1 9 j := fun j hj => by
    show (if 0 ≤ j ∧ j < 0 + 4 then σ.1 9 (0 + (j - 0)) else σ.1 5 j) = _
    rw [if_pos (by omega), Nat.sub_zero, Nat.zero_add]
  generalize va_cpy (σ.1 8) (σ.1 4) 0 0 60 = g4 at a4 ⊢
  generalize va_cpy (σ.1 9) (σ.1 5) 0 0 4 = g5 at a5 ⊢
  have hz : (pm_wI (pm_wC (pm_wC (pm_wI σ 3 2 (nI sz)) 4 g4) 5 g5) 1 1 (nI 0)).1 3 2 = nI sz := by rw [wI_wC, wC_ne _ _ (by decide), wC_ne _ _ (by decide), wC_ne _ _ (by decide), wI_wC, wC_at, up_at]
  rw [w_begin (d + 1) _ st_23 hs hz]
  simp only [pm_cl_some, Option.toList_some, Option.toList_none, List.cons_append, List.nil_append]
  rw [sg_X11_takeHall_29, sg_X11_takeHall_47]
  refine ⟨_, congrArg (fun v => some (some (Value.int v), _)) ?_, fun c a0 a1 a3 a4' a5' a24 a27 => ?_, rfl, ⟨?_, ?_, fun j j1 j2 => ?_⟩, ?_, ?_, fun j hj => ?_, fun j hj => ?_, ⟨fun j => if j < 71 then nI 0 else (pm_wI (pm_wC (pm_wC (pm_wI σ 3 2 (nI sz)) 4 g4) 5 g5) 1 1 (nI 0)).1 (23 + 1) j, ?_, fun j hj => if_pos hj⟩, ?_⟩
  · rw [wI_wC, wC_ne _ _ (by decide), wI_wC, wC_ne _ _ (by decide), wI_wC, wC_ne _ _ (by decide), wC_ne _ _ (by decide)]
    exact hz
  · rw [wI_wC, wC_ne _ _ a0, wI_wC, wC_ne _ _ a0, wI_wC, wC_ne _ _ a27, wC_ne _ _ a24, wI_wC, wC_ne _ _ a1, wC_ne _ _ a5', wC_ne _ _ a4', wI_wC, wC_ne _ _ a3]
  · rw [wI_wC, wC_at, up_ne _ _ (by decide), wI_wC, wC_at, up_at]
  · rw [wI_wC, wC_at, up_at]
  · rw [wI_wC, wC_at, up_ne _ _ j2, wI_wC, wC_at, up_ne _ _ j1, wI_wC, wC_ne _ _ (by decide), wC_ne _ _ (by decide), wI_wC, wC_ne _ _ (by decide), wC_ne _ _ (by decide), wC_ne _ _ (by decide), wI_wC, wC_ne _ _ (by decide)]
  · rw [wI_wC, wC_ne _ _ (by decide), wI_wC, wC_ne _ _ (by decide), wI_wC, wC_ne _ _ (by decide), wC_ne _ _ (by decide), wI_wC, wC_at, up_at]
  · rw [wI_wC, wC_ne _ _ (by decide), wI_wC, wC_ne _ _ (by decide), wI_wC, wC_ne _ _ (by decide), wC_ne _ _ (by decide)]
    exact hz
  · rw [wI_wC, wC_ne _ _ (by decide), wI_wC, wC_ne _ _ (by decide), wI_wC, wC_ne _ _ (by decide), wC_ne _ _ (by decide), wI_wC, wC_ne _ _ (by decide), wC_ne _ _ (by decide), wC_at]
    exact a4 j hj
  · rw [wI_wC, wC_ne _ _ (by decide), wI_wC, wC_ne _ _ (by decide), wI_wC, wC_ne _ _ (by decide), wC_ne _ _ (by decide), wI_wC, wC_ne _ _ (by decide), wC_at]
    exact a5 j hj
  · have e4 : (pm_wI (pm_wC (pm_wC (pm_wI σ 3 2 (nI sz)) 4 g4) 5 g5) 1 1 (nI 0)).1 4 = g4 := by rw [wI_wC, wC_ne _ _ (by decide), wC_ne _ _ (by decide), wC_at]
    have e5 : (pm_wI (pm_wC (pm_wC (pm_wI σ 3 2 (nI sz)) 4 g4) 5 g5) 1 1 (nI 0)).1 5 = g5 := by rw [wI_wC, wC_ne _ _ (by decide), wC_at]
    generalize pm_wI (pm_wC (pm_wC (pm_wI σ 3 2 (nI sz)) 4 g4) 5 g5) 1 1 (nI 0) = σq at e4 e5 ⊢
    have up4 : ∀ F : Nat → Int32, (pm_wI (pm_wI (pm_wI (pm_wC σq (23 + 1) F) 27 5 (nI 0)) 0 16 (nI 0)) 0 17 (nI 0)).1 4 = σq.1 4 := fun F => by rw [wI_wC, wC_ne _ _ (by decide), wI_wC, wC_ne _ _ (by decide), wI_wC, wC_ne _ _ (by decide), wC_ne _ _ (by decide)]
    have up5 : ∀ F : Nat → Int32, (pm_wI (pm_wI (pm_wI (pm_wC σq (23 + 1) F) 27 5 (nI 0)) 0 16 (nI 0)) 0 17 (nI 0)).1 5 = σq.1 5 := fun F => by rw [wI_wC, wC_ne _ _ (by decide), wI_wC, wC_ne _ _ (by decide), wI_wC, wC_ne _ _ (by decide), wC_ne _ _ (by decide)]
    have up24 : ∀ F : Nat → Int32, (pm_wI (pm_wI (pm_wI (pm_wC σq (23 + 1) F) 27 5 (nI 0)) 0 16 (nI 0)) 0 17 (nI 0)).1 24 = F := fun F => by rw [wI_wC, wC_ne _ _ (by decide), wI_wC, wC_ne _ _ (by decide), wI_wC, wC_ne _ _ (by decide), wC_at]
    rw [up4, up5, up24]
  · rw [wI_wC, wC_ne _ _ (by decide), wI_wC, wC_ne _ _ (by decide), wI_wC, wC_at, up_at]

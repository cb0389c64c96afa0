/-! ===== the reference: on to the jerk; a lift ===== -/
theorem rw_ne {q e : Nat} (hq : rw_ok q) (h : pm_kd e ≠ .inl (0, 251, 0)) : e ≠ q := fun h2 => h (by rw [h2]; exact hq)
theorem rw_133 {q : Nat} (hq : rw_ok q) : 133 ≠ q := rw_ne hq (by rw [kd_133]; exact fun h => by cases h)
theorem rw_138 {q : Nat} (hq : rw_ok q) : 138 ≠ q := rw_ne hq (by rw [kd_138]; exact fun h => by cases h)
theorem rw_140 {q : Nat} (hq : rw_ok q) : 140 ≠ q := rw_ne hq (by rw [kd_140]; exact fun h => by cases h)
def h_jerk1 (t r w : Nat → Int32) (l : Nat) : Nat → Int32 :=
  let w1 := upd (upd w (11 * l + 1) (nI 0)) (11 * l + 8) (w 68)
  if w (11 * l + 2) = 0 then upd w1 (11 * l + 6) (nI 1)
  else if w (11 * l + 6) = nI 1 then w1 else upd (upd (upd w1 (11 * l + 0) (t (10 * l + 8))) (11 * l + 4) (nI 1)) (11 * l + 5) (r 0)
def h_jerkL (t r : Nat → Int32) : Nat → Nat → (Nat → Int32) → (Nat → Int32)
  | _, 0, w => w
  | i, k + 1, w => h_jerkL t r (i + 1) k (h_jerk1 t r w i)
def h_jerk (sz : Nat) (t r w : Nat → Int32) : Nat → Int32 := h_jerkL t r 0 sz (upd (upd (upd w 66 (w 66 + nI 1)) 67 (nI 0)) 69 (-1))
theorem r_jerk_l (d : Nat) {q sz : Nat} (hq : rw_ok q) (hs : sz ≤ 6) (σ : pm_H) (hz : σ.1 133 22 = nI sz) : ∀ (k i : Nat) (w : Nat → Int32) (v : Value), i + k = sz → ∃ v', pm_run (xe (d + 2)) pg_X12_goesOn (45, [.ref 133, .ref q, .int (nI i), v], [], pm_wC σ q w) = pm_run (xe (d + 2)) pg_X12_goesOn (0, [.ref 133, .ref q, v', .null], [], pm_wC σ q (h_jerkL (σ.1 138) (σ.1 140) i k w))
  | 0, i, w, v, h => by
    refine ⟨.int (nI i), ?_⟩
    rw [sg_X12_goesOn_45 hq, wC_ne σ w (rw_133 hq), hz, if_neg (nI_nlt (by omega) (by omega))]
    rfl
  | k + 1, i, w, v, h => by
    obtain ⟨v', hv'⟩ := r_jerk_l d hq hs σ hz k (i + 1) (h_jerk1 (σ.1 138) (σ.1 140) w i) (.int (nI (11 * i))) (by omega)
    refine ⟨v', ?_⟩
    rw [sg_X12_goesOn_45 hq, wC_ne σ w (rw_133 hq), hz, if_pos (nI_lt (by omega) (by omega))]
    simp (disch := omega) only [pk_mul, nI_add, ck_n, nI_clamp, wI_wC, wC_at, wC_wC, up_ne]
    rw [sg_X12_goesOn_74 hq]
    simp (disch := omega) only [pk_mul, nI_add, ck_n, nI_clamp, wI_wC, wC_at, wC_wC, up_ne, up_at, wC_ne _ _ (rw_138 hq), wC_ne _ _ (rw_140 hq)]
    unfold h_jerkL
    rw [← hv']
    unfold h_jerk1
    by_cases h1 : w (11 * i + 2) = 0
    · simp only [h1, if_true]
    · by_cases h2 : w (11 * i + 6) = nI 1
      · simp only [h1, h2, if_true, if_false]
      · simp only [h1, h2, if_false]
        rw [sg_X12_goesOn_136 hq, nI_add]
theorem r_goesOn_0 (d : Nat) (σ : pm_H) {q sz : Nat} (hq : rw_ok q) (hs : sz ≤ 6) (hz : σ.1 133 22 = nI sz) (w : Nat → Int32) (v v2 : Value) (h : w 66 = nI 2 ∨ ¬ cnt (m_on (σ.1 140) w) 0 sz = 0) : pm_run (xe (d + 2)) pg_X12_goesOn (0, [.ref 133, .ref q, v, v2], [], pm_wC σ q w) = some (none, pm_wC σ q w) := by
  rw [sg_X12_goesOn_0 hq]
  simp (disch := omega) only [ck_n, nI_clamp, wC_at]
  by_cases h2 : w 66 < nI 2
  · have h3 : ¬ cnt (m_on (σ.1 140) w) 0 sz = 0 := h.resolve_left (fun e => by rw [e] at h2; exact Int32.lt_irrefl h2)
    rw [if_pos h2, r_howMany d _ hq (by rw [wC_ne σ w (rw_133 hq)]; exact hz) hs]
    simp only [pm_cl_some, Option.toList_some, List.cons_append, List.nil_append, wC_at, wC_ne _ _ (rw_140 hq)]
    rw [sg_X12_goesOn_13 hq, if_neg h3]
  · rw [if_neg h2]
theorem r_goesOn_1 (d : Nat) (σ : pm_H) {q sz : Nat} (hq : rw_ok q) (hs : sz ≤ 6) (hz : σ.1 133 22 = nI sz) (w : Nat → Int32) (v v2 : Value) (h : w 66 = nI 1) (hc : cnt (m_on (σ.1 140) w) 0 sz = 0) : pm_run (xe (d + 2)) pg_X12_goesOn (0, [.ref 133, .ref q, v, v2], [], pm_wC σ q w) = some (none, pm_wC σ q (upd w 66 (nI 2))) := by
  rw [sg_X12_goesOn_0 hq]
  simp (disch := omega) only [ck_n, nI_clamp, wC_at]
  rw [h, if_pos (by decide), r_howMany d _ hq (by rw [wC_ne σ w (rw_133 hq)]; exact hz) hs]
  simp only [pm_cl_some, Option.toList_some, List.cons_append, List.nil_append, wC_at, wC_ne _ _ (rw_140 hq)]
  rw [sg_X12_goesOn_13 hq, if_pos hc]
  simp (disch := omega) only [ck_n, nI_clamp, wI_wC, wC_at, wC_wC, up_at, h, nI_add, Nat.reduceAdd, if_true]
theorem r_goesOn_2 (d : Nat) (σ : pm_H) {q sz : Nat} (hq : rw_ok q) (hs : sz ≤ 6) (hz : σ.1 133 22 = nI sz) (w : Nat → Int32) (v v2 : Value) (h : w 66 = nI 0) (hc : cnt (m_on (σ.1 140) w) 0 sz = 0) : ∃ v', pm_run (xe (d + 2)) pg_X12_goesOn (0, [.ref 133, .ref q, v, v2], [], pm_wC σ q w) = pm_run (xe (d + 2)) pg_X12_goesOn (0, [.ref 133, .ref q, v', .null], [], pm_wC σ q (h_jerk sz (σ.1 138) (σ.1 140) w)) := by
  obtain ⟨v', hv'⟩ := r_jerk_l d hq hs σ hz sz 0 (upd (upd (upd w 66 (w 66 + nI 1)) 67 (nI 0)) 69 (-1)) .null (by omega)
  refine ⟨v', ?_⟩
  unfold h_jerk
  rw [← hv', sg_X12_goesOn_0 hq]
  simp (disch := omega) only [ck_n, nI_clamp, wC_at]
  rw [h, if_pos (by decide), r_howMany d _ hq (by rw [wC_ne σ w (rw_133 hq)]; exact hz) hs]
  simp only [pm_cl_some, Option.toList_some, List.cons_append, List.nil_append, wC_at, wC_ne _ _ (rw_140 hq)]
  rw [sg_X12_goesOn_13 hq, if_pos hc]
  simp (disch := omega) only [ck_n, nI_clamp, wI_wC, wC_at, wC_wC, up_at, h, nI_add, Nat.reduceAdd]
  rw [if_neg (by decide), sg_X12_goesOn_43 hq]
def h_over (sz : Nat) (r w : Nat → Int32) : Nat → Int32 := if w 66 = nI 1 then (if cnt (m_on r w) 0 sz = 0 then upd w 66 (nI 2) else w) else w
def h_on (sz : Nat) (t r w : Nat → Int32) : Nat → Int32 := h_over sz r (if w 66 = nI 0 then (if cnt (m_on r w) 0 sz = 0 then h_jerk sz t r w else w) else w)
theorem h_jerk1_66 (t r w : Nat → Int32) (l : Nat) (hl : l < 6) : h_jerk1 t r w l 66 = w 66 := by
  unfold h_jerk1
  by_cases h1 : w (11 * l + 2) = 0
  · simp (disch := omega) only [h1, if_true, up_ne]
  · by_cases h2 : w (11 * l + 6) = nI 1
    · simp (disch := omega) only [h1, h2, if_true, if_false, up_ne]
    · simp (disch := omega) only [h1, h2, if_false, up_ne]
theorem h_jerkL_66 (t r : Nat → Int32) : ∀ (k i : Nat) (w : Nat → Int32), i + k ≤ 6 → h_jerkL t r i k w 66 = w 66
  | 0, _, _, _ => rfl
  | k + 1, i, w, h => by
    unfold h_jerkL
    rw [h_jerkL_66 t r k (i + 1) _ (by omega), h_jerk1_66 t r w i (by omega)]
theorem r_goesOn (d : Nat) (σ : pm_H) {q sz : Nat} (hq : rw_ok q) (hs : sz ≤ 6) (hz : σ.1 133 22 = nI sz) (h : σ.1 q 66 = nI 0 ∨ σ.1 q 66 = nI 1 ∨ σ.1 q 66 = nI 2) : xe (d + 3) 181 [.ref 133, .ref q] σ = some (none, pm_wC σ q (h_on sz (σ.1 138) (σ.1 140) (σ.1 q))) := by
  rw [en_X12_goesOn]
  have key : ∀ (w : Nat → Int32) (v v2 : Value), (w 66 = nI 1 ∨ w 66 = nI 2) → pm_run (xe (d + 2)) pg_X12_goesOn (0, [.ref 133, .ref q, v, v2], [], pm_wC σ q w) = some (none, pm_wC σ q (h_over sz (σ.1 140) w)) := by
    intro w v v2 hw
    unfold h_over
    rcases hw with hw | hw
    · by_cases hc : cnt (m_on (σ.1 140) w) 0 sz = 0
      · rw [r_goesOn_1 d σ hq hs hz w v v2 hw hc, if_pos hw, if_pos hc]
      · rw [r_goesOn_0 d σ hq hs hz w v v2 (Or.inr hc), if_pos hw, if_neg hc]
    · rw [r_goesOn_0 d σ hq hs hz w v v2 (Or.inl hw), if_neg (by rw [hw]; decide)]
  conv => lhs; rw [← wC_self σ q]
  unfold h_on
  rcases h with h | h
  · rw [if_pos h]
    by_cases hc : cnt (m_on (σ.1 140) (σ.1 q)) 0 sz = 0
    · obtain ⟨v', hv'⟩ := r_goesOn_2 d σ hq hs hz (σ.1 q) .null .null h hc
      rw [if_pos hc, hv', key _ _ _ (Or.inl ?_)]
      unfold h_jerk
      rw [h_jerkL_66 _ _ sz 0 _ (by omega)]
      simp (disch := omega) only [up_ne, up_at, h, nI_add, Nat.reduceAdd]
    · rw [if_neg hc, r_goesOn_0 d σ hq hs hz (σ.1 q) .null .null (Or.inr hc)]
      unfold h_over
      rw [if_neg (by rw [h]; decide)]
  · rw [if_neg (by rcases h with h | h <;> rw [h] <;> decide)]
    exact key _ _ _ h

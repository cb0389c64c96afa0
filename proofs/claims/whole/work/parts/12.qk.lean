/-! ===== how many lifts can be left ===== -/
theorem q_triesLeft (d : Nat) (σ : pm_H) {c l : Nat} (hc : st_ok c) (hl : l < 6) : xe (d + 2) 209 [.ref c, .int (nI l)] σ = some (some (.int (σ.1 5 1 - σ.1 (c + 1) (11 + l))), σ) := by
  rw [en_X9_triesLeft, sg_X9_triesLeft_0 hc.1 hc.2, q_tries]
  simp only [pm_cl_some, Option.toList_some, List.cons_append, List.nil_append]
  rw [sg_X9_triesLeft_7 hc.1 hc.2]
  simp (disch := omega) only [nI_add, ck_n, nI_clamp]
def sumL (g : Nat → Int32) : Nat → Nat → Int32
  | _, 0 => nI 0
  | i, k + 1 => g i + sumL g (i + 1) k
theorem sumL_eq {g g' : Nat → Int32} {sz : Nat} (hg : ∀ l, l < sz → g l = g' l) : ∀ (k i : Nat), i + k = sz → sumL g i k = sumL g' i k
  | 0, _, _ => rfl
  | k + 1, i, h => by
    unfold sumL
    rw [hg i (by omega), sumL_eq hg k (i + 1) (by omega)]
def s_left1 (r f : Nat → Int32) (i : Nat) : Int32 :=
  (if s_in r f i = true then r 1 - f (11 + i) else nI 0) + (if f 0 = 0 ∧ (s_in r f i = true ∨ (0 < f (53 + i) ∧ f (47 + i) = 0)) then r 1 else nI 0)
theorem q_left_l (d : Nat) (σ : pm_H) {c sz : Nat} (hc : st_ok c) (hz : σ.1 3 2 = nI sz) (hs : sz ≤ 6) : ∀ (k i : Nat) (a : Int32) (v v2 : Value), i + k = sz → pm_run (xe (d + 2)) pg_X9_liftsLeft (4, [.ref c, .int a, .int (nI i), v, v2], [], σ) = some (some (.int (a + sumL (s_left1 (σ.1 5) (σ.1 (c + 1))) i k)), σ)
  | 0, i, a, v, v2, h => by
    rw [sg_X9_liftsLeft_4 hc.1 hc.2, hz, if_neg (nI_nlt (by omega) (by omega))]
    simp only [sumL, add_n0]
  | k + 1, i, a, v, v2, h => by
    have ih := fun b v v2 => q_left_l d σ hc hz hs k (i + 1) b v v2 (by omega)
    have z1 : ¬ nI 1 = (0 : Int32) := by decide
    have z0 : nI 0 = (0 : Int32) := by decide
    rw [sg_X9_liftsLeft_4 hc.1 hc.2, hz, if_pos (nI_lt (by omega) (by omega)), q_isIn d σ hc (by omega)]
    simp only [pm_cl_some, Option.toList_some, List.cons_append, List.nil_append]
    rw [sg_X9_liftsLeft_20 hc.1 hc.2]
    unfold sumL
    generalize sumL (s_left1 (σ.1 5) (σ.1 (c + 1))) (i + 1) k = S at ih ⊢
    unfold s_left1
    cases hp : s_in (σ.1 5) (σ.1 (c + 1)) i
    · simp only [Bool.false_eq_true, if_false, false_or]
      rw [if_pos (show b32 false = 0 by decide), if_pos (show b32 false = 0 by decide), q_best (d + 1) σ hc (by omega) (by omega)]
      simp only [pm_cl_some, Option.toList_some, List.cons_append, List.nil_append]
      rw [sg_X9_liftsLeft_47 hc.1 hc.2]
      simp (disch := omega) only [nI_add, ck_n, nI_clamp, Nat.zero_mul, Nat.add_zero, q_tries, pm_cl_some, Option.toList_some, List.cons_append, List.nil_append, sg_X9_liftsLeft_91 hc.1 hc.2, ih, z1, if_false, if_pos z0]
      by_cases h1 : 0 < σ.1 (c + 1) (53 + i)
      · by_cases h2 : σ.1 (c + 1) (47 + i) = 0
        · by_cases h3 : σ.1 (c + 1) 0 = 0 <;> simp only [h1, h2, h3, and_self, and_true, false_and, if_true, if_false, add_n0, n0_add, Int32.add_assoc]
        · by_cases h3 : σ.1 (c + 1) 0 = 0 <;> simp only [h1, h2, h3, and_false, false_and, if_true, if_false, add_n0, n0_add, Int32.add_assoc]
      · by_cases h3 : σ.1 (c + 1) 0 = 0 <;> simp only [h1, h3, false_and, and_false, if_true, if_false, add_n0, n0_add, Int32.add_assoc]
    · simp only [if_true, true_or, and_true]
      rw [if_neg (show ¬ b32 true = 0 by decide), q_triesLeft d σ hc (by omega)]
      simp only [pm_cl_some, Option.toList_some, List.cons_append, List.nil_append]
      rw [sg_X9_liftsLeft_31 hc.1 hc.2, if_neg (show ¬ b32 true = 0 by decide)]
      simp (disch := omega) only [nI_add, ck_n, nI_clamp, q_tries, pm_cl_some, Option.toList_some, List.cons_append, List.nil_append, sg_X9_liftsLeft_91 hc.1 hc.2, ih, z1, if_false]
      by_cases h3 : σ.1 (c + 1) 0 = 0 <;> simp only [h3, if_true, if_false, add_n0, n0_add, Int32.add_assoc]
theorem q_left (d : Nat) (σ : pm_H) {c sz : Nat} (hc : st_ok c) (hz : σ.1 3 2 = nI sz) (hs : sz ≤ 6) : xe (d + 3) 208 [.ref c] σ = some (some (.int (sumL (s_left1 (σ.1 5) (σ.1 (c + 1))) 0 sz)), σ) := by
  rw [en_X9_liftsLeft, sg_X9_liftsLeft_0 hc.1 hc.2, q_left_l d σ hc hz hs sz 0 (nI 0) .null .null (by omega), n0_add]
def m_left1 (r w : Nat → Int32) (i : Nat) : Int32 :=
  (if m_on r w i = true then r 1 - w (11 * i + 1) else nI 0) + (if w 66 = 0 ∧ (m_on r w i = true ∨ (0 < w (11 * i + 2) ∧ w (11 * i + 6) = 0)) then r 1 else nI 0)
theorem r_left_l (d : Nat) (σ : pm_H) {q sz : Nat} (hq : rw_ok q) (hz : σ.1 133 22 = nI sz) (hs : sz ≤ 6) : ∀ (k i : Nat) (a : Int32) (v v2 : Value), i + k = sz → pm_run (xe (d + 1)) pg_X12_leftIn (4, [.ref 133, .ref q, .int a, .int (nI i), v, v2], [], σ) = some (some (.int (a + sumL (m_left1 (σ.1 140) (σ.1 q)) i k)), σ)
  | 0, i, a, v, v2, h => by
    rw [sg_X12_leftIn_4 hq, hz, if_neg (nI_nlt (by omega) (by omega))]
    simp only [sumL, add_n0]
  | k + 1, i, a, v, v2, h => by
    have ih := fun b v v2 => r_left_l d σ hq hz hs k (i + 1) b v v2 (by omega)
    rw [sg_X12_leftIn_4 hq, hz, if_pos (nI_lt (by omega) (by omega)), r_isOn d σ hq (by omega)]
    simp only [pm_cl_some, Option.toList_some, List.cons_append, List.nil_append, pk_mul]
    rw [sg_X12_leftIn_24 hq]
    unfold sumL
    generalize sumL (m_left1 (σ.1 140) (σ.1 q)) (i + 1) k = S at ih ⊢
    unfold m_left1
    cases hp : m_on (σ.1 140) (σ.1 q) i
    · simp (disch := omega) only [show b32 false = 0 by decide, if_true, Bool.false_eq_true, if_false, false_or, nI_add, ck_n, nI_clamp, ih]
      by_cases h1 : 0 < σ.1 q (11 * i + 2)
      · by_cases h2 : σ.1 q (11 * i + 6) = 0
        · by_cases h3 : σ.1 q 66 = 0 <;> simp only [h1, h2, h3, and_self, and_true, false_and, if_true, if_false, add_n0, n0_add, Int32.add_assoc]
        · by_cases h3 : σ.1 q 66 = 0 <;> simp only [h1, h2, h3, and_false, false_and, if_true, if_false, add_n0, n0_add, Int32.add_assoc]
      · by_cases h3 : σ.1 q 66 = 0 <;> simp only [h1, h3, false_and, and_false, if_true, if_false, add_n0, n0_add, Int32.add_assoc]
    · simp (disch := omega) only [show ¬ b32 true = 0 by decide, if_true, if_false, true_or, and_true, nI_add, ck_n, nI_clamp, ih]
      by_cases h3 : σ.1 q 66 = 0 <;> simp only [h3, if_true, if_false, add_n0, n0_add, Int32.add_assoc]
theorem r_left (d : Nat) (σ : pm_H) {q sz : Nat} (hq : rw_ok q) (hz : σ.1 133 22 = nI sz) (hs : sz ≤ 6) : xe (d + 2) 211 [.ref 133, .ref q] σ = some (some (.int (sumL (m_left1 (σ.1 140) (σ.1 q)) 0 sz)), σ) := by
  rw [en_X12_leftIn, sg_X12_leftIn_0 hq, r_left_l d σ hq hz hs sz 0 (nI 0) .null .null (by omega), n0_add]
theorem left_eq {sz : Nat} {r r' f w : Nat → Int32} (hr : relW sz f w) (ho : okO sz r f) (h2 : f 0 < nI 2 ∨ f 0 = nI 2) (hr1 : r' 1 = r 1) : sumL (m_left1 r' w) 0 sz = sumL (s_left1 r f) 0 sz := by
  refine sumL_eq (sz := sz) (fun l hl => ?_) sz 0 (by omega)
  obtain ⟨⟨-, c1, c2, -, -⟩, -, c6, -⟩ := hr.2 l hl
  have hon : m_on r' w l = s_in r f l := by
    rcases h2 with h2 | h2
    · exact on_in2 hr hr1 h2 hl
    · rw [ho h2 l hl]
      unfold m_on
      rw [hr.1.1, h2]
      rfl
  unfold m_left1 s_left1
  rw [hon, hr.1.1, c1, c2, c6, hr1]

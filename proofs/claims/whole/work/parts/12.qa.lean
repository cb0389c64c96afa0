/-! ===== numbers that are small, in the equations ===== -/
theorem ck_n {k n : Nat} (t : Option pm_R) (h : k < n) (hn : n < 2 ^ 31) : pm_ck (nI k) n t = t := pm_ck_nI h hn t
theorem add_n0 (a : Int32) : a + nI 0 = a := by rw [nI_0]; exact Int32.add_zero a
theorem n0_add (a : Int32) : nI 0 + a = a := by rw [nI_0]; exact Int32.zero_add a
def b32 (b : Bool) : Int32 := cond b (nI 1) (nI 0)
theorem b32_0 (b : Bool) : b32 b = 0 ↔ b = false := by cases b <;> decide
/-- what holds of a Stand's two cells -/
def st_ok (c : Nat) : Prop := pm_kd c = .inr (9, [6, (c + 1) + 3]) ∧ pm_kd (c + 1) = .inl (0, 71, 0)
theorem st_23 : st_ok 23 := ⟨rfl, rfl⟩
theorem st_25 : st_ok 25 := ⟨rfl, rfl⟩
theorem st_33 : st_ok 33 := ⟨rfl, rfl⟩
theorem st_lev : ∀ i, i < 13 → st_ok (44 + 2 * i) := by
  intro i hi
  rcases (show i = 0 ∨ i = 1 ∨ i = 2 ∨ i = 3 ∨ i = 4 ∨ i = 5 ∨ i = 6 ∨ i = 7 ∨ i = 8 ∨ i = 9 ∨ i = 10 ∨ i = 11 ∨ i = 12 by omega) with rfl | rfl | rfl | rfl | rfl | rfl | rfl | rfl | rfl | rfl | rfl | rfl | rfl <;> exact ⟨rfl, rfl⟩
/-- how many of k, from i on -/
def cnt (p : Nat → Bool) : Nat → Nat → Int32
  | _, 0 => nI 0
  | i, k + 1 => b32 (p i) + cnt p (i + 1) k
/-- the first by an order, of k, from i on, b so far -/
def nx1 (p : Nat → Bool) (ah : Nat → Nat → Bool) : Nat → Nat → Option Nat → Option Nat
  | _, 0, b => b
  | i, k + 1, b => nx1 p ah (i + 1) k (if p i && (match b with
    | none => true
    | some j => ah i j) then some i else b)
def oi (b : Option Nat) : Int32 := match b with
  | none => -1
  | some j => nI j
theorem nI_nm1 {n : Nat} (h : n < 2 ^ 31) : ¬ nI n = -1 := fun e => by
  have h1 := congrArg Int32.toInt e
  rw [nI_toInt h] at h1
  have h2 : (-1 : Int32).toInt = -1 := by decide
  omega
/-- whether none of k, from i on -/
def non (p : Nat → Bool) : Nat → Nat → Bool
  | _, 0 => true
  | i, k + 1 => !p i && non p (i + 1) k
/-! ===== Hall and Stand: what is read ===== -/
theorem q_tries (d : Nat) (σ : pm_H) : xe (d + 1) 120 [.ref 3] σ = some (some (.int (σ.1 5 1)), σ) := by
  rw [en_X1_tries, sg_X1_tries_0]
  simp (disch := omega) only [ck_n, nI_clamp]
theorem q_changes (d : Nat) (σ : pm_H) : xe (d + 1) 113 [.ref 3] σ = some (some (.int (σ.1 5 0)), σ) := by
  rw [en_X1_changes, sg_X1_changes_0]
  simp (disch := omega) only [ck_n, nI_clamp]
theorem q_step (d : Nat) (σ : pm_H) : xe (d + 1) 172 [.ref 3] σ = some (some (.int (σ.1 5 2)), σ) := by
  rw [en_X1_step, sg_X1_step_0]
  simp (disch := omega) only [ck_n, nI_clamp]
theorem q_hof (d : Nat) (σ : pm_H) {k l : Nat} (hk : k < 10) (hl : l < 6) : xe (d + 1) 111 [.ref 3, .int (nI k), .int (nI l)] σ = some (some (.int (σ.1 4 (l * 10 + k))), σ) := by
  rw [en_X1_of, sg_X1_of_0]
  simp (disch := omega) only [pk_mul, nI_add, ck_n, nI_clamp]
theorem q_of (d : Nat) (σ : pm_H) {c a l : Nat} (hc : st_ok c) (h : a + l < 71) : xe (d + 1) 118 [.ref c, .int (nI a), .int (nI l)] σ = some (some (.int (σ.1 (c + 1) (a + l))), σ) := by
  rw [en_X9_of, sg_X9_of_0 hc.1 hc.2]
  simp (disch := omega) only [nI_add, ck_n, nI_clamp]
theorem q_best (d : Nat) (σ : pm_H) {c a l : Nat} (hc : st_ok c) (ha : a < 2) (hl : l < 6) : xe (d + 1) 121 [.ref c, .int (nI a), .int (nI l)] σ = some (some (.int (σ.1 (c + 1) (53 + a * 6 + l))), σ) := by
  rw [en_X9_best, sg_X9_best_0 hc.1 hc.2]
  simp (disch := omega) only [pk_mul, nI_add, ck_n, nI_clamp]
theorem q_waited (d : Nat) (σ : pm_H) {c l : Nat} (hc : st_ok c) (hl : l < 6) : xe (d + 1) 126 [.ref c, .int (nI l)] σ = some (some (.int (σ.1 (c + 1) 2 - σ.1 (c + 1) (41 + l))), σ) := by
  rw [en_X9_waited, sg_X9_waited_0 hc.1 hc.2]
  simp (disch := omega) only [nI_add, ck_n, nI_clamp]
def s_least (f : Nat → Int32) (l : Nat) : Int32 := if f (17 + l) < f 1 then f 1 else f (17 + l)
theorem q_least (d : Nat) (σ : pm_H) {c l : Nat} (hc : st_ok c) (hl : l < 6) : xe (d + 1) 185 [.ref c, .int (nI l)] σ = some (some (.int (s_least (σ.1 (c + 1)) l)), σ) := by
  rw [en_X9_least, sg_X9_least_0 hc.1 hc.2]
  simp (disch := omega) only [nI_add, ck_n, nI_clamp, s_least]
/-- IN -/
def s_in (r f : Nat → Int32) (l : Nat) : Bool := decide (f (47 + l) = 0) && (decide (f (11 + l) < r 1) && !decide (nI 99 < f (17 + l)))
theorem q_isIn (d : Nat) (σ : pm_H) {c l : Nat} (hc : st_ok c) (hl : l < 6) : xe (d + 2) 119 [.ref c, .int (nI l)] σ = some (some (.int (b32 (s_in (σ.1 5) (σ.1 (c + 1)) l))), σ) := by
  rw [en_X9_isIn, sg_X9_isIn_0 hc.1 hc.2]
  simp (disch := omega) only [nI_add, ck_n, nI_clamp, q_tries, pm_cl_some, Option.toList_some, List.cons_append, List.nil_append, sg_X9_isIn_28 hc.1 hc.2]
  unfold s_in
  by_cases h1 : σ.1 (c + 1) (47 + l) = 0
  · by_cases h2 : σ.1 (c + 1) (11 + l) < σ.1 5 1
    · by_cases h3 : nI 99 < σ.1 (c + 1) (17 + l)
      · simp [h1, h2, h3, b32]
      · simp [h1, h2, h3, b32]
    · simp [h1, h2, b32]
  · simp [h1, b32]
/-- whether one is called ahead of another -/
def s_ah (f : Nat → Int32) (i j : Nat) : Bool := if f (5 + i) = f (5 + j) then (if f (11 + i) = f (11 + j) then decide (i < j) else decide (f (11 + i) < f (11 + j))) else decide (f (5 + i) < f (5 + j))
theorem q_isAhead (d : Nat) (σ : pm_H) {c i j : Nat} (hc : st_ok c) (hi : i < 6) (hj : j < 6) : xe (d + 1) 150 [.ref c, .int (nI i), .int (nI j)] σ = some (some (.int (b32 (s_ah (σ.1 (c + 1)) i j))), σ) := by
  rw [en_X9_isAhead, sg_X9_isAhead_0 hc.1 hc.2]
  simp (disch := omega) only [nI_add, ck_n, nI_clamp]
  unfold s_ah
  by_cases h1 : σ.1 (c + 1) (5 + i) = σ.1 (c + 1) (5 + j)
  · by_cases h2 : σ.1 (c + 1) (11 + i) = σ.1 (c + 1) (11 + j)
    · by_cases h3 : i < j
      · have h4 : nI i < nI j := nI_lt h3 (by omega)
        simp [h1, h2, h3, h4, b32]
      · have h4 : ¬ nI i < nI j := nI_nlt (by omega) (by omega)
        simp [h1, h2, h3, h4, b32]
    · by_cases h3 : σ.1 (c + 1) (11 + i) < σ.1 (c + 1) (11 + j) <;> simp [h1, h2, h3, b32]
  · by_cases h3 : σ.1 (c + 1) (5 + i) < σ.1 (c + 1) (5 + j) <;> simp [h1, h3, b32]
theorem q_howManyIn_l (d : Nat) (σ : pm_H) {c sz : Nat} (hc : st_ok c) (hz : σ.1 3 2 = nI sz) (hs : sz ≤ 6) : ∀ (k i : Nat) (a : Int32), i + k = sz → pm_run (xe (d + 2)) pg_X9_howManyIn (4, [.ref c, .int a, .int (nI i)], [], σ) = some (some (.int (a + cnt (s_in (σ.1 5) (σ.1 (c + 1))) i k)), σ)
  | 0, i, a, h => by
    rw [sg_X9_howManyIn_4 hc.1 hc.2, hz, if_neg (nI_nlt (by omega) (by omega))]
    simp only [cnt, add_n0]
  | k + 1, i, a, h => by
    rw [sg_X9_howManyIn_4 hc.1 hc.2, hz, if_pos (nI_lt (by omega) (by omega)), q_isIn d σ hc (by omega)]
    simp only [pm_cl_some, Option.toList_some, List.cons_append, List.nil_append]
    rw [sg_X9_howManyIn_21 hc.1 hc.2]
    by_cases hp : s_in (σ.1 5) (σ.1 (c + 1)) i
    · rw [hp, if_neg (by decide), nI_add, q_howManyIn_l d σ hc hz hs k (i + 1) (a + nI 1) (by omega)]
      simp only [cnt, hp, b32, cond_true, Int32.add_assoc]
    · have hp : s_in (σ.1 5) (σ.1 (c + 1)) i = false := by simpa using hp
      rw [hp, if_pos (by decide), nI_add, q_howManyIn_l d σ hc hz hs k (i + 1) (a + nI 0) (by omega)]
      simp only [cnt, hp, b32, cond_false, Int32.add_assoc]
theorem q_howManyIn (d : Nat) (σ : pm_H) {c sz : Nat} (hc : st_ok c) (hz : σ.1 3 2 = nI sz) (hs : sz ≤ 6) : xe (d + 3) 192 [.ref c] σ = some (some (.int (cnt (s_in (σ.1 5) (σ.1 (c + 1))) 0 sz)), σ) := by
  rw [en_X9_howManyIn, sg_X9_howManyIn_0 hc.1 hc.2, q_howManyIn_l d σ hc hz hs sz 0 (nI 0) (by omega)]
  rw [n0_add]
theorem q_isNobodyIn_l (d : Nat) (σ : pm_H) {c sz : Nat} (hc : st_ok c) (hz : σ.1 3 2 = nI sz) (hs : sz ≤ 6) : ∀ (k i : Nat), i + k = sz → pm_run (xe (d + 2)) pg_X9_isNobodyIn (2, [.ref c, .int (nI i)], [], σ) = some (some (.int (b32 (non (s_in (σ.1 5) (σ.1 (c + 1))) i k))), σ)
  | 0, i, h => by
    rw [sg_X9_isNobodyIn_2 hc.1 hc.2, hz, if_neg (nI_nlt (by omega) (by omega))]
    rfl
  | k + 1, i, h => by
    rw [sg_X9_isNobodyIn_2 hc.1 hc.2, hz, if_pos (nI_lt (by omega) (by omega)), q_isIn d σ hc (by omega)]
    simp only [pm_cl_some, Option.toList_some, List.cons_append, List.nil_append]
    rw [sg_X9_isNobodyIn_18 hc.1 hc.2]
    by_cases hp : s_in (σ.1 5) (σ.1 (c + 1)) i
    · rw [hp, if_neg (by decide)]
      simp [non, hp, b32]
    · have hp : s_in (σ.1 5) (σ.1 (c + 1)) i = false := by simpa using hp
      rw [hp, if_pos (by decide), nI_add, q_isNobodyIn_l d σ hc hz hs k (i + 1) (by omega)]
      simp [non, hp]
theorem q_isNobodyIn (d : Nat) (σ : pm_H) {c sz : Nat} (hc : st_ok c) (hz : σ.1 3 2 = nI sz) (hs : sz ≤ 6) : xe (d + 3) 174 [.ref c] σ = some (some (.int (b32 (non (s_in (σ.1 5) (σ.1 (c + 1))) 0 sz))), σ) := by
  rw [en_X9_isNobodyIn, sg_X9_isNobodyIn_0 hc.1 hc.2, q_isNobodyIn_l d σ hc hz hs sz 0 (by omega)]
theorem q_called_l (d : Nat) (σ : pm_H) {c sz : Nat} (hc : st_ok c) (hz : σ.1 3 2 = nI sz) (hs : sz ≤ 6) : ∀ (k i : Nat) (b : Option Nat), i + k = sz → (∀ j, b = some j → j < i) → pm_run (xe (d + 2)) pg_X9_called (4, [.ref c, .int (oi b), .int (nI i)], [], σ) = some (some (.int (oi (nx1 (s_in (σ.1 5) (σ.1 (c + 1))) (s_ah (σ.1 (c + 1))) i k b))), σ)
  | 0, i, b, h, _ => by
    rw [sg_X9_called_4 hc.1 hc.2, hz, if_neg (nI_nlt (by omega) (by omega))]
    rfl
  | k + 1, i, b, h, hb => by
    rw [sg_X9_called_4 hc.1 hc.2, hz, if_pos (nI_lt (by omega) (by omega)), q_isIn d σ hc (by omega)]
    simp only [pm_cl_some, Option.toList_some, List.cons_append, List.nil_append]
    rw [sg_X9_called_20 hc.1 hc.2, nI_add]
    unfold nx1
    by_cases hp : s_in (σ.1 5) (σ.1 (c + 1)) i
    · rw [hp, if_neg (by decide)]
      match b, hb with
      | none, hb =>
        rw [if_pos (show oi none = -1 from rfl)]
        exact q_called_l d σ hc hz hs k (i + 1) (some i) (by omega) (fun j e => by cases e; omega)
      | some j, hb =>
        have hj := hb j rfl
        rw [if_neg (show ¬ oi (some j) = -1 from nI_nm1 (by omega)), show oi (some j) = nI j from rfl, q_isAhead (d + 1) σ hc (by omega) (by omega)]
        simp only [pm_cl_some, Option.toList_some, List.cons_append, List.nil_append]
        rw [sg_X9_called_34 hc.1 hc.2, nI_add]
        by_cases ha : s_ah (σ.1 (c + 1)) i j
        · rw [if_neg (by rw [ha]; decide)]
          simp only [ha, Bool.and_self, if_true]
          exact q_called_l d σ hc hz hs k (i + 1) (some i) (by omega) (fun j e => by cases e; omega)
        · have ha : s_ah (σ.1 (c + 1)) i j = false := by simpa using ha
          rw [if_pos (by rw [ha]; decide)]
          simp only [ha, Bool.and_false, Bool.false_eq_true, if_false]
          exact q_called_l d σ hc hz hs k (i + 1) (some j) (by omega) (fun j e => by cases e; omega)
    · have hp : s_in (σ.1 5) (σ.1 (c + 1)) i = false := by simpa using hp
      rw [hp, if_pos (by decide)]
      exact q_called_l d σ hc hz hs k (i + 1) b (by omega) (fun j e => by have := hb j e; omega)
theorem q_called (d : Nat) (σ : pm_H) {c sz : Nat} (hc : st_ok c) (hz : σ.1 3 2 = nI sz) (hs : sz ≤ 6) : xe (d + 3) 149 [.ref c] σ = some (some (.int (oi (nx1 (s_in (σ.1 5) (σ.1 (c + 1))) (s_ah (σ.1 (c + 1))) 0 sz none))), σ) := by
  rw [en_X9_called, sg_X9_called_0 hc.1 hc.2]
  exact q_called_l d σ hc hz hs sz 0 none (by omega) (fun j e => by cases e)

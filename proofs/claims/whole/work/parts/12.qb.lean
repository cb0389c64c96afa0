/-! ===== the reference: what is read of a row of numbers ===== -/
def rw_ok (q : Nat) : Prop := pm_kd q = .inl (0, 251, 0)
theorem rw_now : rw_ok 142 := rfl
theorem rw_trial : rw_ok 143 := rfl
def m_on (r w : Nat → Int32) (l : Nat) : Bool := decide (w 66 < nI 2) && (decide (w (11 * l + 1) < r 1) && (decide (w (11 * l + 6) = 0) && !decide (nI 99 < w (11 * l + 4))))
theorem r_isOn (d : Nat) (σ : pm_H) {q l : Nat} (hq : rw_ok q) (hl : l < 6) : xe (d + 1) 133 [.ref 133, .ref q, .int (nI l)] σ = some (some (.int (b32 (m_on (σ.1 140) (σ.1 q) l))), σ) := by
  rw [en_X12_isOn, sg_X12_isOn_0 hq]
  simp (disch := omega) only [pk_mul, nI_add, ck_n, nI_clamp]
  unfold m_on
  by_cases h1 : σ.1 q 66 < nI 2
  · by_cases h2 : σ.1 q (11 * l + 1) < σ.1 140 1
    · by_cases h3 : σ.1 q (11 * l + 6) = 0
      · by_cases h4 : nI 99 < σ.1 q (11 * l + 4)
        · simp [h1, h2, h3, h4, b32]
        · simp [h1, h2, h3, h4, b32]
      · simp [h1, h2, h3, b32]
    · simp [h1, h2, b32]
  · simp [h1, b32]
theorem r_howMany_l (d : Nat) (σ : pm_H) {q sz : Nat} (hq : rw_ok q) (hz : σ.1 133 22 = nI sz) (hs : sz ≤ 6) : ∀ (k i : Nat) (a : Int32), i + k = sz → pm_run (xe (d + 1)) pg_X12_howMany (4, [.ref 133, .ref q, .int a, .int (nI i)], [], σ) = some (some (.int (a + cnt (m_on (σ.1 140) (σ.1 q)) i k)), σ)
  | 0, i, a, h => by
    rw [sg_X12_howMany_4 hq, hz, if_neg (nI_nlt (by omega) (by omega))]
    simp only [cnt, add_n0]
  | k + 1, i, a, h => by
    rw [sg_X12_howMany_4 hq, hz, if_pos (nI_lt (by omega) (by omega)), r_isOn d σ hq (by omega)]
    simp only [pm_cl_some, Option.toList_some, List.cons_append, List.nil_append]
    rw [sg_X12_howMany_19 hq]
    by_cases hp : m_on (σ.1 140) (σ.1 q) i
    · rw [hp, if_neg (by decide), nI_add, r_howMany_l d σ hq hz hs k (i + 1) (a + nI 1) (by omega)]
      simp only [cnt, hp, b32, cond_true, Int32.add_assoc]
    · have hp : m_on (σ.1 140) (σ.1 q) i = false := by simpa using hp
      rw [hp, if_pos (by decide), nI_add, r_howMany_l d σ hq hz hs k (i + 1) (a + nI 0) (by omega)]
      simp only [cnt, hp, b32, cond_false, Int32.add_assoc]
theorem r_howMany (d : Nat) (σ : pm_H) {q sz : Nat} (hq : rw_ok q) (hz : σ.1 133 22 = nI sz) (hs : sz ≤ 6) : xe (d + 2) 182 [.ref 133, .ref q] σ = some (some (.int (cnt (m_on (σ.1 140) (σ.1 q)) 0 sz)), σ) := by
  rw [en_X12_howMany, sg_X12_howMany_0 hq, r_howMany_l d σ hq hz hs sz 0 (nI 0) (by omega), n0_add]
/-- small numbers -/
def sm (x : Int32) (n : Nat) : Prop := ∃ k : Nat, k ≤ n ∧ x = nI k
theorem sm_sub0 {x y : Int32} {n m : Nat} (hx : sm x n) (hy : sm y m) (hn : n < 2 ^ 30) (hm : m < 2 ^ 30) : (x - y = 0 ↔ x = y) := by
  obtain ⟨a, ha, rfl⟩ := hx
  obtain ⟨b, hb, rfl⟩ := hy
  have h := pk_sub_toInt (a := a) (b := b) (by omega) (by omega)
  constructor
  · intro e
    rw [e] at h
    have h0 : (0 : Int32).toInt = 0 := by decide
    rw [h0] at h
    rw [show a = b by omega]
  · intro e
    have := (nI_eq (by omega) (by omega)).mp e
    subst this
    exact Int32.sub_self _
theorem sm_subl {x y : Int32} {n m : Nat} (hx : sm x n) (hy : sm y m) (hn : n < 2 ^ 30) (hm : m < 2 ^ 30) : (x - y < 0 ↔ x < y) := by
  obtain ⟨a, ha, rfl⟩ := hx
  obtain ⟨b, hb, rfl⟩ := hy
  have h := pk_sub_toInt (a := a) (b := b) (by omega) (by omega)
  have h0 : (0 : Int32).toInt = 0 := by decide
  rw [Int32.lt_iff_toInt_lt, h, h0, nI_ltI (by omega) (by omega)]
  omega
def m_ah (w : Nat → Int32) (i j : Nat) : Bool := if w (11 * i + 0) = w (11 * j + 0) then (if w (11 * i + 1) = w (11 * j + 1) then decide (i < j) else decide (w (11 * i + 1) < w (11 * j + 1))) else decide (w (11 * i + 0) < w (11 * j + 0))
/-- the numbers of a row that stands for a meet are small -/
def m_sm (w : Nat → Int32) (l : Nat) : Prop := sm (w (11 * l + 0)) 1000 ∧ sm (w (11 * l + 1)) 1000
theorem r_isAheadOf (d : Nat) (σ : pm_H) {q i j : Nat} (hq : rw_ok q) (hi : i < 6) (hj : j < 6) (mi : m_sm (σ.1 q) i) (mj : m_sm (σ.1 q) j) : xe (d + 1) 153 [.ref 133, .ref q, .int (nI i), .int (nI j)] σ = some (some (.int (b32 (m_ah (σ.1 q) i j))), σ) := by
  rw [en_X12_isAheadOf, sg_X12_isAheadOf_0 hq]
  simp (disch := omega) only [pk_mul, nI_add, ck_n, nI_clamp]
  simp only [sm_sub0 mi.1 mj.1 (by decide) (by decide), sm_subl mi.1 mj.1 (by decide) (by decide), sm_sub0 mi.2 mj.2 (by decide) (by decide), sm_subl mi.2 mj.2 (by decide) (by decide)]
  unfold m_ah
  have hn : (nI i < nI j) = (i < j) := propext (nI_ltI (by omega) (by omega))
  simp only [hn]
  by_cases h1 : σ.1 q (11 * i + 0) = σ.1 q (11 * j + 0)
  · have h1' : ¬ σ.1 q (11 * j + 0) < σ.1 q (11 * j + 0) := fun h => Int32.lt_irrefl h
    by_cases h2 : σ.1 q (11 * i + 1) = σ.1 q (11 * j + 1)
    · have h2' : ¬ σ.1 q (11 * j + 1) < σ.1 q (11 * j + 1) := fun h => Int32.lt_irrefl h
      by_cases h3 : i < j <;> simp only [h1, h2, h3, h1', h2', if_true, if_false, decide_true, decide_false, b32, cond_true, cond_false]
    · by_cases h3 : σ.1 q (11 * i + 1) < σ.1 q (11 * j + 1) <;> simp only [h1, h2, h3, h1', if_true, if_false, decide_true, decide_false, b32, cond_true, cond_false]
  · by_cases h3 : σ.1 q (11 * i + 0) < σ.1 q (11 * j + 0) <;> simp only [h1, h3, if_true, if_false, decide_true, decide_false, b32, cond_true, cond_false]
theorem r_nextOf_l (d : Nat) (σ : pm_H) {q sz : Nat} (hq : rw_ok q) (hz : σ.1 133 22 = nI sz) (hs : sz ≤ 6) (hm : ∀ l, l < sz → m_sm (σ.1 q) l) : ∀ (k i : Nat) (b : Option Nat), i + k = sz → (∀ j, b = some j → j < i) → pm_run (xe (d + 1)) pg_X12_nextOf (4, [.ref 133, .ref q, .int (oi b), .int (nI i)], [], σ) = some (some (.int (oi (nx1 (m_on (σ.1 140) (σ.1 q)) (m_ah (σ.1 q)) i k b))), σ)
  | 0, i, b, h, _ => by
    rw [sg_X12_nextOf_4 hq, hz, if_neg (nI_nlt (by omega) (by omega))]
    rfl
  | k + 1, i, b, h, hb => by
    rw [sg_X12_nextOf_4 hq, hz, if_pos (nI_lt (by omega) (by omega)), r_isOn d σ hq (by omega)]
    simp only [pm_cl_some, Option.toList_some, List.cons_append, List.nil_append]
    rw [sg_X12_nextOf_18 hq, nI_add]
    unfold nx1
    by_cases hp : m_on (σ.1 140) (σ.1 q) i
    · rw [hp, if_neg (by decide)]
      match b, hb with
      | none, hb =>
        rw [if_pos (show oi none = -1 from rfl)]
        exact r_nextOf_l d σ hq hz hs hm k (i + 1) (some i) (by omega) (fun j e => by cases e; omega)
      | some j, hb =>
        have hj := hb j rfl
        rw [if_neg (show ¬ oi (some j) = -1 from nI_nm1 (by omega)), show oi (some j) = nI j from rfl, r_isAheadOf d σ hq (by omega) (by omega) (hm i (by omega)) (hm j (by omega))]
        simp only [pm_cl_some, Option.toList_some, List.cons_append, List.nil_append]
        rw [sg_X12_nextOf_33 hq, nI_add]
        by_cases ha : m_ah (σ.1 q) i j
        · rw [if_neg (by rw [ha]; decide)]
          simp only [ha, Bool.and_self, if_true]
          exact r_nextOf_l d σ hq hz hs hm k (i + 1) (some i) (by omega) (fun j e => by cases e; omega)
        · have ha : m_ah (σ.1 q) i j = false := by simpa using ha
          rw [if_pos (by rw [ha]; decide)]
          simp only [ha, Bool.and_false, Bool.false_eq_true, if_false]
          exact r_nextOf_l d σ hq hz hs hm k (i + 1) (some j) (by omega) (fun j e => by cases e; omega)
    · have hp : m_on (σ.1 140) (σ.1 q) i = false := by simpa using hp
      rw [hp, if_pos (by decide)]
      exact r_nextOf_l d σ hq hz hs hm k (i + 1) b (by omega) (fun j e => by have := hb j e; omega)
theorem r_nextOf (d : Nat) (σ : pm_H) {q sz : Nat} (hq : rw_ok q) (hz : σ.1 133 22 = nI sz) (hs : sz ≤ 6) (hm : ∀ l, l < sz → m_sm (σ.1 q) l) : xe (d + 2) 152 [.ref 133, .ref q] σ = some (some (.int (oi (nx1 (m_on (σ.1 140) (σ.1 q)) (m_ah (σ.1 q)) 0 sz none))), σ) := by
  rw [en_X12_nextOf, sg_X12_nextOf_0 hq]
  exact r_nextOf_l d σ hq hz hs hm sz 0 none (by omega) (fun j e => by cases e)
/-! ===== how a Stand's row and the reference's row correspond ===== -/
def relW (sz : Nat) (f w : Nat → Int32) : Prop :=
  (w 66 = f 0 ∧ w 67 = f 1 ∧ w 68 = f 2 ∧ w 69 = f 3 ∧ w 70 = f 4) ∧ ∀ l, l < sz →
    (w (11 * l + 0) = f (5 + l) ∧ w (11 * l + 1) = f (11 + l) ∧ w (11 * l + 2) = f (53 + l) ∧ w (11 * l + 3) = f (59 + l) ∧ w (11 * l + 4) = f (17 + l)) ∧
    (w (11 * l + 5) = f (23 + l) ∧ w (11 * l + 6) = f (47 + l) ∧ w (11 * l + 7) = f (29 + l) ∧ w (11 * l + 8) = f (41 + l) ∧ w (11 * l + 9) = f (35 + l))
/-- what holds of a Stand's row in a meet of sz lifters under the rules r -/
def okF (sz : Nat) (r f : Nat → Int32) : Prop :=
  (f 0 < nI 2 ∨ ∀ l, l < sz → s_in r f l = false) ∧ ∀ l, l < sz → sm (f (5 + l)) 1000 ∧ sm (f (11 + l)) 1000
theorem on_in {sz : Nat} {r f w : Nat → Int32} (hr : relW sz f w) (ho : okF sz r f) {l : Nat} (hl : l < sz) : m_on r w l = s_in r f l := by
  obtain ⟨⟨h0, -⟩, hk⟩ := hr
  obtain ⟨⟨-, h1, -, -, h4⟩, -, h6, -⟩ := hk l hl
  by_cases h : f 0 < nI 2
  · unfold m_on s_in
    rw [h0, h1, h4, h6]
    simp only [h, decide_true, Bool.true_and]
    cases decide (f (11 + l) < r 1) <;> cases decide (f (47 + l) = 0) <;> cases decide (nI 99 < f (17 + l)) <;> rfl
  · rw [ho.1.resolve_left h l hl]
    unfold m_on
    rw [h0]
    simp [h]
theorem ah_ah {sz : Nat} {f w : Nat → Int32} (hr : relW sz f w) {i j : Nat} (hi : i < sz) (hj : j < sz) : m_ah w i j = s_ah f i j := by
  obtain ⟨-, hk⟩ := hr
  obtain ⟨⟨a0, a1, -⟩, -⟩ := hk i hi
  obtain ⟨⟨b0, b1, -⟩, -⟩ := hk j hj
  unfold m_ah s_ah
  rw [a0, a1, b0, b1]
theorem nx1_eq {p p' : Nat → Bool} {a a' : Nat → Nat → Bool} {sz : Nat} (hp : ∀ l, l < sz → p l = p' l) (ha : ∀ i j, i < sz → j < sz → a i j = a' i j) : ∀ (k i : Nat) (b : Option Nat), i + k = sz → (∀ j, b = some j → j < i) → nx1 p a i k b = nx1 p' a' i k b
  | 0, _, _, _, _ => rfl
  | k + 1, i, b, h, hb => by
    unfold nx1
    rw [hp i (by omega)]
    match b, hb with
    | none, hb =>
      show nx1 p a (i + 1) k (if p' i && true then some i else none) = nx1 p' a' (i + 1) k (if p' i && true then some i else none)
      refine nx1_eq hp ha k (i + 1) _ (by omega) (fun j e => ?_)
      cases h9 : p' i
      · rw [h9] at e
        cases e
      · rw [h9] at e
        cases e
        omega
    | some j, hb =>
      have hj := hb j rfl
      show nx1 p a (i + 1) k (if p' i && a i j then some i else some j) = nx1 p' a' (i + 1) k (if p' i && a' i j then some i else some j)
      rw [ha i j (by omega) (by omega)]
      refine nx1_eq hp ha k (i + 1) _ (by omega) (fun j' e => ?_)
      split at e <;> (cases e; omega)
theorem cnt_eq {p p' : Nat → Bool} {sz : Nat} (hp : ∀ l, l < sz → p l = p' l) : ∀ (k i : Nat), i + k = sz → cnt p i k = cnt p' i k
  | 0, _, _ => rfl
  | k + 1, i, h => by
    unfold cnt
    rw [hp i (by omega), cnt_eq hp k (i + 1) (by omega)]

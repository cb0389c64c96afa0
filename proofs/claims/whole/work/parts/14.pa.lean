/-! ===== texts of LAWS, by themselves: n bytes b ===== -/
def skf (b : Nat → Nat) (n : Nat) : Nat → Nat → Nat
  | 0, p => p
  | k + 1, p => if p < n ∧ b p = 32 then skf b n k (p + 1) else p
/-- behind blanks -/
def skp (b : Nat → Nat) (n p : Nat) : Nat := skf b n (n - p) p
theorem skp_eq (b : Nat → Nat) (n p : Nat) : skp b n p = if p < n ∧ b p = 32 then skp b n (p + 1) else p := by
  unfold skp
  by_cases h : p < n
  · rw [show n - p = (n - (p + 1)) + 1 by omega]
    rfl
  · rw [show n - p = 0 by omega, if_neg (by omega)]
    rfl
theorem skf_b (b : Nat → Nat) (n : Nat) : ∀ k p : Nat, p ≤ skf b n k p ∧ skf b n k p ≤ p + k
  | 0, p => ⟨Nat.le_refl _, Nat.le_refl _⟩
  | k + 1, p => by
    unfold skf
    have := skf_b b n k (p + 1)
    split <;> omega
theorem skf_s (b : Nat → Nat) (n : Nat) : ∀ k p : Nat, n ≤ p + k → ¬ (skf b n k p < n ∧ b (skf b n k p) = 32)
  | 0, p, h => by
    show ¬ (p < n ∧ b p = 32)
    omega
  | k + 1, p, h => by
    unfold skf
    by_cases c : p < n ∧ b p = 32
    · rw [if_pos c]
      exact skf_s b n k (p + 1) (by omega)
    · rw [if_neg c]
      exact c
theorem skp_ge (b : Nat → Nat) (n p : Nat) : p ≤ skp b n p := (skf_b b n _ p).1
theorem skp_le (b : Nat → Nat) {n p : Nat} (h : p ≤ n) : skp b n p ≤ n := by
  have := (skf_b b n (n - p) p).2
  unfold skp
  omega
theorem skp_s (b : Nat → Nat) (n p : Nat) : ¬ (skp b n p < n ∧ b (skp b n p) = 32) := skf_s b n (n - p) p (by omega)
theorem skp_skp (b : Nat → Nat) (n p : Nat) : skp b n (skp b n p) = skp b n p := by
  rw [skp_eq b n (skp b n p), if_neg (skp_s b n p)]
/-- the next sign, 0 at the end -/
def tk (b : Nat → Nat) (n p : Nat) : Nat := if skp b n p < n then b (skp b n p) else 0
theorem tk_skp (b : Nat → Nat) (n p : Nat) : tk b n (skp b n p) = tk b n p := by
  unfold tk
  rw [skp_skp]
theorem tk_lt {b : Nat → Nat} {n p : Nat} (h : tk b n p ≠ 0) : skp b n p < n := by
  unfold tk at h
  split at h
  · assumption
  · exact absurd rfl h
def dg (b : Nat → Nat) (n p : Nat) : Bool := decide (p < n) && (decide (48 ≤ b p) && decide (b p ≤ 57))
theorem dg_of {b : Nat → Nat} {n p : Nat} (h : dg b n p = true) : p < n ∧ 48 ≤ b p ∧ b p ≤ 57 := by
  unfold dg at h
  simp only [Bool.and_eq_true, decide_eq_true_eq] at h
  exact h
def nmf (b : Nat → Nat) (n : Nat) : Nat → Nat → Nat → Nat ⊕ (Nat × Nat)
  | 0, p, v => if dg b n p then .inl p else .inr (v, p)
  | k + 1, p, v => if dg b n p then nmf b n k (p + 1) (v * 10 + (b p - 48)) else .inr (v, p)
def num (b : Nat → Nat) (n p : Nat) : Nat ⊕ (Nat × Nat) := if dg b n p then nmf b n 4 p 0 else .inl p
theorem nmf_b {b : Nat → Nat} {n : Nat} : ∀ (k p v : Nat), p ≤ n → v < 10 ^ (4 - k) → k ≤ 4 → (∀ f, nmf b n k p v = .inl f → f ≤ n) ∧ ∀ v' q, nmf b n k p v = .inr (v', q) → p ≤ q ∧ q ≤ n ∧ v' < 10000
  | 0, p, v, h, hv, _ => by
    unfold nmf
    cases dg b n p
    · simp only [Bool.false_eq_true, if_false]
      refine ⟨fun f e => (by cases e), fun v' q e => ?_⟩
      cases e
      exact ⟨Nat.le_refl _, h, by simpa using hv⟩
    · simp only [if_true]
      exact ⟨fun f e => by cases e; exact h, fun v' q e => by cases e⟩
  | k + 1, p, v, h, hv, hk => by
    unfold nmf
    cases hd : dg b n p
    · simp only [Bool.false_eq_true, if_false]
      refine ⟨fun f e => (by cases e), fun v' q e => ?_⟩
      cases e
      have : 10 ^ (4 - (k + 1)) ≤ 10 ^ 4 := Nat.pow_le_pow_right (by omega) (by omega)
      exact ⟨Nat.le_refl _, h, Nat.lt_of_lt_of_le hv this⟩
    · simp only [if_true]
      obtain ⟨d1, d2, d3⟩ := dg_of hd
      obtain ⟨i1, i2⟩ := nmf_b (b := b) (n := n) k (p + 1) (v * 10 + (b p - 48)) (by omega) (by
        rw [show 4 - k = (4 - (k + 1)) + 1 by omega, Nat.pow_succ]
        generalize 10 ^ (4 - (k + 1)) = t at hv
        omega) (by omega)
      exact ⟨i1, fun v' q e => by have := i2 v' q e; omega⟩
theorem num_b {b : Nat → Nat} {n p : Nat} (h : p ≤ n) : (∀ f, num b n p = .inl f → f ≤ n) ∧ ∀ v' q, num b n p = .inr (v', q) → p < q ∧ q ≤ n ∧ v' < 10000 := by
  unfold num
  cases hd : dg b n p
  · simp only [Bool.false_eq_true, if_false]
    exact ⟨fun f e => by cases e; exact h, fun v' q e => by cases e⟩
  · simp only [if_true]
    obtain ⟨d1, d2, d3⟩ := dg_of hd
    unfold nmf
    rw [hd]
    simp only [if_true]
    obtain ⟨i1, i2⟩ := nmf_b (b := b) (n := n) 3 (p + 1) (0 * 10 + (b p - 48)) (by omega) (by simp; omega) (by omega)
    exact ⟨i1, fun v' q e => by have := i2 v' q e; omega⟩
def lti (c : Nat) : Option Nat := if c = 119 then some 0 else if c = 115 then some 1 else if c = 100 then some 2 else if c = 116 then some 3 else if c = 99 then some 4 else if c = 114 then some 5 else if c = 107 then some 6 else if c = 98 then some 7 else none
def lcd (i : Nat) : Nat := if i = 0 then 119 else if i = 1 then 115 else if i = 2 then 100 else if i = 3 then 116 else if i = 4 then 99 else if i = 5 then 114 else if i = 6 then 107 else 98
theorem lti_lcd {c i : Nat} (h : lti c = some i) : i < 8 ∧ lcd i = c ∧ c ≠ 0 := by
  unfold lti at h
  repeat' split at h
  all_goals first
    | (cases h; refine ⟨by decide, ?_, ?_⟩ <;> simp [lcd, *])
    | cases h
/-- held within a million -/
def hld (x : Int64) : Int32 := if 1000000 < x then 1000000 else if x < -1000000 then -1000000 else x.toInt32
def opv (t : Nat) (x y : Int32) : Int32 := if t = 43 then hld (x.toInt64 + y.toInt64) else if t = 45 then hld (x.toInt64 - y.toInt64) else if t = 42 then hld (x.toInt64 * y.toInt64) else if y = 0 then 0 else x / y
def cmpv (t : Nat) (x y : Int32) : Bool := if t = 61 then decide (x = y) else if t = 60 then decide (x < y) else decide (y < x)
abbrev LV : Type := Nat → Int32
abbrev PV (α : Type) : Type := Nat ⊕ (List Int32 × (LV → α) × Nat)
def pL (b : Nat → Nat) (n o1 o2 : Nat) (A : Nat → PV Int32) : Nat → List Int32 → (LV → Int32) → Nat → PV Int32
  | 0, c, v, q => .inr (c, v, q)
  | m + 1, c, v, q => if tk b n q = o1 ∨ tk b n q = o2 then (match A (skp b n q + 1) with
      | .inl f => .inl f
      | .inr (c2, v2, q2) => pL b n o1 o2 A m (c ++ c2 ++ [-(nI (tk b n q))]) (fun L => opv (tk b n q) (v L) (v2 L)) q2) else .inr (c, v, skp b n q)
def pTerm (b : Nat → Nat) (n : Nat) (A : Nat → PV Int32) (p : Nat) : PV Int32 := match A p with
  | .inl f => .inl f
  | .inr (c, v, q) => pL b n 42 47 A 241 c v q
def pSum (b : Nat → Nat) (n : Nat) (A : Nat → PV Int32) (p : Nat) : PV Int32 := match pTerm b n A p with
  | .inl f => .inl f
  | .inr (c, v, q) => pL b n 43 45 (pTerm b n A) 241 c v q
def pAtom (b : Nat → Nat) (n : Nat) (S : Option (Nat → PV Int32)) (p : Nat) : PV Int32 := match lti (tk b n p) with
  | some i => .inr ([nI (10000 + i)], fun L => L i, skp b n p + 1)
  | none => if tk b n p = 91 then (match S with
    | none => .inl (skp b n p)
    | some S => match S (skp b n p + 1) with
      | .inl f => .inl f
      | .inr (c, v, q) => if tk b n q = 93 then .inr (c, v, skp b n q + 1) else .inl (skp b n q)) else (match num b n (skp b n p) with
    | .inl f => .inl f
    | .inr (v, q) => .inr ([nI v], fun _ => nI v, q))
def pAt (b : Nat → Nat) (n : Nat) : Nat → Nat → PV Int32
  | 0 => pAtom b n none
  | l + 1 => pAtom b n (some (pSum b n (pAt b n l)))
def isS (t : Nat) : Bool := t == 61 || (t == 60 || t == 62)
def pCmpR (b : Nat → Nat) (n : Nat) (S : Nat → PV Int32) (c : List Int32) (v : LV → Int32) (q : Nat) : PV Bool := if isS (tk b n q) then (match S (skp b n q + 1) with
  | .inl f => .inl f
  | .inr (c2, v2, q2) => .inr (c ++ c2 ++ [-(nI (tk b n q))], fun L => cmpv (tk b n q) (v L) (v2 L), q2)) else .inl (skp b n q)
def pCmp (b : Nat → Nat) (n : Nat) (S : Nat → PV Int32) (p : Nat) : PV Bool := match S p with
  | .inl f => .inl f
  | .inr (c, v, q) => pCmpR b n S c v q
def pB (b : Nat → Nat) (n o : Nat) (g : Bool → Bool → Bool) (U : Nat → PV Bool) : Nat → List Int32 → (LV → Bool) → Nat → PV Bool
  | 0, c, v, q => .inr (c, v, q)
  | m + 1, c, v, q => if tk b n q = o then (match U (skp b n q + 1) with
      | .inl f => .inl f
      | .inr (c2, v2, q2) => pB b n o g U m (c ++ c2 ++ [-(nI o)]) (fun L => g (v L) (v2 L)) q2) else .inr (c, v, skp b n q)
def pTr (b : Nat → Nat) (n : Nat) (U : Nat → PV Bool) (r : PV Bool) : PV Bool := match r with
  | .inl f => .inl f
  | .inr (c, v, q) => pB b n 38 Bool.and U 241 c v q
def pCo (b : Nat → Nat) (n : Nat) (U : Nat → PV Bool) (r : PV Bool) : PV Bool := match pTr b n U r with
  | .inl f => .inl f
  | .inr (c, v, q) => pB b n 124 Bool.or (fun p => pTr b n U (U p)) 241 c v q
def pUnit (b : Nat → Nat) (n : Nat) (low : Option (Nat → PV Bool)) (S : Nat → PV Int32) (p : Nat) : PV Bool :=
  if tk b n p = 33 then (match low with
    | none => .inl (skp b n p)
    | some U => match U (skp b n p + 1) with
      | .inl f => .inl f
      | .inr (c, v, q) => .inr (c ++ [-33], fun L => !(v L), q))
  else if tk b n p = 40 then (match low with
    | none => .inl (skp b n p)
    | some U => match pCo b n U (U (skp b n p + 1)) with
      | .inl f => .inl f
      | .inr (c, v, q) => if tk b n q = 41 then .inr (c, v, skp b n q + 1) else .inl (skp b n q))
  else pCmp b n S (skp b n p)
def pUn (b : Nat → Nat) (n : Nat) : Nat → Nat → PV Bool
  | 0 => pUnit b n none (pSum b n (pAt b n 0))
  | l + 1 => pUnit b n (some (pUn b n l)) (pSum b n (pAt b n (l + 1)))
/-- behind a condition: ? and a sum -/
def pQ (b : Nat → Nat) (n : Nat) (r : PV Bool) : PV (Option Int32) := match r with
  | .inl f => .inl f
  | .inr (c, v, q) => if tk b n q = 63 then (match pSum b n (pAt b n 6) (skp b n q + 1) with
    | .inl f => .inl f
    | .inr (c2, v2, q2) => .inr (c ++ [-63] ++ c2 ++ [-59], fun L => if v L then some (v2 L) else none, q2)) else .inl (skp b n q)
/-- behind y: -/
def pBody (b : Nat → Nat) (n r : Nat) : PV (Option Int32) :=
  if tk b n r = 33 ∨ tk b n r = 40 then pQ b n (pCo b n (pUn b n 6) (pUn b n 6 (skp b n r)))
  else match pSum b n (pAt b n 6) (skp b n r) with
    | .inl f => .inl f
    | .inr (c, v, q) => if isS (tk b n q) then pQ b n (pCo b n (pUn b n 6) (pCmpR b n (pSum b n (pAt b n 6)) c v q)) else .inr (c ++ [-59], fun L => some (v L), skp b n q)
def pClause (b : Nat → Nat) (n p : Nat) : PV (Option Int32) :=
  if tk b n p = 121 then (if tk b n (skp b n p + 1) = 58 then pBody b n (skp b n (skp b n p + 1) + 1) else .inl (skp b n (skp b n p + 1))) else .inl (skp b n p)
def pLw (b : Nat → Nat) (n : Nat) : Nat → List Int32 → (LV → Option Int32) → Nat → PV (Option Int32)
  | 0, c, v, q => .inr (c, v, q)
  | m + 1, c, v, q => if tk b n q = 59 then (match pClause b n (skp b n q + 1) with
      | .inl f => .inl f
      | .inr (c2, v2, q2) => pLw b n m (c ++ c2) (fun L => (v L).or (v2 L)) q2) else if skp b n q < n then .inl (skp b n q) else .inr (c, v, skp b n q)
def pLaw (b : Nat → Nat) (n : Nat) : PV (Option Int32) := match pClause b n 0 with
  | .inl f => .inl f
  | .inr (c, v, q) => pLw b n 241 c v q

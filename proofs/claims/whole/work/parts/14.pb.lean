/-! ===== what the written steps do ===== -/
def bd (x : Int32) : Prop := -1000000 ≤ x.toInt ∧ x.toInt ≤ 1000000
def bdL (L : LV) : Prop := ∀ i, i < 8 → bd (L i)
def joinv (t a y : Int32) : Int32 := if t = nI 43 then hld (a.toInt64 + y.toInt64) else if t = nI 45 then hld (a.toInt64 - y.toInt64) else if t = nI 42 then hld (a.toInt64 * y.toInt64) else if t = nI 47 then (if y = 0 then 0 else a / y) else if t = nI 61 then b32 (decide (a = y)) else if t = nI 60 then b32 (decide (a < y)) else if t = nI 62 then b32 (decide (y < a)) else if t = nI 38 then a &&& y else a ||| y
def stp1 (L : LV) (x : Int32) (s : List Int32) : Option (List Int32) :=
  if x < 0 then (if x = -59 then none else if x = -63 then none else if x = -33 then (match s with
    | a :: t => some ((a ^^^ nI 1) :: t)
    | [] => none) else (match s with
    | y :: a :: t => some (joinv (-x) a y :: t)
    | _ => none))
  else if s.length < 64 then some ((if x < nI 10000 then x else L ((x - nI 10000) &&& nI 7).toNatClampNeg) :: s) else none
def exS (L : LV) : List Int32 → List Int32 → Option (List Int32)
  | [], s => some s
  | x :: c, s => match stp1 L x s with
    | none => none
    | some s' => exS L c s'
theorem exS_cons {L : LV} {x : Int32} {c s s1 : List Int32} (h : stp1 L x s = some s1) : exS L (x :: c) s = exS L c s1 := by
  show (match stp1 L x s with
    | none => none
    | some s' => exS L c s') = _
  rw [h]
theorem exS_app (L : LV) (c2 : List Int32) : ∀ (c s s' : List Int32), exS L c s = some s' → exS L (c ++ c2) s = exS L c2 s'
  | [], s, s', h => by
    cases h
    rfl
  | x :: c, s, s', h => by
    cases hs : stp1 L x s with
    | none =>
      have h : (match stp1 L x s with
        | none => none
        | some s' => exS L c s') = some s' := h
      rw [hs] at h
      cases h
    | some s1 =>
      rw [exS_cons hs] at h
      show exS L (x :: (c ++ c2)) s = _
      rw [exS_cons hs]
      exact exS_app L c2 c s1 s' h
theorem exS_1 {L : LV} {x : Int32} {s s' : List Int32} (h : stp1 L x s = some s') : exS L [x] s = some s' := by
  unfold exS
  rw [h]
  rfl
theorem b32_bd (b : Bool) : bd (b32 b) := by cases b <;> exact ⟨by decide, by decide⟩
theorem hld_bd (x : Int64) : bd (hld x) := by
  unfold hld bd
  by_cases h1 : (1000000 : Int64) < x
  · rw [if_pos h1]
    exact ⟨by decide, by decide⟩
  · rw [if_neg h1]
    by_cases h2 : x < -1000000
    · rw [if_pos h2]
      exact ⟨by decide, by decide⟩
    · rw [if_neg h2]
      have a1 := Int64.le_iff_toInt_le.mp (Int64.not_lt.mp h1)
      have a2 := Int64.le_iff_toInt_le.mp (Int64.not_lt.mp h2)
      have e1 : (1000000 : Int64).toInt = 1000000 := by decide
      have e2 : (-1000000 : Int64).toInt = -1000000 := by decide
      rw [e1] at a1
      rw [e2] at a2
      rw [Int64.toInt_toInt32, Int.bmod_eq_of_le (by omega) (by omega)]
      exact ⟨a2, a1⟩
theorem div_bd {x y : Int32} (h : bd x) : (x / y).toInt = x.toInt.tdiv y.toInt ∧ bd (x / y) := by
  have h1 : x ≠ Int32.minValue := by
    rintro rfl
    exact absurd h.1 (by decide)
  have e := Int32.toInt_div_of_ne_left x y h1
  refine ⟨e, ?_⟩
  unfold bd at h ⊢
  rw [e]
  have := Int.natAbs_tdiv_le_natAbs x.toInt y.toInt
  omega
theorem opv_bd {t : Nat} {x y : Int32} (h : bd x) : bd (opv t x y) := by
  unfold opv
  by_cases c1 : t = 43
  · rw [if_pos c1]; exact hld_bd _
  · rw [if_neg c1]
    by_cases c2 : t = 45
    · rw [if_pos c2]; exact hld_bd _
    · rw [if_neg c2]
      by_cases c3 : t = 42
      · rw [if_pos c3]; exact hld_bd _
      · rw [if_neg c3]
        by_cases c4 : y = 0
        · rw [if_pos c4]; exact ⟨by decide, by decide⟩
        · rw [if_neg c4]; exact (div_bd h).2
theorem stp_op {L : LV} {t : Nat} {a y : Int32} {s : List Int32} (h : t = 42 ∨ t = 47 ∨ t = 43 ∨ t = 45) : stp1 L (-(nI t)) (y :: a :: s) = some (opv t a y :: s) := by
  rcases h with rfl | rfl | rfl | rfl <;> rfl
theorem stp_cmp {L : LV} {t : Nat} {a y : Int32} {s : List Int32} (h : isS t = true) : stp1 L (-(nI t)) (y :: a :: s) = some (b32 (cmpv t a y) :: s) := by
  unfold isS at h
  simp only [Bool.or_eq_true, beq_iff_eq] at h
  rcases h with rfl | rfl | rfl <;> rfl
theorem stp_and {L : LV} {a y : Bool} {s : List Int32} : stp1 L (-(nI 38)) (b32 y :: b32 a :: s) = some (b32 (Bool.and a y) :: s) := by cases a <;> cases y <;> rfl
theorem stp_or {L : LV} {a y : Bool} {s : List Int32} : stp1 L (-(nI 124)) (b32 y :: b32 a :: s) = some (b32 (Bool.or a y) :: s) := by cases a <;> cases y <;> rfl
theorem stp_not {L : LV} {a : Bool} {s : List Int32} : stp1 L (-33) (b32 a :: s) = some (b32 (!a) :: s) := by cases a <;> rfl
theorem stp_num {L : LV} {v : Nat} {s : List Int32} (hv : v < 10000) (hs : s.length < 64) : stp1 L (nI v) s = some (nI v :: s) := by
  unfold stp1
  rw [if_neg (nI_pos (by omega)), if_pos hs, if_pos (nI_lt hv (by omega))]
theorem stp_let {L : LV} {i : Nat} {s : List Int32} (hi : i < 8) (hs : s.length < 64) : stp1 L (nI (10000 + i)) s = some (L i :: s) := by
  unfold stp1
  rw [if_neg (nI_pos (by omega)), if_pos hs, if_neg (nI_nlt (by omega) (by omega)), pk_sub (by omega), show 10000 + i - 10000 = i by omega]
  rcases (show i = 0 ∨ i = 1 ∨ i = 2 ∨ i = 3 ∨ i = 4 ∨ i = 5 ∨ i = 6 ∨ i = 7 by omega) with rfl | rfl | rfl | rfl | rfl | rfl | rfl | rfl <;> rfl
/-! ===== the reader goes on, writes no more than it reads, and what it writes does what it reads ===== -/
def okV {α : Type} (e : α → Int32) (n k p : Nat) (r : PV α) : Prop := match r with
  | .inl f => f ≤ n
  | .inr (c, v, q) => (p < q ∧ q ≤ n ∧ c.length + p ≤ q) ∧ ∀ L, bdL L → bd (e (v L)) ∧ ∀ s : List Int32, s.length + k ≤ 64 → exS L c s = some (e (v L) :: s)
def idI (x : Int32) : Int32 := x
theorem okV_mono {α : Type} {e : α → Int32} {n k k' p : Nat} {r : PV α} (h : okV e n k p r) (hk : k ≤ k') : okV e n k' p r := by
  match r, h with
  | .inl f, h => exact h
  | .inr (c, v, q), h => exact ⟨h.1, fun L hL => ⟨(h.2 L hL).1, fun s hs => (h.2 L hL).2 s (by omega)⟩⟩
theorem okV_lo {α : Type} {e : α → Int32} {n k p p' : Nat} {r : PV α} (h : okV e n k p r) (hp : p' ≤ p) : okV e n k p' r := by
  match r, h with
  | .inl f, h => exact h
  | .inr (c, v, q), h => exact ⟨⟨by have := h.1; omega, h.1.2.1, by have := h.1; omega⟩, h.2⟩
theorem pL_ok {b : Nat → Nat} {n o1 o2 k : Nat} {A : Nat → PV Int32} (hA : ∀ p, p ≤ n → okV idI n k p (A p)) (ho : o1 = 42 ∧ o2 = 47 ∨ o1 = 43 ∧ o2 = 45) : ∀ (m : Nat) (c : List Int32) (v : LV → Int32) (q p : Nat), okV idI n (k + 1) p (.inr (c, v, q)) → okV idI n (k + 1) p (pL b n o1 o2 A m c v q)
  | 0, c, v, q, p, h => h
  | m + 1, c, v, q, p, h => by
    unfold pL
    obtain ⟨⟨h1, h2, h3⟩, h4⟩ := h
    have hg := skp_ge b n q
    by_cases ct : tk b n q = o1 ∨ tk b n q = o2
    · rw [if_pos ct]
      have hlt := tk_lt (b := b) (n := n) (p := q) (by omega)
      have hA' := hA (skp b n q + 1) (by omega)
      match hr : A (skp b n q + 1), hA' with
      | .inl f, hA' => exact hA'
      | .inr (c2, v2, q2), hA' =>
        obtain ⟨⟨a1, a2, a3⟩, a4⟩ := hA'
        refine pL_ok hA ho m _ _ q2 p ⟨⟨by omega, a2, by simp only [List.length_append, List.length_cons, List.length_nil]; omega⟩, fun L hL => ⟨opv_bd (h4 L hL).1, fun s hs => ?_⟩⟩
        have e1 := (h4 L hL).2 s hs
        have e2 := (a4 L hL).2 (v L :: s) (by simp only [List.length_cons]; omega)
        rw [exS_app L _ (c ++ c2) s (v2 L :: v L :: s) (by rw [exS_app L c2 c s _ e1]; exact e2)]
        exact exS_1 (stp_op (by omega))
    · rw [if_neg ct]
      exact ⟨⟨by omega, skp_le b h2, by omega⟩, h4⟩
theorem pTerm_ok {b : Nat → Nat} {n k : Nat} {A : Nat → PV Int32} (hA : ∀ p, p ≤ n → okV idI n k p (A p)) : ∀ p, p ≤ n → okV idI n (k + 1) p (pTerm b n A p) := by
  intro p hp
  unfold pTerm
  match A p, hA p hp with
  | .inl f, h => exact h
  | .inr (c, v, q), h => exact pL_ok hA (Or.inl ⟨rfl, rfl⟩) 241 c v q p (okV_mono h (Nat.le_succ k))
theorem pSum_ok {b : Nat → Nat} {n k : Nat} {A : Nat → PV Int32} (hA : ∀ p, p ≤ n → okV idI n k p (A p)) : ∀ p, p ≤ n → okV idI n (k + 2) p (pSum b n A p) := by
  intro p hp
  unfold pSum
  match pTerm b n A p, pTerm_ok (b := b) hA p hp with
  | .inl f, h => exact h
  | .inr (c, v, q), h => exact pL_ok (pTerm_ok hA) (Or.inr ⟨rfl, rfl⟩) 241 c v q p (okV_mono h (Nat.le_succ _))
theorem pAtom_ok {b : Nat → Nat} {n k : Nat} (hk : 1 ≤ k) {S : Option (Nat → PV Int32)} (hS : ∀ S', S = some S' → ∀ p, p ≤ n → okV idI n k p (S' p)) : ∀ p, p ≤ n → okV idI n k p (pAtom b n S p) := by
  intro p hp
  have hg := skp_ge b n p
  have hl := skp_le b hp
  unfold pAtom
  cases hi : lti (tk b n p) with
  | some i =>
    obtain ⟨i1, i2, i3⟩ := lti_lcd hi
    have := tk_lt i3
    exact ⟨⟨by omega, by omega, by simp only [List.length_cons, List.length_nil]; omega⟩, fun L hL => ⟨hL i i1, fun s hs => exS_1 (stp_let i1 (by omega))⟩⟩
  | none =>
    by_cases c : tk b n p = 91
    · simp only [if_pos c]
      have hlt := tk_lt (b := b) (n := n) (p := p) (by omega)
      match S, hS with
      | none, _ => exact hl
      | some S', hS =>
        show okV idI n k p (match S' (skp b n p + 1) with
          | .inl f => .inl f
          | .inr (c, v, q) => if tk b n q = 93 then .inr (c, v, skp b n q + 1) else .inl (skp b n q))
        match S' (skp b n p + 1), hS S' rfl (skp b n p + 1) (by omega) with
        | .inl f, h => exact h
        | .inr (c2, v, q), h =>
          have hg2 := skp_ge b n q
          show okV idI n k p (if tk b n q = 93 then .inr (c2, v, skp b n q + 1) else .inl (skp b n q))
          by_cases c3 : tk b n q = 93
          · rw [if_pos c3]
            have := tk_lt (b := b) (n := n) (p := q) (by omega)
            have h1 := h.1
            exact ⟨⟨by omega, by omega, by omega⟩, h.2⟩
          · rw [if_neg c3]
            exact skp_le b h.1.2.1
    · simp only [if_neg c]
      obtain ⟨n1, n2⟩ := num_b (b := b) hl
      cases hn : num b n (skp b n p) with
      | inl f => exact n1 f hn
      | inr vq =>
        obtain ⟨v, q⟩ := vq
        obtain ⟨m1, m2, m3⟩ := n2 v q hn
        refine ⟨⟨by omega, m2, by simp only [List.length_cons, List.length_nil]; omega⟩, fun L hL => ⟨?_, fun s hs => exS_1 (stp_num m3 (by omega))⟩⟩
        unfold bd idI
        rw [nI_toInt (by omega)]
        omega
theorem pAt_ok {b : Nat → Nat} {n : Nat} : ∀ l p : Nat, p ≤ n → okV idI n (2 * l + 1) p (pAt b n l p)
  | 0, p, hp => pAtom_ok (by omega) (fun S' e => by cases e) p hp
  | l + 1, p, hp => pAtom_ok (by omega) (fun S' e => by cases e; exact fun p hp => okV_mono (pSum_ok (fun p hp => pAt_ok l p hp) p hp) (by omega)) p hp
theorem pS_ok {b : Nat → Nat} {n : Nat} (l p : Nat) (hp : p ≤ n) : okV idI n (2 * l + 3) p (pSum b n (pAt b n l) p) := pSum_ok (pAt_ok l) p hp
theorem pCmpR_ok {b : Nat → Nat} {n k : Nat} {S : Nat → PV Int32} (hS : ∀ p, p ≤ n → okV idI n k p (S p)) {c : List Int32} {v : LV → Int32} {q p : Nat} (h : okV idI n k p (.inr (c, v, q))) : okV b32 n (k + 1) p (pCmpR b n S c v q) := by
  obtain ⟨⟨h1, h2, h3⟩, h4⟩ := h
  have hg := skp_ge b n q
  unfold pCmpR
  cases ct : isS (tk b n q)
  · simp only [Bool.false_eq_true, if_false]
    exact skp_le b h2
  · simp only [if_true]
    have hlt := tk_lt (b := b) (n := n) (p := q) (fun e => by rw [e] at ct; cases ct)
    match S (skp b n q + 1), hS (skp b n q + 1) (by omega) with
    | .inl f, h => exact h
    | .inr (c2, v2, q2), h =>
      obtain ⟨⟨a1, a2, a3⟩, a4⟩ := h
      refine ⟨⟨by omega, a2, by simp only [List.length_append, List.length_cons, List.length_nil]; omega⟩, fun L hL => ⟨b32_bd _, fun s hs => ?_⟩⟩
      have e1 := (h4 L hL).2 s (by omega)
      have e2 := (a4 L hL).2 (v L :: s) (by simp only [List.length_cons]; omega)
      rw [exS_app L _ (c ++ c2) s (v2 L :: v L :: s) (by rw [exS_app L c2 c s _ e1]; exact e2)]
      exact exS_1 (stp_cmp ct)
theorem pCmp_ok {b : Nat → Nat} {n k : Nat} {S : Nat → PV Int32} (hS : ∀ p, p ≤ n → okV idI n k p (S p)) {p : Nat} (hp : p ≤ n) : okV b32 n (k + 1) p (pCmp b n S p) := by
  unfold pCmp
  match S p, hS p hp with
  | .inl f, h => exact h
  | .inr (c, v, q), h => exact pCmpR_ok hS h
theorem pB_ok {b : Nat → Nat} {n o k : Nat} {g : Bool → Bool → Bool} {U : Nat → PV Bool} (hU : ∀ p, p ≤ n → okV b32 n k p (U p)) (ho : o ≠ 0) (hg : ∀ L a y s, stp1 L (-(nI o)) (b32 y :: b32 a :: s) = some (b32 (g a y) :: s)) : ∀ (m : Nat) (c : List Int32) (v : LV → Bool) (q p : Nat), okV b32 n (k + 1) p (.inr (c, v, q)) → okV b32 n (k + 1) p (pB b n o g U m c v q)
  | 0, c, v, q, p, h => h
  | m + 1, c, v, q, p, h => by
    unfold pB
    obtain ⟨⟨h1, h2, h3⟩, h4⟩ := h
    have hsg := skp_ge b n q
    by_cases ct : tk b n q = o
    · rw [if_pos ct]
      have hlt := tk_lt (b := b) (n := n) (p := q) (by omega)
      match U (skp b n q + 1), hU (skp b n q + 1) (by omega) with
      | .inl f, hA' => exact hA'
      | .inr (c2, v2, q2), hA' =>
        obtain ⟨⟨a1, a2, a3⟩, a4⟩ := hA'
        refine pB_ok hU ho hg m _ _ q2 p ⟨⟨by omega, a2, by simp only [List.length_append, List.length_cons, List.length_nil]; omega⟩, fun L hL => ⟨b32_bd _, fun s hs => ?_⟩⟩
        have e1 := (h4 L hL).2 s hs
        have e2 := (a4 L hL).2 (b32 (v L) :: s) (by simp only [List.length_cons]; omega)
        rw [exS_app L _ (c ++ c2) s (b32 (v2 L) :: b32 (v L) :: s) (by rw [exS_app L c2 c s _ e1]; exact e2)]
        exact exS_1 (hg _ _ _ _)
    · rw [if_neg ct]
      exact ⟨⟨by omega, skp_le b h2, by omega⟩, h4⟩
theorem pTr_ok {b : Nat → Nat} {n k p : Nat} {U : Nat → PV Bool} (hU : ∀ p, p ≤ n → okV b32 n k p (U p)) {r : PV Bool} (h : okV b32 n k p r) : okV b32 n (k + 1) p (pTr b n U r) := by
  unfold pTr
  match r, h with
  | .inl f, h => exact h
  | .inr (c, v, q), h => exact pB_ok hU (by omega) (fun _ _ _ _ => stp_and) 241 c v q p (okV_mono h (Nat.le_succ k))
theorem pCo_ok {b : Nat → Nat} {n k p : Nat} {U : Nat → PV Bool} (hU : ∀ p, p ≤ n → okV b32 n k p (U p)) {r : PV Bool} (h : okV b32 n k p r) : okV b32 n (k + 2) p (pCo b n U r) := by
  unfold pCo
  match pTr b n U r, pTr_ok (b := b) hU h with
  | .inl f, h => exact h
  | .inr (c, v, q), h => exact pB_ok (fun p hp => pTr_ok hU (hU p hp)) (by omega) (fun _ _ _ _ => stp_or) 241 c v q p (okV_mono h (Nat.le_succ _))
theorem pUnit_ok {b : Nat → Nat} {n k k2 : Nat} {low : Option (Nat → PV Bool)} {S : Nat → PV Int32} (hS : ∀ p, p ≤ n → okV idI n k2 p (S p)) (hk2 : k2 + 1 ≤ k) (hU : ∀ U, low = some U → ∃ k1, k1 + 2 ≤ k ∧ ∀ p, p ≤ n → okV b32 n k1 p (U p)) : ∀ p, p ≤ n → okV b32 n k p (pUnit b n low S p) := by
  intro p hp
  have hg := skp_ge b n p
  have hl := skp_le b hp
  unfold pUnit
  by_cases c1 : tk b n p = 33
  · rw [if_pos c1]
    have hlt := tk_lt (b := b) (n := n) (p := p) (by omega)
    match low, hU with
    | none, _ => exact hl
    | some U, hU =>
      obtain ⟨k1, hk1, hU'⟩ := hU U rfl
      show okV b32 n k p (match U (skp b n p + 1) with
        | .inl f => .inl f
        | .inr (c, v, q) => .inr (c ++ [-33], fun L => !(v L), q))
      match U (skp b n p + 1), hU' (skp b n p + 1) (by omega) with
      | .inl f, h => exact h
      | .inr (c, v, q), h =>
        have h1 := h.1
        refine ⟨⟨by omega, by omega, by simp only [List.length_append, List.length_cons, List.length_nil]; omega⟩, fun L hL => ⟨b32_bd _, fun s hs => ?_⟩⟩
        rw [exS_app L _ c s _ ((h.2 L hL).2 s (by omega))]
        exact exS_1 stp_not
  · rw [if_neg c1]
    by_cases c2 : tk b n p = 40
    · rw [if_pos c2]
      have hlt := tk_lt (b := b) (n := n) (p := p) (by omega)
      match low, hU with
      | none, _ => exact hl
      | some U, hU =>
        obtain ⟨k1, hk1, hU'⟩ := hU U rfl
        show okV b32 n k p (match pCo b n U (U (skp b n p + 1)) with
          | .inl f => .inl f
          | .inr (c, v, q) => if tk b n q = 41 then .inr (c, v, skp b n q + 1) else .inl (skp b n q))
        match pCo b n U (U (skp b n p + 1)), pCo_ok (b := b) hU' (hU' (skp b n p + 1) (by omega)) with
        | .inl f, h => exact h
        | .inr (c, v, q), h =>
          have h1 := h.1
          have hg2 := skp_ge b n q
          show okV b32 n k p (if tk b n q = 41 then .inr (c, v, skp b n q + 1) else .inl (skp b n q))
          by_cases c3 : tk b n q = 41
          · rw [if_pos c3]
            have := tk_lt (b := b) (n := n) (p := q) (by omega)
            exact okV_mono (k := k1 + 2) ⟨⟨by omega, by omega, by omega⟩, h.2⟩ hk1
          · rw [if_neg c3]
            exact skp_le b h.1.2.1
    · rw [if_neg c2]
      exact okV_lo (okV_mono (pCmp_ok hS hl) hk2) hg
theorem pUn_ok {b : Nat → Nat} {n : Nat} : ∀ l p : Nat, p ≤ n → okV b32 n (2 * l + 4) p (pUn b n l p)
  | 0, p, hp => pUnit_ok (k2 := 3) (fun p hp => pS_ok 0 p hp) (by omega) (fun U e => by cases e) p hp
  | l + 1, p, hp => pUnit_ok (k2 := 2 * (l + 1) + 3) (fun p hp => pS_ok (l + 1) p hp) (by omega) (fun U e => by cases e; exact ⟨2 * l + 4, by omega, fun p hp => pUn_ok l p hp⟩) p hp
/-! ===== whole laws ===== -/
def wrun (L : LV) : List Int32 → Bool → List Int32 → Option Int32
  | [], _, _ => some 0
  | x :: c, true, s => wrun L c (!decide (x = -59)) s
  | x :: c, false, s => if x = -59 then some (s.headD 0) else if x = -63 then (match s with
    | a :: t => wrun L c (decide (a = 0)) t
    | [] => none) else (match stp1 L x s with
    | some s' => wrun L c false s'
    | none => none)
theorem stp1_n {L : LV} {x : Int32} {s s' : List Int32} (h : stp1 L x s = some s') : ¬ x = -59 ∧ ¬ x = -63 := by
  constructor <;> rintro rfl <;> cases h
theorem wrun_consF {L : LV} {x : Int32} {c s s1 : List Int32} (n1 : ¬ x = -59) (n2 : ¬ x = -63) (h : stp1 L x s = some s1) : wrun L (x :: c) false s = wrun L c false s1 := by
  rw [wrun.eq_def]
  simp only [n1, n2, if_false, h]
theorem wrun_consT {L : LV} {x : Int32} {c s : List Int32} (n1 : ¬ x = -59) : wrun L (x :: c) true s = wrun L c true s := by
  show wrun L c (!decide (x = -59)) s = _
  rw [decide_eq_false n1]
  rfl
theorem wrun_f (L : LV) (c' : List Int32) : ∀ (c s s' : List Int32), exS L c s = some s' → wrun L (c ++ c') false s = wrun L c' false s'
  | [], s, s', h => by
    cases h
    rfl
  | x :: c, s, s', h => by
    cases hs : stp1 L x s with
    | none =>
      have h : (match stp1 L x s with
        | none => none
        | some s' => exS L c s') = some s' := h
      rw [hs] at h
      cases h
    | some s1 =>
      rw [exS_cons hs] at h
      obtain ⟨n1, n2⟩ := stp1_n hs
      show wrun L (x :: (c ++ c')) false s = _
      rw [wrun_consF n1 n2 hs]
      exact wrun_f L c' c s1 s' h
theorem wrun_t (L : LV) (c' s0 : List Int32) : ∀ (c s s' : List Int32), exS L c s = some s' → wrun L (c ++ c') true s0 = wrun L c' true s0
  | [], s, s', h => rfl
  | x :: c, s, s', h => by
    cases hs : stp1 L x s with
    | none =>
      have h : (match stp1 L x s with
        | none => none
        | some s' => exS L c s') = some s' := h
      rw [hs] at h
      cases h
    | some s1 =>
      rw [exS_cons hs] at h
      obtain ⟨n1, n2⟩ := stp1_n hs
      show wrun L (x :: (c ++ c')) true s0 = _
      rw [wrun_consT n1]
      exact wrun_t L c' s0 c s1 s' h
theorem wrun_end (L : LV) (c' : List Int32) (x : Int32) : wrun L ([-59] ++ c') false [x] = some x := by
  show (if (-59 : Int32) = -59 then some ([x].headD 0) else _) = _
  rw [if_pos rfl]
  rfl
theorem wrun_pass (L : LV) (c' s : List Int32) : wrun L ([-59] ++ c') true s = wrun L c' false s := rfl
theorem wrun_q (L : LV) (c' : List Int32) (v : Bool) : wrun L ([-63] ++ c') false [b32 v] = wrun L c' (!v) [] := by cases v <;> rfl
def okQ (n z p : Nat) (r : PV (Option Int32)) : Prop := match r with
  | .inl f => f ≤ n
  | .inr (c, v, q) => (p < q ∧ q ≤ n ∧ c.length + p ≤ q + z) ∧ ∀ L, bdL L → (∀ x, v L = some x → bd x) ∧ ∀ c', wrun L (c ++ c') false [] = match v L with
    | some x => some x
    | none => wrun L c' false []
theorem okQ_lo {n z p p' : Nat} {r : PV (Option Int32)} (h : okQ n z p r) (hp : p' ≤ p) : okQ n z p' r := by
  match r, h with
  | .inl f, h => exact h
  | .inr (c, v, q), h => exact ⟨⟨by have := h.1; omega, h.1.2.1, by have := h.1; omega⟩, h.2⟩
theorem pQ_ok {b : Nat → Nat} {n k p : Nat} {r : PV Bool} (hk : k ≤ 64) (h : okV b32 n k p r) : okQ n 1 p (pQ b n r) := by
  unfold pQ
  match r, h with
  | .inl f, h => exact h
  | .inr (c, v, q), h =>
    obtain ⟨⟨h1, h2, h3⟩, h4⟩ := h
    have hg := skp_ge b n q
    show okQ n 1 p (if tk b n q = 63 then (match pSum b n (pAt b n 6) (skp b n q + 1) with
      | .inl f => .inl f
      | .inr (c2, v2, q2) => .inr (c ++ [-63] ++ c2 ++ [-59], fun L => if v L then some (v2 L) else none, q2)) else .inl (skp b n q))
    by_cases ct : tk b n q = 63
    · rw [if_pos ct]
      have hlt := tk_lt (b := b) (n := n) (p := q) (by omega)
      match pSum b n (pAt b n 6) (skp b n q + 1), pS_ok (b := b) (n := n) 6 (skp b n q + 1) (by omega) with
      | .inl f, h => exact h
      | .inr (c2, v2, q2), h =>
        obtain ⟨⟨a1, a2, a3⟩, a4⟩ := h
        refine ⟨⟨by omega, a2, ?_⟩, fun L hL => ⟨fun x hx => ?_, fun c' => ?_⟩⟩
        · simp only [List.length_append, List.length_cons, List.length_nil]
          omega
        · have e : (if v L then some (v2 L) else none) = some x := hx
          split at e
          · cases e
            exact (a4 L hL).1
          · cases e
        · have e1 := (h4 L hL).2 [] (by simp only [List.length_nil]; omega)
          have e2 := (a4 L hL).2 [] (by simp only [List.length_nil]; omega)
          rw [List.append_assoc, List.append_assoc, List.append_assoc, wrun_f L _ c [] _ e1, wrun_q]
          show _ = (match (if v L then some (v2 L) else none) with
            | some x => some x
            | none => wrun L c' false [])
          cases hv : v L
          · rw [Bool.not_false, wrun_t L _ [] c2 [] _ e2, wrun_pass]
            rfl
          · rw [Bool.not_true, wrun_f L _ c2 [] _ e2]
            exact wrun_end L c' (v2 L)
    · rw [if_neg ct]
      exact skp_le b h2
theorem pBody_ok {b : Nat → Nat} {n r : Nat} (hr : r ≤ n) : okQ n 1 r (pBody b n r) := by
  have hg := skp_ge b n r
  have hl := skp_le b hr
  unfold pBody
  by_cases c1 : tk b n r = 33 ∨ tk b n r = 40
  · rw [if_pos c1]
    exact okQ_lo (pQ_ok (k := 18) (by omega) (pCo_ok (fun p hp => pUn_ok 6 p hp) (pUn_ok 6 _ hl))) hg
  · rw [if_neg c1]
    match hs : pSum b n (pAt b n 6) (skp b n r), pS_ok (b := b) (n := n) 6 (skp b n r) hl with
    | .inl f, h => exact h
    | .inr (c, v, q), h =>
      show okQ n 1 r (if isS (tk b n q) then pQ b n (pCo b n (pUn b n 6) (pCmpR b n (pSum b n (pAt b n 6)) c v q)) else .inr (c ++ [-59], fun L => some (v L), skp b n q))
      cases ct : isS (tk b n q)
      · simp only [Bool.false_eq_true, if_false]
        obtain ⟨⟨h1, h2, h3⟩, h4⟩ := h
        have hg2 := skp_ge b n q
        refine ⟨⟨by omega, skp_le b h2, by simp only [List.length_append, List.length_cons, List.length_nil]; omega⟩, fun L hL => ⟨fun x hx => ?_, fun c' => ?_⟩⟩
        · have e : some (v L) = some x := hx
          cases e
          exact (h4 L hL).1
        · rw [List.append_assoc, wrun_f L _ c [] _ ((h4 L hL).2 [] (by simp only [List.length_nil]; omega))]
          exact wrun_end L c' (v L)
      · simp only [if_true]
        exact okQ_lo (pQ_ok (k := 18) (by omega) (pCo_ok (fun p hp => pUn_ok 6 p hp) (pCmpR_ok (k := 15) (fun p hp => pS_ok 6 p hp) h))) hg
theorem pClause_ok {b : Nat → Nat} {n p : Nat} (hp : p ≤ n) : okQ n 0 p (pClause b n p) := by
  have hg := skp_ge b n p
  have hl := skp_le b hp
  unfold pClause
  by_cases c1 : tk b n p = 121
  · rw [if_pos c1]
    have hlt := tk_lt (b := b) (n := n) (p := p) (by omega)
    have hg2 := skp_ge b n (skp b n p + 1)
    by_cases c2 : tk b n (skp b n p + 1) = 58
    · rw [if_pos c2]
      have hlt2 := tk_lt (b := b) (n := n) (p := skp b n p + 1) (by omega)
      match pBody b n (skp b n (skp b n p + 1) + 1), pBody_ok (b := b) (n := n) (r := skp b n (skp b n p + 1) + 1) (by omega) with
      | .inl f, h => exact h
      | .inr (c, v, q), h => exact ⟨⟨by have := h.1; omega, h.1.2.1, by have := h.1; omega⟩, h.2⟩
    · rw [if_neg c2]
      exact skp_le b (by omega)
  · rw [if_neg c1]
    exact hl
theorem pLw_ok {b : Nat → Nat} {n : Nat} : ∀ (m : Nat) (c : List Int32) (v : LV → Option Int32) (q p : Nat), okQ n 0 p (.inr (c, v, q)) → okQ n 0 p (pLw b n m c v q)
  | 0, c, v, q, p, h => h
  | m + 1, c, v, q, p, h => by
    unfold pLw
    obtain ⟨⟨h1, h2, h3⟩, h4⟩ := h
    have hg := skp_ge b n q
    by_cases ct : tk b n q = 59
    · rw [if_pos ct]
      have hlt := tk_lt (b := b) (n := n) (p := q) (by omega)
      match pClause b n (skp b n q + 1), pClause_ok (b := b) (n := n) (p := skp b n q + 1) (by omega) with
      | .inl f, h => exact h
      | .inr (c2, v2, q2), h =>
        obtain ⟨⟨a1, a2, a3⟩, a4⟩ := h
        refine pLw_ok m _ _ q2 p ⟨⟨by omega, a2, by simp only [List.length_append]; omega⟩, fun L hL => ⟨fun x hx => ?_, fun c' => ?_⟩⟩
        · have e : (v L).or (v2 L) = some x := hx
          cases hv : v L with
          | some y => rw [hv] at e; cases e; exact (h4 L hL).1 _ hv
          | none => rw [hv] at e; exact (a4 L hL).1 _ e
        · rw [List.append_assoc, (h4 L hL).2, (a4 L hL).2]
          show _ = (match (v L).or (v2 L) with
            | some x => some x
            | none => wrun L c' false [])
          cases hv : v L with
          | some y => rfl
          | none => rfl
    · rw [if_neg ct]
      by_cases c2 : skp b n q < n
      · rw [if_pos c2]
        exact Nat.le_of_lt c2
      · rw [if_neg c2]
        exact ⟨⟨by omega, skp_le b h2, by omega⟩, h4⟩
theorem pLaw_ok {b : Nat → Nat} {n : Nat} : okQ n 0 0 (pLaw b n) := by
  unfold pLaw
  match pClause b n 0, pClause_ok (b := b) (n := n) (p := 0) (Nat.zero_le _) with
  | .inl f, h => exact h
  | .inr (c, v, q), h => exact pLw_ok 241 c v q 0 h
/-- what a law is worth -/
def wv (v : LV → Option Int32) (L : LV) : Int32 := (v L).getD 0
theorem pLaw_run {b : Nat → Nat} {n : Nat} {c : List Int32} {v : LV → Option Int32} {q : Nat} (h : pLaw b n = .inr (c, v, q)) {L : LV} (hL : bdL L) : wrun L c false [] = some (wv v L) ∧ bd (wv v L) ∧ c.length ≤ n := by
  have hk := pLaw_ok (b := b) (n := n)
  rw [h] at hk
  obtain ⟨⟨h1, h2, h3⟩, h4⟩ := hk
  have e := (h4 L hL).2 []
  rw [List.append_nil] at e
  unfold wv
  refine ⟨?_, ?_, by omega⟩
  · rw [e]
    cases v L <;> rfl
  · cases hv : v L with
    | some x => exact (h4 L hL).1 x hv
    | none => exact ⟨by decide, by decide⟩

/-! ===== the HALL's text: both ways of reading say the same ===== -/
def thn (b : Nat → Nat) (n : Nat) {α : Type} (r : Nat ⊕ (α × Nat)) : Nat ⊕ (α × Nat) := match r with
  | .inl g => .inl g
  | .inr (u, q) => if tk b n q = 0 ∨ tk b n q = 59 then .inr (u, q) else .inl q
theorem it_rel {X : Nat → Option Nat} {lo hi : Nat → Nat} {b : Nat → Nat} {n N : Nat} (hX : ∀ t w, X t = some w → w < N) (h0 : X 0 = none) (h59 : X 59 = none) (hN : N ≤ 10) (hpc : ∀ s, s < 2 ^ N → pc s ≤ N) : ∀ (m p s : Nat) (u : Nat → Nat), p ≤ n → s < 2 ^ N → pc s + m = N + 1 → itm X lo hi b n m p s u = thn b n (itmR X lo hi b n m p s u) ∧ ∀ u' q, itmR X lo hi b n m p s u = .inr (u', q) → skp b n q = q ∧ p ≤ q ∧ q ≤ n
  | 0, p, s, u, hp, hs, hm => by
    have := hpc s hs
    omega
  | m + 1, p, s, u, hp, hs, hm => by
    have hq := skp_le b hp
    have hg := skp_ge b n p
    unfold itm itmR
    cases hXX : X (tk b n p) with
    | none =>
      refine ⟨?_, fun u' q e => ?_⟩
      · show (if tk b n p = 0 ∨ tk b n p = 59 then _ else _) = (if tk b n (skp b n p) = 0 ∨ tk b n (skp b n p) = 59 then _ else _)
        rw [tk_skp]
      · injection e with e
        injection e with e1 e2
        subst e2
        exact ⟨skp_skp b n p, hg, hq⟩
    | some w =>
      have hw := hX _ w hXX
      have c : ¬ (tk b n p = 0 ∨ tk b n p = 59) := fun e => by
        rcases e with e | e
        · rw [e, h0] at hXX
          cases hXX
        · rw [e, h59] at hXX
          cases hXX
      rw [if_neg c]
      have hp1 : skp b n p < n := by
        rcases Nat.lt_or_ge (skp b n p) n with q | q
        · exact q
        · exact absurd (Or.inl (show tk b n p = 0 by unfold tk; rw [if_neg (by omega)])) c
      have hsq := skp_le b (show skp b n p + 1 ≤ n by omega)
      have hsg := skp_ge b n (skp b n p + 1)
      obtain ⟨nb1, nb2⟩ := numD_b (b := b) hsq
      show (if s / 2 ^ w % 2 = 1 then _ else _) = thn b n (if s / 2 ^ w % 2 = 1 then _ else _) ∧ ∀ u' q, (if s / 2 ^ w % 2 = 1 then _ else _) = _ → _
      by_cases cb : s / 2 ^ w % 2 = 1
      · simp only [if_pos cb]
        exact ⟨rfl, fun u' q e => by cases e⟩
      · simp only [if_neg cb]
        cases hNN : numD b n 2 (skp b n (skp b n p + 1)) with
        | inl g => exact ⟨rfl, fun u' q e => by cases e⟩
        | inr vq =>
          obtain ⟨v, q0⟩ := vq
          obtain ⟨y1, y2, y3⟩ := nb2 v q0 hNN
          show (if v < lo w ∨ hi w < v then _ else _) = thn b n (if v < lo w ∨ hi w < v then _ else _) ∧ ∀ u' q, (if v < lo w ∨ hi w < v then _ else _) = _ → _
          by_cases cr : v < lo w ∨ hi w < v
          · simp only [if_pos cr]
            exact ⟨rfl, fun u' q e => by cases e⟩
          · simp only [if_neg cr]
            have h1024 : s < 1024 := Nat.lt_of_lt_of_le hs (Nat.pow_le_pow_right (by omega) hN)
            obtain ⟨i1, i2⟩ := it_rel (lo := lo) (hi := hi) (b := b) (n := n) hX h0 h59 hN hpc m q0 (s ||| (1 <<< w)) (upn u w v) y2 (Nat.or_lt_two_pow hs (sh_lt hw)) (by rw [pc_up h1024 (by omega) cb]; omega)
            exact ⟨i1, fun u' q e => by have := i2 u' q e; omega⟩
def hclR (b : Nat → Nat) (n p : Nat) (st : HSt) : Nat ⊕ (HSt × Nat) :=
  if tk b n p = 108 ∧ st.1 < 6 then
    match itmR sti loL hiL b n 11 (skp b n p + 1) 0 usL with
    | .inl g => .inl g
    | .inr (u, q) => .inr ((st.1 + 1, (fun l => if l = st.1 then u else st.2.1 l), st.2.2.1, st.2.2.2), q)
  else if tk b n p = 114 ∧ st.2.2.1 = false then
    match itmR cti loR hiR b n 5 (skp b n p + 1) 0 usR with
    | .inl g => .inl g
    | .inr (u, q) => .inr ((st.1, st.2.1, true, u), q)
  else .inl (skp b n p)
theorem hcl_rel {b : Nat → Nat} {n p : Nat} (st : HSt) (hp : p ≤ n) : hcl b n p st = thn b n (hclR b n p st) ∧ ∀ st' q, hclR b n p st = .inr (st', q) → skp b n q = q ∧ p + 1 ≤ q ∧ q ≤ n := by
  have hg := skp_ge b n p
  have hp1 : tk b n p ≠ 0 → skp b n p < n := fun c0 => by
    rcases Nat.lt_or_ge (skp b n p) n with q | q
    · exact q
    · exact absurd (show tk b n p = 0 by unfold tk; rw [if_neg (by omega)]) c0
  unfold hcl hclR
  by_cases c1 : tk b n p = 108 ∧ st.1 < 6
  · simp only [if_pos c1]
    have hlt := hp1 (by omega)
    obtain ⟨i1, i2⟩ := it_rel (X := sti) (lo := loL) (hi := hiL) (b := b) (n := n) (N := 10) (fun t w => sti_lt) rfl rfl (by omega) (fun s _ => pc_10 s) 11 (skp b n p + 1) 0 usL (by omega) (by decide) (by decide)
    rw [i1]
    cases hI : itmR sti loL hiL b n 11 (skp b n p + 1) 0 usL with
    | inl g => exact ⟨rfl, fun st' q e => by cases e⟩
    | inr uq =>
      obtain ⟨u, q0⟩ := uq
      have a1 := i2 u q0 hI
      refine ⟨?_, fun st' q e => ?_⟩
      · unfold thn
        show (match (if tk b n q0 = 0 ∨ tk b n q0 = 59 then Sum.inr (u, q0) else Sum.inl q0) with
          | .inl g => Sum.inl g
          | .inr (u, q) => .inr ((st.1 + 1, (fun l => if l = st.1 then u else st.2.1 l), st.2.2.1, st.2.2.2), q)) = (if tk b n q0 = 0 ∨ tk b n q0 = 59 then _ else _)
        by_cases c : tk b n q0 = 0 ∨ tk b n q0 = 59
        · rw [if_pos c, if_pos c]
        · rw [if_neg c, if_neg c]
      · injection e with e
        injection e with e1 e2
        subst e2
        omega
  · simp only [if_neg c1]
    by_cases c2 : tk b n p = 114 ∧ st.2.2.1 = false
    · simp only [if_pos c2]
      have hlt := hp1 (by omega)
      obtain ⟨i1, i2⟩ := it_rel (X := cti) (lo := loR) (hi := hiR) (b := b) (n := n) (N := 4) (fun t w => cti_lt) rfl rfl (by omega) (fun s hs => pc_4 hs) 5 (skp b n p + 1) 0 usR (by omega) (by decide) (by decide)
      rw [i1]
      cases hI : itmR cti loR hiR b n 5 (skp b n p + 1) 0 usR with
      | inl g => exact ⟨rfl, fun st' q e => by cases e⟩
      | inr uq =>
        obtain ⟨u, q0⟩ := uq
        have a1 := i2 u q0 hI
        refine ⟨?_, fun st' q e => ?_⟩
        · unfold thn
          show (match (if tk b n q0 = 0 ∨ tk b n q0 = 59 then Sum.inr (u, q0) else Sum.inl q0) with
            | .inl g => Sum.inl g
            | .inr (u, q) => .inr ((st.1, st.2.1, true, u), q)) = (if tk b n q0 = 0 ∨ tk b n q0 = 59 then _ else _)
          by_cases c : tk b n q0 = 0 ∨ tk b n q0 = 59
          · rw [if_pos c, if_pos c]
          · rw [if_neg c, if_neg c]
        · injection e with e
          injection e with e1 e2
          subst e2
          omega
    · simp only [if_neg c2]
      exact ⟨rfl, fun st' q e => by cases e⟩
def halR (b : Nat → Nat) (n : Nat) : Nat → Nat → HSt → Nat ⊕ HSt
  | 0, _, _ => .inl 0
  | m + 1, p, st => match hclR b n p st with
    | .inl g => .inl g
    | .inr (st', q) => if tk b n q = 59 then halR b n m (skp b n q + 1) st' else if tk b n q = 0 ∧ ¬ st'.1 = 0 then .inr st' else .inl (skp b n q)
theorem hal_eq {b : Nat → Nat} {n : Nat} : ∀ (m p : Nat) (st : HSt), p ≤ n → hal b n m p st = halR b n m p st
  | 0, p, st, hp => rfl
  | m + 1, p, st, hp => by
    obtain ⟨i1, i2⟩ := hcl_rel (b := b) st hp
    unfold hal halR
    rw [i1]
    cases hH : hclR b n p st with
    | inl g => rfl
    | inr sq =>
      obtain ⟨st', q⟩ := sq
      obtain ⟨a1, a2, a3⟩ := i2 st' q hH
      unfold thn
      show (match (if tk b n q = 0 ∨ tk b n q = 59 then Sum.inr (st', q) else Sum.inl q : Nat ⊕ (HSt × Nat)) with
        | .inl g => Sum.inl g
        | .inr (st', q) => if tk b n q = 0 then (if st'.1 = 0 then .inl (skp b n q) else .inr st') else if tk b n q = 59 then hal b n m (skp b n q + 1) st' else .inl (skp b n q)) = (if tk b n q = 59 then halR b n m (skp b n q + 1) st' else if tk b n q = 0 ∧ ¬ st'.1 = 0 then .inr st' else .inl (skp b n q))
      by_cases c59 : tk b n q = 59
      · have hlt : skp b n q < n := by
          rcases Nat.lt_or_ge (skp b n q) n with q' | q'
          · exact q'
          · exact absurd c59 (by unfold tk; rw [if_neg (by omega)]; omega)
        rw [if_pos (Or.inr c59), if_pos c59]
        show (if tk b n q = 0 then _ else _) = _
        rw [if_neg (by omega), if_pos c59]
        exact hal_eq m _ st' (by omega)
      · rw [if_neg c59]
        by_cases c0 : tk b n q = 0
        · rw [if_pos (Or.inl c0)]
          show (if tk b n q = 0 then _ else _) = _
          rw [if_pos c0]
          by_cases cz : st'.1 = 0
          · rw [if_pos cz, if_neg (fun e => e.2 cz)]
          · rw [if_neg cz, if_pos ⟨c0, cz⟩]
        · rw [if_neg (fun e => e.elim c0 c59), if_neg (fun e => c0 e.1), a1]

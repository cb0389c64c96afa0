/-! ===== the HALL's text: what is told lies within its bounds ===== -/
theorem itm_r {X : Nat → Option Nat} {lo hi : Nat → Nat} {b : Nat → Nat} {n : Nat} : ∀ (m p s : Nat) (u : Nat → Nat), (∀ w, lo w ≤ u w ∧ u w ≤ hi w) → ∀ u' q, itm X lo hi b n m p s u = .inr (u', q) → ∀ w, lo w ≤ u' w ∧ u' w ≤ hi w
  | 0, p, s, u, hu, u', q, e => by
    unfold itm at e
    injection e with e
    injection e with e1 e2
    subst e1
    exact hu
  | m + 1, p, s, u, hu, u', q, e => by
    unfold itm at e
    by_cases c : tk b n p = 0 ∨ tk b n p = 59
    · rw [if_pos c] at e
      injection e with e
      injection e with e1 e2
      subst e1
      exact hu
    · rw [if_neg c] at e
      cases hX : X (tk b n p) with
      | none =>
        rw [hX] at e
        cases e
      | some w =>
        rw [hX] at e
        have e' : (if s / 2 ^ w % 2 = 1 then Sum.inl (skp b n p) else match numD b n 2 (skp b n (skp b n p + 1)) with
          | .inl g => .inl g
          | .inr (v, q) => if v < lo w ∨ hi w < v then .inl (q - 1) else itm X lo hi b n m q (s ||| (1 <<< w)) (upn u w v)) = .inr (u', q) := e
        by_cases cb : s / 2 ^ w % 2 = 1
        · rw [if_pos cb] at e'
          cases e'
        · rw [if_neg cb] at e'
          cases hN : numD b n 2 (skp b n (skp b n p + 1)) with
          | inl g =>
            rw [hN] at e'
            cases e'
          | inr vq =>
            obtain ⟨v, q0⟩ := vq
            rw [hN] at e'
            have e2 : (if v < lo w ∨ hi w < v then Sum.inl (q0 - 1) else itm X lo hi b n m q0 (s ||| (1 <<< w)) (upn u w v)) = .inr (u', q) := e'
            by_cases cr : v < lo w ∨ hi w < v
            · rw [if_pos cr] at e2
              cases e2
            · rw [if_neg cr] at e2
              refine itm_r m q0 _ _ (fun w' => ?_) u' q e2
              by_cases ew : w' = w
              · subst ew
                rw [un_at]
                omega
              · rw [un_ne _ _ ew]
                exact hu w'
def gdH (st : HSt) : Prop := (∀ l w, loL w ≤ st.2.1 l w ∧ st.2.1 l w ≤ hiL w) ∧ (∀ w, loR w ≤ st.2.2.2 w ∧ st.2.2.2 w ≤ hiR w) ∧ st.1 ≤ 6
theorem us_bL (w : Nat) : loL w ≤ usL w ∧ usL w ≤ hiL w := by
  unfold loL usL hiL
  repeat' split
  all_goals omega
theorem us_bR (w : Nat) : loR w ≤ usR w ∧ usR w ≤ hiR w := by
  unfold loR usR hiR
  repeat' split
  all_goals omega
theorem hcl_g {b : Nat → Nat} {n p q : Nat} {st st' : HSt} (hg : gdH st) (e : hcl b n p st = .inr (st', q)) : gdH st' := by
  obtain ⟨g1, g2, g3⟩ := hg
  unfold hcl at e
  by_cases c1 : tk b n p = 108 ∧ st.1 < 6
  · rw [if_pos c1] at e
    cases hI : itm sti loL hiL b n 11 (skp b n p + 1) 0 usL with
    | inl g =>
      rw [hI] at e
      cases e
    | inr uq =>
      obtain ⟨u, q0⟩ := uq
      rw [hI] at e
      injection e with e
      injection e with e1 e2
      subst e1
      refine ⟨fun l w => ?_, g2, by show st.1 + 1 ≤ 6; omega⟩
      show loL w ≤ (if l = st.1 then u else st.2.1 l) w ∧ (if l = st.1 then u else st.2.1 l) w ≤ hiL w
      by_cases el : l = st.1
      · rw [if_pos el]
        exact itm_r 11 _ _ _ us_bL u q0 hI w
      · rw [if_neg el]
        exact g1 l w
  · rw [if_neg c1] at e
    by_cases c2 : tk b n p = 114 ∧ st.2.2.1 = false
    · rw [if_pos c2] at e
      cases hI : itm cti loR hiR b n 5 (skp b n p + 1) 0 usR with
      | inl g =>
        rw [hI] at e
        cases e
      | inr uq =>
        obtain ⟨u, q0⟩ := uq
        rw [hI] at e
        injection e with e
        injection e with e1 e2
        subst e1
        exact ⟨g1, itm_r 5 _ _ _ us_bR u q0 hI, g3⟩
    · rw [if_neg c2] at e
      cases e
theorem hal_g {b : Nat → Nat} {n : Nat} : ∀ (m p : Nat) (st st' : HSt), gdH st → hal b n m p st = .inr st' → gdH st' ∧ st'.1 ≠ 0
  | 0, p, st, st', hg, e => by
    unfold hal at e
    cases e
  | m + 1, p, st, st', hg, e => by
    unfold hal at e
    cases hH : hcl b n p st with
    | inl g =>
      rw [hH] at e
      cases e
    | inr sq =>
      obtain ⟨st1, q⟩ := sq
      rw [hH] at e
      have hg1 := hcl_g hg hH
      have e' : (if tk b n q = 0 then (if st1.1 = 0 then Sum.inl (skp b n q) else .inr st1) else if tk b n q = 59 then hal b n m (skp b n q + 1) st1 else .inl (skp b n q)) = .inr st' := e
      by_cases c0 : tk b n q = 0
      · rw [if_pos c0] at e'
        by_cases cz : st1.1 = 0
        · rw [if_pos cz] at e'
          cases e'
        · rw [if_neg cz] at e'
          injection e' with e'
          subst e'
          exact ⟨hg1, cz⟩
      · rw [if_neg c0] at e'
        by_cases c59 : tk b n q = 59
        · rw [if_pos c59] at e'
          exact hal_g m _ st1 st' hg1 e'
        · rw [if_neg c59] at e'
          cases e'
theorem hal_ok {b : Nat → Nat} {n : Nat} {st : HSt} (e : hal b n 121 0 (0, fun _ => usL, false, usR) = .inr st) : gdH st ∧ st.1 ≠ 0 := hal_g 121 0 _ st ⟨fun _ w => us_bL w, us_bR, Nat.zero_le _⟩ e

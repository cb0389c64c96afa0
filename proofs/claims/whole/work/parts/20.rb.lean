/-! ===== the HALL's text: clauses, the class ===== -/
def usL (w : Nat) : Nat := if w = 0 ∨ w = 8 then 50 else if w = 1 ∨ w = 2 then 60 else if w = 3 ∨ w = 6 then 3 else if w = 7 then 40 else if w = 9 then 2 else 1
def usR (w : Nat) : Nat := if w = 0 then 2 else if w = 1 then 3 else if w = 2 then 1 else 0
theorem us_L : ∀ w, w < 10 → pm_ct 0 w = nI (usL w) := by decide
theorem us_R : ∀ w, w < 4 → pm_ct 1 w = nI (usR w) := by decide
theorem itm_b {X : Nat → Option Nat} {lo hi : Nat → Nat} {b : Nat → Nat} {n : Nat} : ∀ (m p s : Nat) (u : Nat → Nat), p ≤ n → ∀ u' q, itm X lo hi b n m p s u = .inr (u', q) → p ≤ q ∧ q ≤ n
  | 0, p, s, u, hp, u', q, e => by
    unfold itm at e
    injection e with e
    injection e with e1 e2
    omega
  | m + 1, p, s, u, hp, u', q, e => by
    have hq := skp_le b hp
    have hg := skp_ge b n p
    unfold itm at e
    by_cases c : tk b n p = 0 ∨ tk b n p = 59
    · rw [if_pos c] at e
      injection e with e
      injection e with e1 e2
      omega
    · rw [if_neg c] at e
      cases hX : X (tk b n p) with
      | none =>
        rw [hX] at e
        cases e
      | some w =>
        rw [hX] at e
        have e' : (if s / 2 ^ w % 2 = 1 then Sum.inl (skp b n p) else match numD b n 2 (skp b n (skp b n p + 1)) with
          | .inl g => .inl g
          | .inr (v, q) => if v < lo w ∨ hi w < v then .inl (q - 1) else itm X lo hi b n m q (s ||| (1 <<< w)) (upn u w v)) = .inr (u', q) := e
        by_cases cb : s / 2 ^ w % 2 = 1
        · rw [if_pos cb] at e'
          cases e'
        · rw [if_neg cb] at e'
          have hp1 : skp b n p < n := by
            rcases Nat.lt_or_ge (skp b n p) n with q | q
            · exact q
            · exact absurd (Or.inl (show tk b n p = 0 by unfold tk; rw [if_neg (by omega)])) c
          have hsq := skp_le b (show skp b n p + 1 ≤ n by omega)
          have hsg := skp_ge b n (skp b n p + 1)
          obtain ⟨nb1, nb2⟩ := numD_b (b := b) hsq
          cases hN : numD b n 2 (skp b n (skp b n p + 1)) with
          | inl g =>
            rw [hN] at e'
            cases e'
          | inr vq =>
            obtain ⟨v, q0⟩ := vq
            rw [hN] at e'
            obtain ⟨y1, y2, y3⟩ := nb2 v q0 hN
            have e2 : (if v < lo w ∨ hi w < v then Sum.inl (q0 - 1) else itm X lo hi b n m q0 (s ||| (1 <<< w)) (upn u w v)) = .inr (u', q) := e'
            by_cases cr : v < lo w ∨ hi w < v
            · rw [if_pos cr] at e2
              cases e2
            · rw [if_neg cr] at e2
              have := itm_b m q0 _ _ y2 u' q e2
              omega
/-- how far a HALL is read: lifters, what is told of them, whether RULES were told, and which -/
abbrev HSt := Nat × (Nat → Nat → Nat) × Bool × (Nat → Nat)
def hcl (b : Nat → Nat) (n p : Nat) (st : HSt) : Nat ⊕ (HSt × Nat) :=
  if tk b n p = 108 ∧ st.1 < 6 then
    match itm sti loL hiL b n 11 (skp b n p + 1) 0 usL with
    | .inl g => .inl g
    | .inr (u, q) => .inr ((st.1 + 1, (fun l => if l = st.1 then u else st.2.1 l), st.2.2.1, st.2.2.2), q)
  else if tk b n p = 114 ∧ st.2.2.1 = false then
    match itm cti loR hiR b n 5 (skp b n p + 1) 0 usR with
    | .inl g => .inl g
    | .inr (u, q) => .inr ((st.1, st.2.1, true, u), q)
  else .inl (skp b n p)
def hal (b : Nat → Nat) (n : Nat) : Nat → Nat → HSt → Nat ⊕ HSt
  | 0, _, _ => .inl 0
  | m + 1, p, st => match hcl b n p st with
    | .inl g => .inl g
    | .inr (st', q) => if tk b n q = 0 then (if st'.1 = 0 then .inl (skp b n q) else .inr st') else if tk b n q = 59 then hal b n m (skp b n q + 1) st' else .inl (skp b n q)
def HS (σ σ' : pm_H) (st : HSt) : Prop := ((∀ c, c < 6 ∨ 9 < c → σ'.1 c = σ.1 c) ∧ σ'.2 = σ.2) ∧ (σ'.1 7 2 = nI st.1 ∧ st.1 ≤ 6) ∧ σ'.1 6 2 = b32 st.2.2.1 ∧ (∀ l, l < 6 → ∀ w, w < 10 → σ'.1 8 (l * 10 + w) = nI (st.2.1 l w)) ∧ (∀ w, w < 4 → σ'.1 9 w = nI (st.2.2.2 w)) ∧ (∀ l, st.1 ≤ l → st.2.1 l = usL) ∧ (st.2.2.1 = false → st.2.2.2 = usR)
def okC (σ : pm_H) (M : Nat) (S : Nat → Int32) (n : Nat) (r : Nat ⊕ (HSt × Nat)) (o : Option pm_R) : Prop := match r with
  | .inl g => g ≤ n ∧ ∃ σ'' p', p' ≤ n ∧ ((∀ c, c < 6 ∨ 9 < c → σ''.1 c = σ.1 c) ∧ σ''.2 = σ.2) ∧ o = some (none, lx σ'' p' (nI g) M S)
  | .inr (st', q) => q ≤ n ∧ ∃ σ'', HS σ σ'' st' ∧ o = some (none, lx σ'' q (-1) M S)
theorem tpX_f {b : Nat → Nat} {n : Nat} {σ σ' : pm_H} (h : tpX b n σ) (hf : ∀ c, c < 6 ∨ 9 < c → σ'.1 c = σ.1 c) : tpX b n σ' := by
  unfold tpX
  rw [hf 1 (by omega), hf 2 (by omega)]
  exact h
theorem q_hcl (d : Nat) {b : Nat → Nat} {n M p : Nat} {S : Nat → Int32} {σ σ' : pm_H} {st : HSt} (h : tpX b n σ) (hp : p ≤ n) (hS : HS σ σ' st) : okC σ M S n (hcl b n p st) (xe (d + 6) 26 [.ref 6] (lx σ' p (-1) M S)) := by
  have hS' := hS
  obtain ⟨⟨fr, fr2⟩, ⟨s1, s2⟩, s3, s4, s5, s6, s7⟩ := hS
  have ht := tpX_f h fr
  have hn := h.1
  have hok := tpX_b h
  have htk := tk_le (p := p) hok
  have hq := skp_le b hp
  have i108 : (nI (tk b n p) = nI 108) = (tk b n p = 108) := tkI_eq htk (by omega)
  have i114 : (nI (tk b n p) = nI 114) = (tk b n p = 114) := tkI_eq htk (by omega)
  have hp1 : tk b n p ≠ 0 → skp b n p < n := fun c0 => by
    rcases Nat.lt_or_ge (skp b n p) n with q | q
    · exact q
    · exact absurd (show tk b n p = 0 by unfold tk; rw [if_neg (by omega)]) c0
  have e7 : (lx σ' (skp b n p) (-1) M S).1 7 2 = nI st.1 := by rw [lx_cc (by decide) (by decide) (by decide)]; exact s1
  have e6 : (lx σ' (skp b n p) (-1) M S).1 6 2 = b32 st.2.2.1 := by rw [lx_cc (by decide) (by decide) (by decide)]; exact s3
  have bad : pm_cl (xe (d + 5) 51 [.ref 1, .int (nI (skp b n p))] (lx σ' (skp b n p) (-1) M S)) (fun r => pm_run (xe (d + 5)) pg_X2_readClause (152, [.ref 6, .int (nI (tk b n p))], r.1.toList ++ [], r.2)) = some (none, lx σ' (skp b n p) (nI (skp b n p)) M S) := by
    rw [q_fa0]
    simp only [pm_cl_some, Option.toList_some, Option.toList_none, List.cons_append, List.nil_append]
    rw [sg_X2_readClause_152]
  have badC : okC σ M S n (.inl (skp b n p)) (some (none, lx σ' (skp b n p) (nI (skp b n p)) M S)) := ⟨hq, σ', skp b n p, hq, ⟨fr, fr2⟩, rfl⟩
  rw [en_X2_readClause, sg_X2_readClause_0, q_lk (d + 4) ht hp]
  simp only [pm_cl_some, Option.toList_some, Option.toList_none, List.cons_append, List.nil_append]
  rw [sg_X2_readClause_7]
  simp only [i108, i114]
  rw [lx_12, nI_add, lx_p, e7, e6, bad]
  have e7' : (lx σ' (skp b n p + 1) (-1) M S).1 7 2 = nI st.1 := by rw [lx_cc (by decide) (by decide) (by decide)]; exact s1
  rw [e7', pk_mul]
  unfold hcl
  by_cases c1 : tk b n p = 108
  · have c2 : ¬ tk b n p = 114 := by omega
    have hlt := hp1 (by omega)
    rw [if_pos c1, if_neg c2]
    by_cases c6 : st.1 < 6
    · rw [if_pos (nI_lt c6 (by omega)), if_pos ⟨c1, c6⟩, en_X2_readItems_l, sg_X2_readItems_l_0]
      have hit := q_it_l d (M := M) (S := S) (f0 := σ'.1 8) (fr := st.1 * 10) (by omega) ht 11 0 (skp b n p + 1) 0 usL (σ'.1 8) .null .null .null (by omega) (by decide) (by decide) (by omega) (fun w hw => by rw [s4 st.1 c6 w hw, s6 st.1 (Nat.le_refl _)]) (fun j _ => rfl)
      rw [wC_self] at hit
      cases hI : itm sti loL hiL b n 11 (skp b n p + 1) 0 usL with
      | inl g =>
        rw [hI] at hit
        obtain ⟨hg, p', f8, hp', ho⟩ := hit
        rw [ho]
        simp only [pm_cl_some, Option.toList_some, Option.toList_none, List.cons_append, List.nil_append]
        rw [sg_X2_readClause_68, wI_wC, lx_c (by decide) (by decide) (by decide)]
        exact ⟨hg, _, p', hp', ⟨fun c hc => by rw [wC_ne _ _ (by omega), wC_ne _ _ (by omega)]; exact fr c hc, by exact fr2⟩, rfl⟩
      | inr uq =>
        obtain ⟨u, q⟩ := uq
        rw [hI] at hit
        obtain ⟨hq', f8, ho, hu, hv⟩ := hit
        rw [ho]
        simp only [pm_cl_some, Option.toList_some, Option.toList_none, List.cons_append, List.nil_append]
        rw [sg_X2_readClause_68, wI_wC, lx_c (by decide) (by decide) (by decide), lx_cc (by decide) (by decide) (by decide), wC_ne _ _ (show (7 : Nat) ≠ 8 by decide), s1, nI_add]
        refine ⟨hq', _, ⟨⟨fun c hc => by rw [wC_ne _ _ (by omega), wC_ne _ _ (by omega)]; exact fr c hc, by exact fr2⟩, ⟨by rw [wC_at, up_at], by show st.1 + 1 ≤ 6; omega⟩, by rw [wC_ne _ _ (by decide), wC_ne _ _ (by decide)]; exact s3, fun l hl w hw => ?_, fun w hw => by rw [wC_ne _ _ (by decide), wC_ne _ _ (by decide)]; exact s5 w hw, fun l hl => ?_, s7⟩, rfl⟩
        · rw [wC_ne _ _ (by decide), wC_at]
          show _ = nI ((if l = st.1 then u else st.2.1 l) w)
          by_cases el : l = st.1
          · rw [if_pos el, el]
            exact hu w hw
          · rw [if_neg el, hv _ (by omega)]
            exact s4 l hl w hw
        · have hl' : st.1 + 1 ≤ l := hl
          show (if l = st.1 then u else st.2.1 l) = usL
          rw [if_neg (by omega)]
          exact s6 l (by omega)
    · rw [if_neg (nI_nlt (by omega) (by omega)), if_neg (fun e => c6 e.2), if_neg (fun e => c2 e.1)]
      exact badC
  · rw [if_neg c1, if_neg (fun e => c1 e.1)]
    by_cases c2 : tk b n p = 114
    · have hlt := hp1 (by omega)
      rw [if_pos c2]
      cases hr : st.2.2.1 with
      | true =>
        rw [if_neg bt0, if_neg (fun e => by cases e.2)]
        exact badC
      | false =>
        rw [if_pos bf0, if_pos ⟨c2, rfl⟩, wI_wC, lx_c (by decide) (by decide) (by decide), lx_cc (by decide) (by decide) (by decide), en_X2_readItems_r, sg_X2_readItems_r_0]
        have ht' := tpX_w (c := 6) (u := upd (σ'.1 6) 2 (nI 1)) ht (by decide) (by decide)
        have hit := q_it_r d (M := M) (S := S) (f0 := σ'.1 9) (fr := 0) (by omega) ht' 5 0 (skp b n p + 1) 0 usR (σ'.1 9) .null .null .null (by omega) (by decide) (by decide) (by omega) (fun w hw => by rw [Nat.zero_add, s5 w hw, s7 hr]) (fun j _ => rfl)
        rw [show pm_wC (pm_wC σ' 6 (upd (σ'.1 6) 2 (nI 1))) 9 (σ'.1 9) = pm_wC σ' 6 (upd (σ'.1 6) 2 (nI 1)) by
          have := wC_self (pm_wC σ' 6 (upd (σ'.1 6) 2 (nI 1))) 9
          rw [wC_ne _ _ (by decide)] at this
          exact this] at hit
        cases hI : itm cti loR hiR b n 5 (skp b n p + 1) 0 usR with
        | inl g =>
          rw [hI] at hit
          obtain ⟨hg, p', f8, hp', ho⟩ := hit
          rw [ho]
          simp only [pm_cl_some, Option.toList_some, Option.toList_none, List.cons_append, List.nil_append]
          rw [sg_X2_readClause_135]
          exact ⟨hg, _, p', hp', ⟨fun c hc => by rw [wC_ne _ _ (by omega), wC_ne _ _ (by omega)]; exact fr c hc, by exact fr2⟩, rfl⟩
        | inr uq =>
          obtain ⟨u, q⟩ := uq
          rw [hI] at hit
          obtain ⟨hq', f8, ho, hu, hv⟩ := hit
          rw [ho]
          simp only [pm_cl_some, Option.toList_some, Option.toList_none, List.cons_append, List.nil_append]
          rw [sg_X2_readClause_135]
          refine ⟨hq', _, ⟨⟨fun c hc => by rw [wC_ne _ _ (by omega), wC_ne _ _ (by omega)]; exact fr c hc, by exact fr2⟩, ⟨by rw [wC_ne _ _ (by decide), wC_ne _ _ (by decide)]; exact s1, s2⟩, by rw [wC_ne _ _ (by decide), wC_at, up_at]; rfl, fun l hl w hw => by rw [wC_ne _ _ (by decide), wC_ne _ _ (by decide)]; exact s4 l hl w hw, fun w hw => by rw [wC_at]; have := hu w hw; rw [Nat.zero_add] at this; exact this, s6, fun e => by cases e⟩, rfl⟩
    · rw [if_neg c2, if_neg (fun e => c2 e.1)]
      exact badC

/-! ===== the HALL's text: a clause, the reference ===== -/
def okDM (σ : pm_H) (dp : Int32) (n : Nat) (r : Nat ⊕ (HSt × Nat)) (o : Option pm_R) : Prop := match r with
  | .inl g => g ≤ n ∧ ∃ σ'' p', FM σ σ'' ∧ o = some (none, my σ'' p' (nI g) dp)
  | .inr (st', q) => q ≤ n ∧ ∃ σ'', HM σ σ'' st' ∧ o = some (none, my σ'' q (-1) dp)
theorem FM_w {σ σ' : pm_H} (h : FM σ σ') {c : Nat} (u : Nat → Int32) (hc : c = 139 ∨ c = 141) : FM σ (pm_wC σ' c u) := ⟨fun q h1 h2 h3 => by rw [wC_ne _ _ (by omega)]; exact h.1 q h1 h2 h3, h.2.1, fun k h1 h2 => by rw [wC_ne _ _ (by omega)]; exact h.2.2 k h1 h2⟩
theorem FM_o {σ σ' : pm_H} (h : FM σ σ') {k : Nat} (v : Int32) (hk : k = 23 ∨ k = 24) : FM σ (pm_wI σ' 133 k v) := ⟨fun q h1 h2 h3 => by rw [wI_wC, wC_ne _ _ h1]; exact h.1 q h1 h2 h3, h.2.1, fun j h1 h2 => by rw [wI_wC, wC_at, up_ne _ _ (by omega)]; exact h.2.2 j h1 h2⟩
theorem r_hcl (d : Nat) {b : Nat → Nat} {n p : Nat} {dp : Int32} {σ σ' : pm_H} {st : HSt} (h : tpM b n σ) (hp : p ≤ n) (hS : HM σ σ' st) : okDM σ dp n (hclR b n p st) (xe (d + 7) 73 [.ref 133] (my σ' p (-1) dp)) := by
  obtain ⟨fm, ⟨s1, s2⟩, s3, s4, s5⟩ := hS
  have ht := tpM_f h fm.1 fm.2.2
  have hn : n ≤ 240 := h.1.1
  have htk := tk_le (p := p) h.1
  have hq := skp_le b hp
  have i108 : (tkI (tk b n p) = nI 108) = (tk b n p = 108) := tkI_is htk (by omega) (by omega)
  have i114 : (tkI (tk b n p) = nI 114) = (tk b n p = 114) := tkI_is htk (by omega) (by omega)
  have hp1 : tk b n p ≠ 0 → skp b n p < n := fun c0 => by
    rcases Nat.lt_or_ge (skp b n p) n with q | q
    · exact q
    · exact absurd (show tk b n p = 0 by unfold tk; rw [if_neg (by omega)]) c0
  have e23 : (my σ' (skp b n p) (-1) dp).1 133 23 = nI st.1 := by rw [my_k (by decide)]; exact s1
  have e24 : (my σ' (skp b n p) (-1) dp).1 133 24 = b32 st.2.2.1 := by rw [my_k (by decide)]; exact s3
  have e23' : (my σ' (skp b n p + 1) (-1) dp).1 133 23 = nI st.1 := by rw [my_k (by decide)]; exact s1
  have bad : ∀ v : Int32, pm_cl (xe (d + 6) 75 [.ref 133] (my σ' (skp b n p) (-1) dp)) (fun r => pm_run (xe (d + 6)) pg_X12_readClause (47, [.ref 133, .int (tkI (tk b n p)), .int v], r.1.toList ++ [], r.2)) = some (none, my σ' (skp b n p) (nI (skp b n p)) dp) := by
    intro v
    rw [r_fa0]
    simp only [pm_cl_some, Option.toList_some, Option.toList_none, List.cons_append, List.nil_append]
    rw [sg_X12_readClause_47]
  have badC : okDM σ dp n (.inl (skp b n p)) (some (none, my σ' (skp b n p) (nI (skp b n p)) dp)) := ⟨hq, σ', skp b n p, fm, rfl⟩
  rw [en_X12_readClause, sg_X12_readClause_0, r_lk (d + 5) ht hp]
  simp only [pm_cl_some, Option.toList_some, Option.toList_none, List.cons_append, List.nil_append]
  rw [sg_X12_readClause_4]
  simp only [i108, i114, bad, my_10, nI_add, my_p, e23, e24, e23', if_pos n00, if_neg n10]
  unfold hclR
  by_cases c1 : tk b n p = 108
  · have c2 : ¬ tk b n p = 114 := by omega
    have hlt := hp1 (by omega)
    simp only [if_pos c1, if_neg c2]
    by_cases c6 : st.1 < 6
    · rw [if_pos (nI_lt c6 (by omega)), if_pos ⟨c1, c6⟩, my_o (by decide), sg_X12_readClause_75, my_k (show (23 : Nat) ≠ 10 ∧ (23 : Nat) ≠ 11 ∧ (23 : Nat) ≠ 12 by decide), wI_wC, wC_at, up_at, pk_sub (by omega), Nat.add_sub_cancel, pk_mul, c1, show tkI 108 = nI 108 from rfl]
      have fm' := FM_o fm (nI (st.1 + 1)) (k := 23) (Or.inl rfl)
      have hit := r_its_l d (fr := 10 * st.1) (p := skp b n p + 1) (dp := dp) (by omega) (tpM_f h fm'.1 fm'.2.2) (by omega)
      cases hI : itmR sti loL hiL b n 11 (skp b n p + 1) 0 usL with
      | inl g =>
        rw [hI] at hit
        obtain ⟨hg, p', f9, ho⟩ := hit
        rw [show xe (d + 6) 76 [.ref 133, .int (nI 108), .ref 139, .int (nI (10 * st.1)), .ref 170] (my (pm_wC σ' 133 (upd (σ'.1 133) 23 (nI (st.1 + 1)))) (skp b n p + 1) (-1) dp) = _ from ho]
        simp only [pm_cl_some, Option.toList_some, Option.toList_none, List.cons_append, List.nil_append]
        rw [sg_X12_readClause_96]
        exact ⟨hg, _, p', FM_w fm' f9 (Or.inl rfl), rfl⟩
      | inr uq =>
        obtain ⟨u, q⟩ := uq
        rw [hI] at hit
        obtain ⟨hq', f9, ho, hu, hv⟩ := hit
        rw [show xe (d + 6) 76 [.ref 133, .int (nI 108), .ref 139, .int (nI (10 * st.1)), .ref 170] (my (pm_wC σ' 133 (upd (σ'.1 133) 23 (nI (st.1 + 1)))) (skp b n p + 1) (-1) dp) = _ from ho]
        simp only [pm_cl_some, Option.toList_some, Option.toList_none, List.cons_append, List.nil_append]
        rw [sg_X12_readClause_96]
        refine ⟨hq', _, ⟨FM_w fm' f9 (Or.inl rfl), ⟨by rw [wC_ne _ _ (by decide), wI_wC, wC_at, up_at], by show st.1 + 1 ≤ 6; omega⟩, by rw [wC_ne _ _ (by decide), wI_wC, wC_at, up_ne _ _ (by decide)]; exact s3, fun l hl w hw => ?_, fun w hw => by rw [wC_ne _ _ (by decide), wI_wC, wC_ne _ _ (by decide)]; exact s5 w hw⟩, rfl⟩
        have hl' : l < st.1 + 1 := hl
        rw [wC_at]
        show _ = nI ((if l = st.1 then u else st.2.1 l) w)
        by_cases el : l = st.1
        · rw [if_pos el, el]
          exact hu w hw
        · rw [if_neg el, hv _ (by omega), wI_wC, wC_ne _ _ (by decide)]
          exact s4 l (by omega) w hw
    · rw [if_neg (nI_nlt (by omega) (by omega)), if_neg (fun e => c6 e.2), if_neg (fun e => c2 e.1)]
      exact badC
  · simp only [if_neg c1]
    rw [if_neg (fun e => c1 e.1)]
    by_cases c2 : tk b n p = 114
    · have hlt := hp1 (by omega)
      simp only [if_pos c2]
      cases hr : st.2.2.1 with
      | true =>
        rw [if_neg bt0, if_neg (fun e => by cases e.2)]
        exact badC
      | false =>
        rw [if_pos bf0, if_pos ⟨c2, rfl⟩, my_o (by decide), c2, show tkI 114 = nI 114 from rfl]
        have fm' := FM_o fm (nI 1) (k := 24) (Or.inr rfl)
        have hit := r_its_r d (fr := 0) (p := skp b n p + 1) (dp := dp) (by omega) (tpM_f h fm'.1 fm'.2.2) (by omega)
        cases hI : itmR cti loR hiR b n 5 (skp b n p + 1) 0 usR with
        | inl g =>
          rw [hI] at hit
          obtain ⟨hg, p', f9, ho⟩ := hit
          rw [ho]
          simp only [pm_cl_some, Option.toList_some, Option.toList_none, List.cons_append, List.nil_append]
          rw [sg_X12_readClause_117]
          exact ⟨hg, _, p', FM_w fm' f9 (Or.inr rfl), rfl⟩
        | inr uq =>
          obtain ⟨u, q⟩ := uq
          rw [hI] at hit
          obtain ⟨hq', f9, ho, hu, hv⟩ := hit
          rw [ho]
          simp only [pm_cl_some, Option.toList_some, Option.toList_none, List.cons_append, List.nil_append]
          rw [sg_X12_readClause_117]
          refine ⟨hq', _, ⟨FM_w fm' f9 (Or.inr rfl), ⟨by rw [wC_ne _ _ (by decide), wI_wC, wC_at, up_ne _ _ (by decide)]; exact s1, s2⟩, by rw [wC_ne _ _ (by decide), wI_wC, wC_at, up_at]; rfl, fun l hl w hw => by rw [wC_ne _ _ (by decide), wI_wC, wC_ne _ _ (by decide)]; exact s4 l hl w hw, fun w hw => by rw [wC_at]; have := hu w hw; rw [Nat.zero_add] at this; exact this⟩, rfl⟩
    · simp only [if_neg c2]
      rw [if_neg (fun e => c2 e.1)]
      exact badC

/-! ===== the HALL's text: clauses, the whole, the reference ===== -/
theorem my_o {σ : pm_H} {p k : Nat} {f dp v : Int32} (h : k ≠ 10 ∧ k ≠ 11 ∧ k ≠ 12) : pm_wI (my σ p f dp) 133 k v = my (pm_wI σ 133 k v) p f dp := by
  unfold my
  rw [wI_wC, wI_wC, wC_at, wC_at, wC_wC, wC_wC]
  congr 1
  funext j
  by_cases h1 : j = k
  · subst h1
    rw [up_at, up_ne _ _ h.2.2, up_ne _ _ h.2.1, up_ne _ _ h.1, up_at]
  · rw [up_ne _ _ h1]
    by_cases a : j = 12
    · subst a
      rw [up_at, up_at]
    · rw [up_ne _ _ a, up_ne _ _ a]
      by_cases a : j = 11
      · subst a
        rw [up_at, up_at]
      · rw [up_ne _ _ a, up_ne _ _ a]
        by_cases a : j = 10
        · subst a
          rw [up_at, up_at]
        · rw [up_ne _ _ a, up_ne _ _ a, up_ne _ _ h1]
theorem tpM_f {b : Nat → Nat} {n : Nat} {σ σ' : pm_H} (h : tpM b n σ) (hc : ∀ c, c ≠ 133 → c ≠ 139 → c ≠ 141 → σ'.1 c = σ.1 c) (hk : ∀ k, k ≠ 23 → k ≠ 24 → σ'.1 133 k = σ.1 133 k) : tpM b n σ' := by
  obtain ⟨hb, c', N, B, hc', hc1, hc2, h5, h8, h9, hB, hN, hx⟩ := h
  refine ⟨hb, c', N, B, hc', hc1, hc2, by rw [hk 5 (by decide) (by decide)]; exact h5, by rw [hk 8 (by decide) (by decide)]; exact h8, by rw [hk 9 (by decide) (by decide)]; exact h9, hB, hN, fun i hi => ?_⟩
  rw [hc c' hc2 (fun e => by rw [e] at hc'; cases hc') (fun e => by rw [e] at hc'; cases hc')]
  exact hx i hi
def FM (σ σ' : pm_H) : Prop := (∀ c, c ≠ 133 → c ≠ 139 → c ≠ 141 → σ'.1 c = σ.1 c) ∧ σ'.2 = σ.2 ∧ ∀ k, k ≠ 23 → k ≠ 24 → σ'.1 133 k = σ.1 133 k
def HM (σ σ' : pm_H) (st : HSt) : Prop := FM σ σ' ∧ (σ'.1 133 23 = nI st.1 ∧ st.1 ≤ 6) ∧ σ'.1 133 24 = b32 st.2.2.1 ∧ (∀ l, l < st.1 → ∀ w, w < 10 → σ'.1 139 (10 * l + w) = nI (st.2.1 l w)) ∧ ∀ w, w < 4 → σ'.1 141 w = nI (st.2.2.2 w)
theorem r_us_l (d : Nat) {fr p : Nat} {f0 : Nat → Int32} {f dp : Int32} {σ : pm_H} (hfr : fr + 10 ≤ 60) : ∀ (m k : Nat) (f9 : Nat → Int32) (w6 : Value), k + m = 10 → (∀ w, w < k → f9 (fr + w) = nI (usL w)) → (∀ j, (j < fr ∨ fr + 10 ≤ j) → f9 j = f0 j) → ∃ f9', pm_run (xe (d + 5)) pg_X12_readItems (3, [.ref 133, .int (nI 108), .ref 139, .int (nI fr), .ref 170, .int (nI k), w6], [], my (pm_wC σ 139 f9) p f dp) = pm_cl (xe (d + 5) 74 [.ref 133] (my (pm_wC σ 139 f9') p f dp)) (fun r => pm_run (xe (d + 5)) pg_X12_readItems (40, [.ref 133, .int (nI 108), .ref 139, .int (nI fr), .ref 170, .int (nI 0), .null], r.1.toList ++ [.ref 170], r.2)) ∧ (∀ w, w < 10 → f9' (fr + w) = nI (usL w)) ∧ ∀ j, (j < fr ∨ fr + 10 ≤ j) → f9' j = f0 j
  | 0, k, f9, w6, e, h1, h2 => by
    refine ⟨f9, ?_, fun w hw => h1 w (by omega), h2⟩
    rw [sg_X12_readItems_l_3, q_slen (d + 3) _ kd_s kd_sv]
    simp only [pm_cl_some, Option.toList_some, Option.toList_none, List.cons_append, List.nil_append]
    rw [sg_X12_readItems_l_10, if_neg (nI_nlt (by omega) (by omega))]
  | m + 1, k, f9, w6, e, h1, h2 => by
    rw [sg_X12_readItems_l_3, q_slen (d + 3) _ kd_s kd_sv]
    simp only [pm_cl_some, Option.toList_some, Option.toList_none, List.cons_append, List.nil_append]
    rw [sg_X12_readItems_l_10, if_pos (nI_lt (by omega) (by omega)), r_usL (d + 4) _ k (by omega)]
    simp only [pm_cl_some, Option.toList_some, Option.toList_none, List.cons_append, List.nil_append]
    rw [sg_X12_readItems_l_24, nI_add, ck_n _ (by omega) (by omega), nI_clamp (by omega), nI_add, wI_wC, my_ne (by decide), my_c (by decide), wC_at, wC_wC]
    refine r_us_l d hfr m (k + 1) _ _ (by omega) (fun w hw => ?_) (fun j hj => ?_)
    · by_cases ew : w = k
      · subst ew
        rw [up_at]
      · rw [up_ne _ _ (by omega)]
        exact h1 w (by omega)
    · rw [up_ne _ _ (by omega)]
      exact h2 j hj
theorem r_its_l (d : Nat) {b : Nat → Nat} {n fr p : Nat} {dp : Int32} {σ : pm_H} (hfr : fr + 10 ≤ 60) (h : tpM b n σ) (hp : p ≤ n) : okJ σ 139 fr 10 (σ.1 139) dp n (itmR sti loL hiL b n (10 + 1) p 0 usL) (xe (d + 6) 76 [.ref 133, .int (nI 108), .ref 139, .int (nI fr), .ref 170] (my σ p (-1) dp)) := by
  obtain ⟨f9, i1, i2, i3⟩ := r_us_l d (p := p) (f := -1) (dp := dp) (σ := σ) (f0 := σ.1 139) hfr 10 0 (σ.1 139) .null (by omega) (fun w hw => by omega) (fun _ _ => rfl)
  rw [wC_self] at i1
  have ht := tpM_w (u := f9) (c := 139) h (by decide) (Or.inr (fun N e => by cases e))
  rw [en_X12_readItems_l, sg_X12_readItems_l_0, i1, r_lk (d + 4) ht hp]
  simp only [pm_cl_some, Option.toList_some, Option.toList_none, List.cons_append, List.nil_append]
  rw [sg_X12_readItems_l_40, r_pl_s d _ (tk_le h.1)]
  simp only [pm_cl_some, Option.toList_some, Option.toList_none, List.cons_append, List.nil_append]
  rw [sg_X12_readItems_l_43]
  exact r_it_l d hfr h (10 + 1) p 0 usL f9 (by decide) (by decide) hp i2 i3
theorem r_us_r (d : Nat) {fr p : Nat} {f0 : Nat → Int32} {f dp : Int32} {σ : pm_H} (hfr : fr + 4 ≤ 4) : ∀ (m k : Nat) (f9 : Nat → Int32) (w6 : Value), k + m = 4 → (∀ w, w < k → f9 (fr + w) = nI (usR w)) → (∀ j, (j < fr ∨ fr + 4 ≤ j) → f9 j = f0 j) → ∃ f9', pm_run (xe (d + 5)) pg_X12_readItems (3, [.ref 133, .int (nI 114), .ref 141, .int (nI fr), .ref 171, .int (nI k), w6], [], my (pm_wC σ 141 f9) p f dp) = pm_cl (xe (d + 5) 74 [.ref 133] (my (pm_wC σ 141 f9') p f dp)) (fun r => pm_run (xe (d + 5)) pg_X12_readItems (40, [.ref 133, .int (nI 114), .ref 141, .int (nI fr), .ref 171, .int (nI 0), .null], r.1.toList ++ [.ref 171], r.2)) ∧ (∀ w, w < 4 → f9' (fr + w) = nI (usR w)) ∧ ∀ j, (j < fr ∨ fr + 4 ≤ j) → f9' j = f0 j
  | 0, k, f9, w6, e, h1, h2 => by
    refine ⟨f9, ?_, fun w hw => h1 w (by omega), h2⟩
    rw [sg_X12_readItems_r_3, q_slen (d + 3) _ kd_c kd_cv]
    simp only [pm_cl_some, Option.toList_some, Option.toList_none, List.cons_append, List.nil_append]
    rw [sg_X12_readItems_r_10, if_neg (nI_nlt (by omega) (by omega))]
  | m + 1, k, f9, w6, e, h1, h2 => by
    rw [sg_X12_readItems_r_3, q_slen (d + 3) _ kd_c kd_cv]
    simp only [pm_cl_some, Option.toList_some, Option.toList_none, List.cons_append, List.nil_append]
    rw [sg_X12_readItems_r_10, if_pos (nI_lt (by omega) (by omega)), r_usR (d + 4) _ k (by omega)]
    simp only [pm_cl_some, Option.toList_some, Option.toList_none, List.cons_append, List.nil_append]
    rw [sg_X12_readItems_r_24, nI_add, ck_n _ (by omega) (by omega), nI_clamp (by omega), nI_add, wI_wC, my_ne (by decide), my_c (by decide), wC_at, wC_wC]
    refine r_us_r d hfr m (k + 1) _ _ (by omega) (fun w hw => ?_) (fun j hj => ?_)
    · by_cases ew : w = k
      · subst ew
        rw [up_at]
      · rw [up_ne _ _ (by omega)]
        exact h1 w (by omega)
    · rw [up_ne _ _ (by omega)]
      exact h2 j hj
theorem r_its_r (d : Nat) {b : Nat → Nat} {n fr p : Nat} {dp : Int32} {σ : pm_H} (hfr : fr + 4 ≤ 4) (h : tpM b n σ) (hp : p ≤ n) : okJ σ 141 fr 4 (σ.1 141) dp n (itmR cti loR hiR b n (4 + 1) p 0 usR) (xe (d + 6) 76 [.ref 133, .int (nI 114), .ref 141, .int (nI fr), .ref 171] (my σ p (-1) dp)) := by
  obtain ⟨f9, i1, i2, i3⟩ := r_us_r d (p := p) (f := -1) (dp := dp) (σ := σ) (f0 := σ.1 141) hfr 4 0 (σ.1 141) .null (by omega) (fun w hw => by omega) (fun _ _ => rfl)
  rw [wC_self] at i1
  have ht := tpM_w (u := f9) (c := 141) h (by decide) (Or.inr (fun N e => by cases e))
  rw [en_X12_readItems_r, sg_X12_readItems_r_0, i1, r_lk (d + 4) ht hp]
  simp only [pm_cl_some, Option.toList_some, Option.toList_none, List.cons_append, List.nil_append]
  rw [sg_X12_readItems_r_40, r_pl_c d _ (tk_le h.1)]
  simp only [pm_cl_some, Option.toList_some, Option.toList_none, List.cons_append, List.nil_append]
  rw [sg_X12_readItems_r_43]
  exact r_it_r d hfr h (4 + 1) p 0 usR f9 (by decide) (by decide) hp i2 i3

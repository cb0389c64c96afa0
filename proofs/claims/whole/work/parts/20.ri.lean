/-! ===== the HALL's text: the whole, the reference ===== -/
def okRM (σ : pm_H) (dp : Int32) (n : Nat) (r : Nat ⊕ HSt) (o : Option pm_R) : Prop := match r with
  | .inl g => g ≤ n ∧ ∃ σ'' p', FM σ σ'' ∧ o = some (none, my σ'' p' (nI g) dp)
  | .inr st => st.1 ≠ 0 ∧ ∃ σ'' p', HM σ σ'' st ∧ o = some (none, my σ'' p' (-1) dp)
theorem r_rd_h (d : Nat) {b : Nat → Nat} {n : Nat} {dp : Int32} {σ : pm_H} (h : tpM b n σ) : ∀ (m k p : Nat) (σ' : pm_H) (st : HSt), k + m = 121 → 2 * k ≤ p → p ≤ n → HM σ σ' st → okRM σ dp n (halR b n m p st) (pm_run (xe (d + 7)) pg_X12_readHall (50, [.ref 133, .int (nI 1)], [], my σ' p (-1) dp))
  | 0, k, p, σ', st, e, hk, hp, hS => by
    have : n ≤ 240 := h.1.1
    omega
  | m + 1, k, p, σ', st, e, hk, hp, hS => by
    have hn : n ≤ 240 := h.1.1
    have hc := r_hcl d (dp := dp) h hp hS
    rw [sg_X12_readHall_50, if_neg n10, my_11, if_pos rfl]
    unfold halR
    cases hH : hclR b n p st with
    | inl g =>
      rw [hH] at hc
      obtain ⟨hg, σ'', p', fm, ho⟩ := hc
      rw [ho]
      simp only [pm_cl_some, Option.toList_some, Option.toList_none, List.cons_append, List.nil_append]
      rw [sg_X12_readHall_66, my_11, if_neg (nI_nm1 (by omega)), if_pos n00, sg_X12_readHall_50, if_pos n00, my_11, if_neg (nI_nm1 (by omega))]
      exact ⟨hg, σ'', p', fm, rfl⟩
    | inr sq =>
      obtain ⟨st', q⟩ := sq
      rw [hH] at hc
      obtain ⟨hq, σ'', hS', ho⟩ := hc
      obtain ⟨a0, a1, a2⟩ := (hcl_rel (b := b) st hp).2 st' q hH
      have ht := tpM_f h hS'.1.1 hS'.1.2.2
      have htk := tk_le (p := q) h.1
      have hsq := skp_le b hq
      rw [ho]
      simp only [pm_cl_some, Option.toList_some, Option.toList_none, List.cons_append, List.nil_append]
      rw [sg_X12_readHall_66, my_11, if_pos rfl, r_lk (d + 6) ht hq]
      simp only [pm_cl_some, Option.toList_some, Option.toList_none, List.cons_append, List.nil_append]
      rw [sg_X12_readHall_78]
      show okRM _ _ _ (if tk b n q = 59 then halR b n m (skp b n q + 1) st' else if tk b n q = 0 ∧ ¬ st'.1 = 0 then .inr st' else .inl (skp b n q)) _
      by_cases c59 : tk b n q = 59
      · have hlt : skp b n q < n := by
          rcases Nat.lt_or_ge (skp b n q) n with q' | q'
          · exact q'
          · exact absurd c59 (by unfold tk; rw [if_neg (by omega)]; omega)
        rw [if_pos c59, if_pos ((tkI_is htk (by omega) (by omega)).mpr c59), if_neg n10, my_10, nI_add, my_p]
        exact r_rd_h d h m (k + 1) (skp b n q + 1) σ'' st' (by omega) (by omega) (by omega) hS'
      · rw [if_neg c59, if_neg (fun e => c59 ((tkI_is htk (by omega) (by omega)).mp e)), if_pos n00, sg_X12_readHall_50, if_pos n00, my_11, if_pos rfl, r_lk (d + 6) ht hsq, tk_skp, skp_skp]
        simp only [pm_cl_some, Option.toList_some, Option.toList_none, List.cons_append, List.nil_append]
        rw [sg_X12_readHall_118, my_k (show (23 : Nat) ≠ 10 ∧ (23 : Nat) ≠ 11 ∧ (23 : Nat) ≠ 12 by decide), hS'.2.1.1, r_fa0]
        simp only [pm_cl_some, Option.toList_some, Option.toList_none, List.cons_append, List.nil_append]
        rw [sg_X12_readHall_133]
        by_cases c0 : tk b n q = 0
        · rw [if_pos ((tkI_end htk).mpr c0)]
          by_cases cz : st'.1 = 0
          · rw [if_neg (fun e => e.2 cz), cz, if_pos n00]
            exact ⟨hsq, σ'', _, hS'.1, rfl⟩
          · rw [if_pos ⟨c0, cz⟩, if_neg (nI_ne0 (by omega) (by have := hS'.2.1.2; omega))]
            exact ⟨cz, σ'', _, hS', rfl⟩
        · rw [if_neg (fun e => c0 ((tkI_end htk).mp e)), if_neg (fun e => c0 e.1)]
          exact ⟨hsq, σ'', _, hS'.1, rfl⟩
theorem r_rul_l (d : Nat) {p : Nat} {f dp : Int32} {σ : pm_H} : ∀ (m k : Nat) (u : Nat → Int32), k + m = 4 → (∀ w, w < k → u w = nI (usR w)) → ∃ u', pm_run (xe (d + 1)) pg_X12_readHall (25, [.ref 133, .int (nI k)], [], my (pm_wC σ 141 u) p f dp) = pm_run (xe (d + 1)) pg_X12_readHall (50, [.ref 133, .int (nI 1)], [], my (pm_wC σ 141 u') p f dp) ∧ ∀ w, w < 4 → u' w = nI (usR w)
  | 0, k, u, e, hu => ⟨u, by rw [sg_X12_readHall_25, if_neg (nI_nlt (by omega) (by omega))], fun w hw => hu w (by omega)⟩
  | m + 1, k, u, e, hu => by
    rw [sg_X12_readHall_25, if_pos (nI_lt (by omega) (by omega)), r_usR d _ k (by omega)]
    simp only [pm_cl_some, Option.toList_some, Option.toList_none, List.cons_append, List.nil_append]
    rw [sg_X12_readHall_41, ck_n _ (by omega) (by omega), nI_clamp (by omega), nI_add, wI_wC, my_ne (by decide), my_c (by decide), wC_at, wC_wC]
    refine r_rul_l d m (k + 1) _ (by omega) (fun w hw => ?_)
    by_cases ew : w = k
    · subst ew
      rw [up_at]
    · rw [up_ne _ _ ew]
      exact hu w (by omega)
def sg5 (σ : pm_H) (n : Nat) : pm_H := pm_wI (pm_wI (pm_wI σ 133 5 (Int32.ofNat 134)) 133 8 (nI 0)) 133 9 (nI n)
theorem my_00 (σ : pm_H) : pm_wI (pm_wI σ 133 10 (nI 0)) 133 11 (-1) = my σ 0 (-1) (σ.1 133 12) := by
  unfold my
  rw [wI_wC, wI_wC, wC_at, wC_wC]
  congr 1
  funext j
  by_cases a : j = 12
  · subst a
    rw [up_ne _ _ (by decide), up_ne _ _ (by decide), up_at]
  · rw [up_ne _ _ a]
/-- what the reference's reader of HALLS does -/
theorem r_readHall (d : Nat) {b : Nat → Nat} {n : Nat} {σ : pm_H} (hb : okb b n) (h6 : σ.1 133 6 = nI n) (hx : ∀ i, i < n → σ.1 134 i = byt (b i)) : okRM (sg5 σ n) ((sg5 σ n).1 133 12) n (halR b n 121 0 (0, fun _ => usL, false, usR)) (xe (d + 8) 70 [.ref 133] σ) := by
  have ht : tpM b n (sg5 σ n) := by
    refine ⟨hb, 134, 240, 0, kd_134, by decide, by decide, ?_, ?_, ?_, by have := hb.1; omega, by decide, fun i hi => ?_⟩
    · unfold sg5
      rw [wI_wC, wC_at, up_ne _ _ (by decide), wI_wC, wC_at, up_ne _ _ (by decide), wI_wC, wC_at, up_at]
      rfl
    · unfold sg5
      rw [wI_wC, wC_at, up_ne _ _ (by decide), wI_wC, wC_at, up_at]
    · unfold sg5
      rw [wI_wC, wC_at, up_at]
    · unfold sg5
      rw [wI_wC, wC_ne _ _ (by decide), wI_wC, wC_ne _ _ (by decide), wI_wC, wC_ne _ _ (by decide), Nat.zero_add]
      exact hx i hi
  rw [en_X12_readHall, sg_X12_readHall_0, h6, en_X12_starts_t, sg_X12_starts_t_0, sg_X12_starts_t_15, show pm_wI (pm_wI (pm_wI σ 133 5 (Int32.ofNat 134)) 133 8 (nI 0)) 133 9 (nI n) = sg5 σ n from rfl, my_00]
  simp only [pm_cl_some, Option.toList_some, Option.toList_none, List.cons_append, List.nil_append]
  rw [sg_X12_readHall_13, my_o (by decide), my_o (by decide)]
  obtain ⟨u', i1, i2⟩ := r_rul_l (d + 6) (p := 0) (f := -1) (dp := (sg5 σ n).1 133 12) (σ := pm_wI (pm_wI (sg5 σ n) 133 23 (nI 0)) 133 24 (nI 0)) 4 0 ((pm_wI (pm_wI (sg5 σ n) 133 23 (nI 0)) 133 24 (nI 0)).1 141) (by omega) (fun w hw => by omega)
  rw [wC_self] at i1
  rw [i1]
  have fm : FM (sg5 σ n) (pm_wC (pm_wI (pm_wI (sg5 σ n) 133 23 (nI 0)) 133 24 (nI 0)) 141 u') := FM_w (FM_o (FM_o ⟨fun _ _ _ _ => rfl, rfl, fun _ _ _ => rfl⟩ (nI 0) (Or.inl rfl)) (nI 0) (Or.inr rfl)) u' (Or.inr rfl)
  refine r_rd_h d ht 121 0 0 _ (0, fun _ => usL, false, usR) (by omega) (by omega) (Nat.zero_le _) ⟨fm, ⟨?_, Nat.zero_le _⟩, ?_, fun l hl => absurd hl (Nat.not_lt_zero l), fun w hw => by rw [wC_at]; exact i2 w hw⟩
  · rw [wC_ne _ _ (by decide), wI_wC, wC_at, up_ne _ _ (by decide), wI_wC, wC_at, up_at]
  · rw [wC_ne _ _ (by decide), wI_wC, wC_at, up_at]
    rfl

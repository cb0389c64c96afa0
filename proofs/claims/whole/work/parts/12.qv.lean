/-! ===== what was seen: the log and the sheet ===== -/
theorem bt0 : ¬ b32 true = 0 := by decide
theorem bf0 : b32 false = 0 := by decide
def HG (σ σ' : pm_H) (n : Nat) : Prop := n ≤ 36 ∧ σ.1 27 5 = nI n ∧ σ'.1 142 70 = nI n ∧ ∀ i, i < n →
  (σ'.1 142 (71 + 5 * i) = σ.1 28 i ∧ σ'.1 142 (71 + 5 * i + 1) = σ.1 29 i ∧ σ'.1 142 (71 + 5 * i + 2) = σ.1 30 i ∧ σ'.1 142 (71 + 5 * i + 3) = σ.1 31 i ∧ σ'.1 142 (71 + 5 * i + 4) = σ.1 32 i) ∧ ∃ c, c < 8 ∧ σ.1 30 i = nI c
theorem HG_of {k sz n a e : Nat} {T R : Nat → Nat} {σ : pm_H} (h : RelB k sz T R n a e σ) : HG σ (th0 σ) n := by
  obtain ⟨⟨h1, h2, h3, h4, h5, h6, h7⟩, ⟨h8, h9⟩, -⟩ := h
  obtain ⟨hn36, -, hw70⟩ := relM_n h3 h4 h8
  refine ⟨hn36, h9, by rw [th_ne _ (by decide)]; exact hw70, fun i hi => ?_⟩
  rw [th_ne _ (by decide)]
  obtain ⟨g1, a, b, c, e, g, ⟨-, -, g3, -⟩, -, -, -, g7, -⟩ := h8.2.2.2.2.2.1 i hi
  exact ⟨g1, c, g7, g3⟩
theorem q_np_n (d : Nat) (σ : pm_H) {y : Int32} (h : y < nI 0 ∨ nI 1 < y) : xe (d + 1) 229 [.int y] σ = some (some (.int (nI 1)), σ) := by
  rw [en_X11_isNoPair, sg_X11_isNoPair_0, if_neg, if_neg]
  · rintro rfl
    exact absurd h (by decide)
  · rintro rfl
    exact absurd h (by decide)
theorem q_np_y (d : Nat) (σ : pm_H) {j : Nat} (h : j ≤ 1) : xe (d + 1) 229 [.int (nI j)] σ = some (some (.int (nI 0)), σ) := by
  rw [en_X11_isNoPair, sg_X11_isNoPair_0]
  rcases (show j = 0 ∨ j = 1 by omega) with rfl | rfl <;> rfl
theorem q_isOf (d : Nat) (σ : pm_H) {i : Nat} (hi : i < 36) (x y : Int32) : xe (d + 1) 270 [.ref 27, .int (nI i), .int x, .int y] σ = some (some (.int (b32 (decide (σ.1 28 i = x) && decide (σ.1 32 i = y)))), σ) := by
  rw [en_X6_isOf, sg_X6_isOf_0]
  simp (disch := omega) only [ck_n, nI_clamp]
  by_cases c1 : σ.1 28 i = x
  · by_cases c2 : σ.1 32 i = y <;> simp only [c1, c2, if_true, if_false, decide_true, decide_false, Bool.and_self, Bool.and_false, b32, cond_true, cond_false]
  · simp only [c1, if_false, decide_false, Bool.false_and, b32, cond_false]
theorem r_isOf (d : Nat) (σ : pm_H) {i : Nat} (hi : i < 36) (x y : Int32) : xe (d + 1) 273 [.ref 133, .int (nI i), .int x, .int y] σ = some (some (.int (b32 (decide (σ.1 142 (71 + 5 * i) = x) && decide (σ.1 142 (71 + 5 * i + 4) = y)))), σ) := by
  rw [en_X12_isOfRound, sg_X12_isOfRound_0]
  simp (disch := omega) only [pk_mul, nI_add, ck_n, nI_clamp]
  by_cases c1 : σ.1 142 (71 + 5 * i) = x
  · by_cases c2 : σ.1 142 (71 + 5 * i + 4) = y <;> simp only [c1, c2, if_true, if_false, decide_true, decide_false, Bool.and_self, Bool.and_false, b32, cond_true, cond_false]
  · simp only [c1, if_false, decide_false, Bool.false_and, b32, cond_false]
theorem r_gdl (d : Nat) (σ : pm_H) {i c : Nat} (hi : i < 36) (hc : c < 8) (h : σ.1 142 (71 + 5 * i + 2) = nI c) : xe (d + 3) 274 [.ref 133, .int (nI i)] σ = some (some (.int (b32 (gd c))), σ) := by
  rw [en_X12_isGoodLift, sg_X12_isGoodLift_0]
  simp (disch := omega) only [pk_mul, nI_add, ck_n, nI_clamp, h]
  rw [r_isGood d σ hc]
  simp only [pm_cl_some, Option.toList_some, List.cons_append, List.nil_append]
  rw [sg_X12_isGoodLift_16]
  cases gd c <;> rfl
theorem lp_goods (d : Nat) {σ σ' : pm_H} {n : Nat} (H : HG σ σ' n) (x y : Int32) : ∀ (m i : Nat) (b t : Int32), i + m = n → ∃ v, pm_run (xe (d + 3)) pg_X6_goodTries (8, [.ref 27, .int x, .int y, .int b, .int t, .int (nI i)], [], σ) = some (some (.int v), σ) ∧ pm_run (xe (d + 3)) pg_X12_goods (33, [.ref 133, .int x, .int y, .int b, .int t, .int (nI i)], [], σ') = some (some (.int v), σ')
  | 0, i, b, t, h => by
    obtain ⟨hn, h27, h70, hg⟩ := H
    refine ⟨b, ?_, ?_⟩
    · rw [sg_X6_goodTries_8, h27, if_neg (nI_nlt (by omega) (by omega))]
    · rw [sg_X12_goods_33, ck_n _ (by omega) (by omega), nI_clamp (by omega), h70, if_neg (nI_nlt (by omega) (by omega))]
  | m + 1, i, b, t, h => by
    have ih := fun b t => lp_goods d H x y m (i + 1) b t (by omega)
    obtain ⟨hn, h27, h70, hg⟩ := H
    obtain ⟨⟨g0, g1, g2, g3, g4⟩, c, hc, gc⟩ := hg i (by omega)
    rw [sg_X6_goodTries_8, h27, if_pos (nI_lt (by omega) (by omega)), q_isOf (d + 2) σ (by omega), sg_X12_goods_33, ck_n _ (by omega) (by omega), nI_clamp (by omega), h70, if_pos (nI_lt (by omega) (by omega)), r_isOf (d + 2) σ' (by omega), g0, g4]
    simp only [pm_cl_some, Option.toList_some, List.cons_append, List.nil_append]
    rw [sg_X6_goodTries_25, sg_X12_goods_53]
    cases decide (σ.1 28 i = x) && decide (σ.1 32 i = y)
    · rw [if_pos bf0, if_pos bf0, nI_add]
      exact ih b t
    · rw [if_neg bt0, if_neg bt0, ck_n _ (by omega) (by omega), nI_clamp (by omega), gc, q_isGood (d + 1) σ hc, r_gdl d σ' (by omega) hc (by rw [g2, gc])]
      simp only [pm_cl_some, Option.toList_some, List.cons_append, List.nil_append]
      rw [sg_X6_goodTries_39, sg_X12_goods_66, nI_add]
      cases gd c
      · rw [if_pos bf0, if_pos bf0]
        exact ih _ _
      · rw [if_neg bt0, if_neg bt0]
        exact ih _ _
theorem lp_kilos (d : Nat) {σ σ' : pm_H} {n : Nat} (H : HG σ σ' n) (x y : Int32) : ∀ (m i : Nat) (b : Int32), i + m = n → ∃ v, pm_run (xe (d + 3)) pg_X6_goodKilos (5, [.ref 27, .int x, .int y, .int b, .int (nI i)], [], σ) = some (some (.int v), σ) ∧ pm_run (xe (d + 3)) pg_X12_kilosOf (5, [.ref 133, .int x, .int y, .int b, .int (nI i)], [], σ') = some (some (.int v), σ')
  | 0, i, b, h => by
    obtain ⟨hn, h27, h70, hg⟩ := H
    refine ⟨b, ?_, ?_⟩
    · rw [sg_X6_goodKilos_5, h27, if_neg (nI_nlt (by omega) (by omega))]
    · rw [sg_X12_kilosOf_5, ck_n _ (by omega) (by omega), nI_clamp (by omega), h70, if_neg (nI_nlt (by omega) (by omega))]
  | m + 1, i, b, h => by
    have ih := fun b => lp_kilos d H x y m (i + 1) b (by omega)
    obtain ⟨hn, h27, h70, hg⟩ := H
    obtain ⟨⟨g0, g1, g2, g3, g4⟩, c, hc, gc⟩ := hg i (by omega)
    rw [sg_X6_goodKilos_5, h27, if_pos (nI_lt (by omega) (by omega)), q_isOf (d + 2) σ (by omega), sg_X12_kilosOf_5, ck_n _ (by omega) (by omega), nI_clamp (by omega), h70, if_pos (nI_lt (by omega) (by omega)), r_isOf (d + 2) σ' (by omega), g0, g4]
    simp only [pm_cl_some, Option.toList_some, List.cons_append, List.nil_append]
    rw [sg_X6_goodKilos_23, sg_X12_kilosOf_26]
    cases decide (σ.1 28 i = x) && decide (σ.1 32 i = y)
    · rw [if_pos bf0, if_pos bf0, nI_add]
      exact ih _
    · rw [if_neg bt0, if_neg bt0, ck_n _ (by omega) (by omega), nI_clamp (by omega), gc, q_isGood (d + 1) σ hc, r_gdl d σ' (by omega) hc (by rw [g2, gc])]
      simp only [pm_cl_some, Option.toList_some, List.cons_append, List.nil_append]
      rw [sg_X6_goodKilos_36, sg_X12_kilosOf_35, nI_add]
      simp (disch := omega) only [pk_mul, nI_add, ck_n, nI_clamp, g1]
      cases gd c
      · rw [if_pos bf0, if_pos bf0]
        exact ih _
      · rw [if_neg bt0, if_neg bt0]
        exact ih _
theorem lp_heavy (d : Nat) {σ σ' : pm_H} {n : Nat} (H : HG σ σ' n) (x y : Int32) : ∀ (m i : Nat) (b : Option Nat), i + m = n → (∀ j, b = some j → j < i) → ∃ b' : Option Nat, (∀ j, b' = some j → j < n) ∧ pm_run (xe (d + 3)) pg_X6_heaviestAt (4, [.ref 27, .int x, .int (oi b), .int (nI i)], [], σ) = some (some (.int (oi b')), σ) ∧ pm_run (xe (d + 3)) pg_X12_heaviest (39, [.ref 133, .int x, .int y, .int (oi b), .int (nI i)], [], σ') = (if oi b' = -1 then some (some (.int (-1)), σ') else pm_ck (((nI 71) + ((nI 5) * oi b')) + y) 251 (some (some (.int (σ'.1 142 (((nI 71) + ((nI 5) * oi b')) + y).toNatClampNeg)), σ')))
  | 0, i, b, h, hb => by
    obtain ⟨hn, h27, h70, hg⟩ := H
    refine ⟨b, fun j e => by have := hb j e; omega, ?_, ?_⟩
    · rw [sg_X6_heaviestAt_4, h27, if_neg (nI_nlt (by omega) (by omega))]
    · rw [sg_X12_heaviest_39, ck_n _ (by omega) (by omega), nI_clamp (show 70 < 2 ^ 31 by omega), h70, if_neg (nI_nlt (by omega) (by omega))]
  | m + 1, i, b, h, hb => by
    have ih := fun b hb => lp_heavy d H x y m (i + 1) b (by omega) hb
    obtain ⟨hn, h27, h70, hg⟩ := H
    obtain ⟨⟨g0, g1, g2, g3, g4⟩, c, hc, gc⟩ := hg i (by omega)
    have hb1 : ∀ j, b = some j → j < i + 1 := fun j e => by have := hb j e; omega
    have hbi : ∀ j, some i = some j → j < i + 1 := fun j e => by cases e; omega
    rw [sg_X6_heaviestAt_4, h27, if_pos (nI_lt (by omega) (by omega)), sg_X12_heaviest_39, ck_n _ (by omega) (by omega), nI_clamp (show 70 < 2 ^ 31 by omega), h70, if_pos (nI_lt (by omega) (by omega))]
    simp (disch := omega) only [pk_mul, nI_add, ck_n, nI_clamp, g4, gc]
    by_cases c4 : σ.1 32 i = x
    · rw [if_pos c4, if_pos c4, q_isGood (d + 1) σ hc, r_gdl d σ' (by omega) hc (by rw [g2, gc])]
      simp only [pm_cl_some, Option.toList_some, List.cons_append, List.nil_append]
      rw [sg_X6_heaviestAt_31, sg_X12_heaviest_75, nI_add]
      cases gd c
      · rw [if_pos bf0, if_pos bf0]
        exact ih b hb1
      · rw [if_neg bt0, if_neg bt0]
        match b, hb, hb1 with
        | none, _, _ =>
          rw [if_pos (show oi none = -1 from rfl), if_pos (show oi none = -1 from rfl)]
          exact ih (some i) hbi
        | some j, hb, hb1 =>
          have hj := hb j rfl
          obtain ⟨⟨-, j1, -⟩, -⟩ := hg j (by omega)
          have hne : ¬ oi (some j) = -1 := nI_nm1 (show j < 2 ^ 31 by omega)
          rw [if_neg hne, if_neg hne, show oi (some j) = nI j from rfl]
          simp (disch := omega) only [pk_mul, nI_add, ck_n, nI_clamp, g1, j1]
          by_cases c5 : σ.1 29 j < σ.1 29 i
          · rw [if_pos c5, if_pos c5]
            exact ih (some i) hbi
          · rw [if_neg c5, if_neg c5]
            exact ih (some j) hb1
    · rw [if_neg c4, if_neg c4]
      exact ih b hb1
theorem lp_idle (d : Nat) {σ σ' : pm_H} {n : Nat} (H : HG σ σ' n) (hE : ∀ i, i < n → ∃ e : Nat, e < 2 ^ 30 ∧ σ.1 31 i = nI e) (x y : Int32) : ∀ (m i : Nat) (b : Int32) (t : Option Nat) (v : Value), i + m = n → (t = none → b = -1) → (∀ j, t = some j → j < 2 ^ 30) → ∃ v', pm_run (xe (d + 3)) pg_X6_longestRest (8, [.ref 27, .int x, .int y, .int b, .int (oi t), .int (nI i)], [], σ) = some (some (.int v'), σ) ∧ pm_run (xe (d + 3)) pg_X12_idle (33, [.ref 133, .int x, .int y, .int b, .int (oi t), .int (nI i), v], [], σ') = some (some (.int v'), σ')
  | 0, i, b, t, v, h, _, _ => by
    obtain ⟨hn, h27, h70, hg⟩ := H
    refine ⟨b, ?_, ?_⟩
    · rw [sg_X6_longestRest_8, h27, if_neg (nI_nlt (by omega) (by omega))]
    · rw [sg_X12_idle_33, ck_n _ (by omega) (by omega), nI_clamp (by omega), h70, if_neg (nI_nlt (by omega) (by omega))]
  | m + 1, i, b, t, v, h, hbt, ht => by
    have ih := fun b t v hbt ht => lp_idle d H hE x y m (i + 1) b t v (by omega) hbt ht
    obtain ⟨hn, h27, h70, hg⟩ := H
    obtain ⟨⟨g0, g1, g2, g3, g4⟩, c, hc, gc⟩ := hg i (by omega)
    obtain ⟨e, he, hie⟩ := hE i (by omega)
    rw [sg_X6_longestRest_8, h27, if_pos (nI_lt (by omega) (by omega)), q_isOf (d + 2) σ (by omega), sg_X12_idle_33, ck_n _ (by omega) (by omega), nI_clamp (by omega), h70, if_pos (nI_lt (by omega) (by omega)), r_isOf (d + 2) σ' (by omega), g0, g4]
    simp only [pm_cl_some, Option.toList_some, List.cons_append, List.nil_append]
    rw [sg_X6_longestRest_25, sg_X12_idle_53]
    cases decide (σ.1 28 i = x) && decide (σ.1 32 i = y)
    · rw [if_pos bf0, if_pos bf0, nI_add]
      exact ih b t _ hbt ht
    · rw [if_neg bt0, if_neg bt0]
      simp (disch := omega) only [pk_mul, nI_add, ck_n, nI_clamp, g3, hie]
      match t, hbt, ht with
      | none, hbt, _ =>
        rw [if_pos (show oi none = -1 from rfl), if_pos (show oi none = -1 from rfl), hbt rfl]
        exact ih (-1) (some e) _ (fun e => by cases e) (fun j ej => by cases ej; exact he)
      | some j, _, ht =>
        have hj := ht j rfl
        have hne : ¬ oi (some j) = -1 := nI_nm1 (show j < 2 ^ 31 by omega)
        rw [if_neg hne, if_neg hne]
        exact ih _ (some e) _ (fun e => by cases e) (fun j ej => by cases ej; exact he)
theorem b_goods (d : Nat) {k sz n a e : Nat} {T R : Nat → Nat} {σ : pm_H} (h : RelB k sz T R n a e σ) (x y : Int32) : Both (d + 5) (d + 4) 304 305 [.int x, .int y] σ (PostB k sz T R σ) := by
  have H := HG_of h
  have hh := h
  obtain ⟨⟨h1, h2, h3, h4, h5, h6, h7⟩, -⟩ := hh
  have hz : (th0 σ).1 133 22 = nI sz := by rw [th_f _ (by decide)]; exact h2
  unfold Both
  rw [en_X11_goods, sg_X11_goods_0]
  rcases ix_cases x h3 with hx | ⟨l, hl, rfl⟩
  · refine ⟨.int (-1), σ, th0 σ, ?_, ?_, PostB_th h⟩
    · rw [q_isL_n (d + 3) σ h1 hx]
      simp only [pm_cl_some, Option.toList_some, List.cons_append, List.nil_append]
      rw [sg_X11_goods_5, if_pos n00]
    · rw [en_X12_goods, sg_X12_goods_0, show pm_wI σ 133 0 (nI 0) = th0 σ from rfl, r_isL_n (d + 2) (th0 σ) hz hx]
      simp only [pm_cl_some, Option.toList_some, List.cons_append, List.nil_append]
      rw [sg_X12_goods_10, if_pos n00]
  · rw [q_isL_y (d + 3) σ h1 h3 hl]
    simp only [pm_cl_some, Option.toList_some, List.cons_append, List.nil_append]
    rw [sg_X11_goods_5, if_neg n10]
    have rr : xe (d + 4) 305 [.ref 133, .int (nI l), .int y] σ = pm_cl (xe (d + 3) 69 [.long y.toInt64, .long (0 : Int64), .long (1 : Int64)] (th0 σ)) (fun r => pm_run (xe (d + 3)) pg_X12_goods (20, [.ref 133, .int (nI l), .int y, .null, .null, .null], r.1.toList ++ [], r.2)) := by
      rw [en_X12_goods, sg_X12_goods_0, show pm_wI σ 133 0 (nI 0) = th0 σ from rfl, r_isL_y (d + 2) (th0 σ) hz h3 hl]
      simp only [pm_cl_some, Option.toList_some, List.cons_append, List.nil_append]
      rw [sg_X12_goods_10, if_neg n10]
    rcases rng_cases y 0 1 (by omega) (by omega) with hy | ⟨j, -, hj, rfl⟩
    · refine ⟨.int (-1), σ, th0 σ, ?_, ?_, PostB_th h⟩
      · rw [q_np_n (d + 3) σ hy]
        simp only [pm_cl_some, Option.toList_some, List.cons_append, List.nil_append]
        rw [sg_X11_goods_12, if_neg n10]
      · rw [rr, r_rng_n (d + 2) _ (L := 0) (H := 1) (a := 0) (b := 1) (by decide) (by decide) hy]
        simp only [pm_cl_some, Option.toList_some, List.cons_append, List.nil_append]
        rw [sg_X12_goods_20, if_pos n00]
    · obtain ⟨v, hv1, hv2⟩ := lp_goods d H (nI l) (nI j) n 0 (nI 0) (nI 0) (by omega)
      refine ⟨.int v, σ, th0 σ, ?_, ?_, PostB_th h⟩
      · rw [q_np_y (d + 3) σ hj]
        simp only [pm_cl_some, Option.toList_some, List.cons_append, List.nil_append]
        rw [sg_X11_goods_12, if_pos n00, en_X6_goodTries, sg_X6_goodTries_0, hv1]
        simp only [pm_cl_some, Option.toList_some, List.cons_append, List.nil_append]
        rw [sg_X11_goods_24]
      · rw [rr, r_rng_y (d + 2) _ (L := 0) (H := 1) (a := 0) (b := 1) (by decide) (by decide) (by omega) (by omega) (by omega)]
        simp only [pm_cl_some, Option.toList_some, List.cons_append, List.nil_append]
        rw [sg_X12_goods_20, if_neg n10, hv2]
theorem b_kilos (d : Nat) {k sz n a e : Nat} {T R : Nat → Nat} {σ : pm_H} (h : RelB k sz T R n a e σ) (x y : Int32) : Both (d + 5) (d + 5) 308 309 [.int x, .int y] σ (PostB k sz T R σ) := by
  have H := HG_of h
  have hh := h
  obtain ⟨⟨h1, h2, h3, h4, h5, h6, h7⟩, -⟩ := hh
  have hz : (th0 σ).1 133 22 = nI sz := by rw [th_f _ (by decide)]; exact h2
  unfold Both
  rw [en_X11_kilos, sg_X11_kilos_0]
  rcases ix_cases x h3 with hx | ⟨l, hl, rfl⟩
  · refine ⟨.int (-1), σ, th0 σ, ?_, ?_, PostB_th h⟩
    · rw [q_isL_n (d + 3) σ h1 hx]
      simp only [pm_cl_some, Option.toList_some, List.cons_append, List.nil_append]
      rw [sg_X11_kilos_5, if_pos n00]
    · rw [en_X12_kilos, sg_X12_kilos_0, show pm_wI σ 133 0 (nI 0) = th0 σ from rfl, r_isL_n (d + 3) (th0 σ) hz hx]
      simp only [pm_cl_some, Option.toList_some, List.cons_append, List.nil_append]
      rw [sg_X12_kilos_10, if_pos n00]
  · rw [q_isL_y (d + 3) σ h1 h3 hl]
    simp only [pm_cl_some, Option.toList_some, List.cons_append, List.nil_append]
    rw [sg_X11_kilos_5, if_neg n10]
    have rr : xe (d + 5) 309 [.ref 133, .int (nI l), .int y] σ = pm_cl (xe (d + 4) 69 [.long y.toInt64, .long (0 : Int64), .long (1 : Int64)] (th0 σ)) (fun r => pm_run (xe (d + 4)) pg_X12_kilos (20, [.ref 133, .int (nI l), .int y], r.1.toList ++ [], r.2)) := by
      rw [en_X12_kilos, sg_X12_kilos_0, show pm_wI σ 133 0 (nI 0) = th0 σ from rfl, r_isL_y (d + 3) (th0 σ) hz h3 hl]
      simp only [pm_cl_some, Option.toList_some, List.cons_append, List.nil_append]
      rw [sg_X12_kilos_10, if_neg n10]
    rcases rng_cases y 0 1 (by omega) (by omega) with hy | ⟨j, -, hj, rfl⟩
    · refine ⟨.int (-1), σ, th0 σ, ?_, ?_, PostB_th h⟩
      · rw [q_np_n (d + 3) σ hy]
        simp only [pm_cl_some, Option.toList_some, List.cons_append, List.nil_append]
        rw [sg_X11_kilos_12, if_neg n10]
      · rw [rr, r_rng_n (d + 3) _ (L := 0) (H := 1) (a := 0) (b := 1) (by decide) (by decide) hy]
        simp only [pm_cl_some, Option.toList_some, List.cons_append, List.nil_append]
        rw [sg_X12_kilos_20, if_pos n00]
    · obtain ⟨v, hv1, hv2⟩ := lp_kilos d H (nI l) (nI j) n 0 (nI 0) (by omega)
      refine ⟨.int v, σ, th0 σ, ?_, ?_, PostB_th h⟩
      · rw [q_np_y (d + 3) σ hj]
        simp only [pm_cl_some, Option.toList_some, List.cons_append, List.nil_append]
        rw [sg_X11_kilos_12, if_pos n00, en_X6_goodKilos, sg_X6_goodKilos_0, hv1]
        simp only [pm_cl_some, Option.toList_some, List.cons_append, List.nil_append]
        rw [sg_X11_kilos_24]
      · rw [rr, r_rng_y (d + 3) _ (L := 0) (H := 1) (a := 0) (b := 1) (by decide) (by decide) (by omega) (by omega) (by omega)]
        simp only [pm_cl_some, Option.toList_some, List.cons_append, List.nil_append]
        rw [sg_X12_kilos_20, if_neg n10, en_X12_kilosOf, sg_X12_kilosOf_0, hv2]
        simp only [pm_cl_some, Option.toList_some, List.cons_append, List.nil_append]
        rw [sg_X12_kilos_29]
theorem b_idle (d : Nat) {k sz n a e : Nat} {T R : Nat → Nat} {σ : pm_H} (hk : k ≤ 100000) (h : RelB k sz T R n a e σ) (x y : Int32) : Both (d + 5) (d + 4) 313 315 [.int x, .int y] σ (PostB k sz T R σ) := by
  have H := HG_of h
  have hh := h
  obtain ⟨⟨h1, h2, h3, h4, h5, h6, h7⟩, ⟨h8, -⟩, -⟩ := hh
  have hE : ∀ i, i < n → ∃ e : Nat, e < 2 ^ 30 ∧ σ.1 31 i = nI e := fun i hi => by
    obtain ⟨g1, a, b, c, e, g, ⟨-, -, -, g4, -⟩, -, -, -, g7, g8, -⟩ := h8.2.2.2.2.2.1 i hi
    exact ⟨e, by omega, g4⟩
  have hz : (th0 σ).1 133 22 = nI sz := by rw [th_f _ (by decide)]; exact h2
  unfold Both
  rw [en_X11_idle, sg_X11_idle_0]
  rcases ix_cases x h3 with hx | ⟨l, hl, rfl⟩
  · refine ⟨.int (-1), σ, th0 σ, ?_, ?_, PostB_th h⟩
    · rw [q_isL_n (d + 3) σ h1 hx]
      simp only [pm_cl_some, Option.toList_some, List.cons_append, List.nil_append]
      rw [sg_X11_idle_5, if_pos n00]
    · rw [en_X12_idle, sg_X12_idle_0, show pm_wI σ 133 0 (nI 0) = th0 σ from rfl, r_isL_n (d + 2) (th0 σ) hz hx]
      simp only [pm_cl_some, Option.toList_some, List.cons_append, List.nil_append]
      rw [sg_X12_idle_10, if_pos n00]
  · rw [q_isL_y (d + 3) σ h1 h3 hl]
    simp only [pm_cl_some, Option.toList_some, List.cons_append, List.nil_append]
    rw [sg_X11_idle_5, if_neg n10]
    have rr : xe (d + 4) 315 [.ref 133, .int (nI l), .int y] σ = pm_cl (xe (d + 3) 69 [.long y.toInt64, .long (0 : Int64), .long (1 : Int64)] (th0 σ)) (fun r => pm_run (xe (d + 3)) pg_X12_idle (20, [.ref 133, .int (nI l), .int y, .null, .null, .null, .null], r.1.toList ++ [], r.2)) := by
      rw [en_X12_idle, sg_X12_idle_0, show pm_wI σ 133 0 (nI 0) = th0 σ from rfl, r_isL_y (d + 2) (th0 σ) hz h3 hl]
      simp only [pm_cl_some, Option.toList_some, List.cons_append, List.nil_append]
      rw [sg_X12_idle_10, if_neg n10]
    rcases rng_cases y 0 1 (by omega) (by omega) with hy | ⟨j, -, hj, rfl⟩
    · refine ⟨.int (-1), σ, th0 σ, ?_, ?_, PostB_th h⟩
      · rw [q_np_n (d + 3) σ hy]
        simp only [pm_cl_some, Option.toList_some, List.cons_append, List.nil_append]
        rw [sg_X11_idle_12, if_neg n10]
      · rw [rr, r_rng_n (d + 2) _ (L := 0) (H := 1) (a := 0) (b := 1) (by decide) (by decide) hy]
        simp only [pm_cl_some, Option.toList_some, List.cons_append, List.nil_append]
        rw [sg_X12_idle_20, if_pos n00]
    · obtain ⟨v, hv1, hv2⟩ := lp_idle d H hE (nI l) (nI j) n 0 (-1) none .null (by omega) (fun _ => rfl) (fun j e => by cases e)
      refine ⟨.int v, σ, th0 σ, ?_, ?_, PostB_th h⟩
      · rw [q_np_y (d + 3) σ hj]
        simp only [pm_cl_some, Option.toList_some, List.cons_append, List.nil_append]
        rw [sg_X11_idle_12, if_pos n00, en_X6_longestRest, sg_X6_longestRest_0, show (-1 : Int32) = oi none from rfl]
        rw [show oi none = (-1 : Int32) from rfl] at hv1 ⊢
        rw [hv1]
        simp only [pm_cl_some, Option.toList_some, List.cons_append, List.nil_append]
        rw [sg_X11_idle_24]
      · rw [rr, r_rng_y (d + 2) _ (L := 0) (H := 1) (a := 0) (b := 1) (by decide) (by decide) (by omega) (by omega) (by omega)]
        simp only [pm_cl_some, Option.toList_some, List.cons_append, List.nil_append]
        rw [show oi none = (-1 : Int32) from rfl] at hv2
        rw [sg_X12_idle_20, if_neg n10, hv2]
theorem b_heaviest (d : Nat) {k sz n a e : Nat} {T R : Nat → Nat} {σ : pm_H} (h : RelB k sz T R n a e σ) (x y : Int32) : Both (d + 5) (d + 4) 310 312 [.int x, .int y] σ (PostB k sz T R σ) := by
  have H := HG_of h
  have hh := h
  obtain ⟨⟨h1, h2, h3, h4, h5, h6, h7⟩, ⟨h8, -⟩, -⟩ := hh
  have hz : (th0 σ).1 133 22 = nI sz := by rw [th_f _ (by decide)]; exact h2
  unfold Both
  rw [en_X11_heaviest, sg_X11_heaviest_0]
  by_cases c0 : sz = 0
  · have hn0 : n = 0 := by
      by_cases c : n = 0
      · exact c
      · obtain ⟨g1, a, b, c, e, g, -, g2, -⟩ := h8.2.2.2.2.2.1 0 (by omega)
        omega
    have rr : xe (d + 4) 312 [.ref 133, .int x, .int y] σ = some (some (.int (-1)), th0 σ) := by
      rw [en_X12_heaviest, sg_X12_heaviest_0, show pm_wI σ 133 0 (nI 0) = th0 σ from rfl, hz, c0, if_pos n00]
    refine ⟨.int (-1), σ, th0 σ, ?_, rr, PostB_th h⟩
    rcases rng_cases x 0 1 (by omega) (by omega) with hx | ⟨i, -, hi, rfl⟩
    · rw [q_np_n (d + 3) σ hx]
      simp only [pm_cl_some, Option.toList_some, List.cons_append, List.nil_append]
      rw [sg_X11_heaviest_4, if_neg n10]
    · rw [q_np_y (d + 3) σ hi]
      simp only [pm_cl_some, Option.toList_some, List.cons_append, List.nil_append]
      rw [sg_X11_heaviest_4, if_pos n00]
      rcases rng_cases y 0 1 (by omega) (by omega) with hy | ⟨j, -, hj, rfl⟩
      · rw [q_np_n (d + 3) σ hy]
        simp only [pm_cl_some, Option.toList_some, List.cons_append, List.nil_append]
        rw [sg_X11_heaviest_11, if_neg n10]
      · rw [q_np_y (d + 3) σ hj]
        simp only [pm_cl_some, Option.toList_some, List.cons_append, List.nil_append]
        rw [sg_X11_heaviest_11, if_pos n00, en_X6_heaviestAt, sg_X6_heaviestAt_0, sg_X6_heaviestAt_4, H.2.1, if_neg (nI_nlt (by omega) (by omega))]
        simp only [pm_cl_some, Option.toList_some, List.cons_append, List.nil_append]
        rw [sg_X11_heaviest_24, if_pos rfl]
  · have rr : xe (d + 4) 312 [.ref 133, .int x, .int y] σ = pm_cl (xe (d + 3) 69 [.long x.toInt64, .long (0 : Int64), .long (1 : Int64)] (th0 σ)) (fun r => pm_run (xe (d + 3)) pg_X12_heaviest (19, [.ref 133, .int x, .int y, .null, .null], r.1.toList ++ [], r.2)) := by
      rw [en_X12_heaviest, sg_X12_heaviest_0, show pm_wI σ 133 0 (nI 0) = th0 σ from rfl, hz, if_neg (nI_ne0 (by omega) (by omega))]
    rcases rng_cases x 0 1 (by omega) (by omega) with hx | ⟨i, -, hi, rfl⟩
    · refine ⟨.int (-1), σ, th0 σ, ?_, ?_, PostB_th h⟩
      · rw [q_np_n (d + 3) σ hx]
        simp only [pm_cl_some, Option.toList_some, List.cons_append, List.nil_append]
        rw [sg_X11_heaviest_4, if_neg n10]
      · rw [rr, r_rng_n (d + 2) _ (L := 0) (H := 1) (a := 0) (b := 1) (by decide) (by decide) hx]
        simp only [pm_cl_some, Option.toList_some, List.cons_append, List.nil_append]
        rw [sg_X12_heaviest_19, if_pos n00]
    · rw [q_np_y (d + 3) σ hi]
      simp only [pm_cl_some, Option.toList_some, List.cons_append, List.nil_append]
      rw [sg_X11_heaviest_4, if_pos n00]
      rw [r_rng_y (d + 2) _ (L := 0) (H := 1) (a := 0) (b := 1) (by decide) (by decide) (by omega) (by omega) (by omega)] at rr
      simp only [pm_cl_some, Option.toList_some, List.cons_append, List.nil_append] at rr
      rw [sg_X12_heaviest_19, if_neg n10] at rr
      rcases rng_cases y 0 1 (by omega) (by omega) with hy | ⟨j, -, hj, rfl⟩
      · refine ⟨.int (-1), σ, th0 σ, ?_, ?_, PostB_th h⟩
        · rw [q_np_n (d + 3) σ hy]
          simp only [pm_cl_some, Option.toList_some, List.cons_append, List.nil_append]
          rw [sg_X11_heaviest_11, if_neg n10]
        · rw [rr, r_rng_n (d + 2) _ (L := 0) (H := 1) (a := 0) (b := 1) (by decide) (by decide) hy]
          simp only [pm_cl_some, Option.toList_some, List.cons_append, List.nil_append]
          rw [sg_X12_heaviest_29, if_pos n00]
      · rw [q_np_y (d + 3) σ hj]
        simp only [pm_cl_some, Option.toList_some, List.cons_append, List.nil_append]
        rw [r_rng_y (d + 2) _ (L := 0) (H := 1) (a := 0) (b := 1) (by decide) (by decide) (by omega) (by omega) (by omega)] at rr
        simp only [pm_cl_some, Option.toList_some, List.cons_append, List.nil_append] at rr
        rw [sg_X12_heaviest_29, if_neg n10] at rr
        obtain ⟨b', hb', hv1, hv2⟩ := lp_heavy d H (nI i) (nI j) n 0 none (by omega) (fun j e => by cases e)
        rw [show oi none = (-1 : Int32) from rfl] at hv1 hv2
        rw [hv2] at rr
        rw [sg_X11_heaviest_11, if_pos n00, en_X6_heaviestAt, sg_X6_heaviestAt_0, hv1]
        simp only [pm_cl_some, Option.toList_some, List.cons_append, List.nil_append]
        rw [sg_X11_heaviest_24]
        cases b' with
        | none =>
          rw [if_pos (show oi none = -1 from rfl)] at rr ⊢
          exact ⟨_, _, _, rfl, rr, PostB_th h⟩
        | some m =>
          have hm := hb' m rfl
          have hne : ¬ oi (some m) = -1 := nI_nm1 (show m < 2 ^ 31 by have := H.1; omega)
          have hm36 := H.1
          obtain ⟨⟨g0, g1, -⟩, -⟩ := H.2.2.2 m hm
          rw [if_neg hne, show oi (some m) = nI m from rfl] at rr
          simp (disch := omega) only [pk_mul, nI_add, ck_n, nI_clamp] at rr
          rw [if_neg hne, show oi (some m) = nI m from rfl]
          simp (disch := omega) only [ck_n, nI_clamp]
          rcases (show j = 0 ∨ j = 1 by omega) with rfl | rfl
          · rw [if_pos n00]
            refine ⟨_, _, _, rfl, ?_, PostB_th h⟩
            rw [rr, Nat.add_zero, g0]
          · rw [if_neg n10]
            refine ⟨_, _, _, rfl, ?_, PostB_th h⟩
            rw [rr, g1]

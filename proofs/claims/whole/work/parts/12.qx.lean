/-! ===== other ===== -/
theorem b_sc (d : Nat) {k sz n a e : Nat} {T R : Nat → Nat} {σ : pm_H} (h : RelB k sz T R n a e σ) {j l : Nat} (hj : j ≤ 3) (hl : l < sz) : ∃ v, xe (d + 5) 292 [.ref 0, .int (nI j), .int (nI l)] σ = some (some (.int v), σ) ∧ xe (d + 5) 296 [.ref 133, .int (nI l), .int (nI j)] (th0 σ) = some (some (.int v), th0 σ) := by
  have H := HG_of h
  have hh := h
  obtain ⟨⟨h1, h2, h3, h4, h5, h6, h7⟩, ⟨h8, -⟩, -⟩ := hh
  have hT := h5 (by omega)
  rw [en_X11_scoreBy, sg_X11_scoreBy_0, en_X12_byLaw, sg_X12_byLaw_0]
  rcases (show j = 0 ∨ j = 1 ∨ j = 2 ∨ j = 3 by omega) with rfl | rfl | rfl | rfl
  · rw [sw_in 0 (by decide) (by decide), sw_in 0 (by decide) (by decide)]
    show ∃ v, pm_run _ _ (28, _) = _ ∧ pm_run _ _ (28, _) = _
    rw [sg_X11_scoreBy_28, q_best (d + 3) σ st_23 (by omega) (by omega), sg_X12_byLaw_28]
    simp (disch := omega) only [pm_cl_some, Option.toList_some, List.cons_append, List.nil_append, pk_mul, nI_add, ck_n, nI_clamp, th_ne, Nat.reduceAdd, Nat.one_mul]
    rw [sg_X11_scoreBy_37]
    refine ⟨_, rfl, ?_⟩
    rw [show 11 * l + 2 + 1 = 11 * l + 3 from rfl, (h8.2.2.1.2 l hl).1.2.2.2.1]
  · rw [sw_in 1 (by decide) (by decide), sw_in 1 (by decide) (by decide)]
    show ∃ v, pm_run _ _ (38, _) = _ ∧ pm_run _ _ (42, _) = _
    have hb := hT.1 l hl 2 (by omega)
    obtain ⟨⟨-, -, t2, t2', -⟩, -⟩ := hT.2.2.2 l hl
    have hm : (if nI 1 < nI (T (l * 10 + 2)) then nI (T (l * 10 + 2)) else nI 1) = nI (T (l * 10 + 2)) := by
      by_cases c : T (l * 10 + 2) = 1
      · rw [c, if_neg (by decide)]
      · rw [if_pos (nI_lt (by omega) (by omega))]
    rw [sg_X11_scoreBy_38, q_sum (d + 2) σ st_23 (by omega), sg_X12_byLaw_42, r_sumOf (d + 3) (th0 σ) rw_now (by omega)]
    simp only [pm_cl_some, Option.toList_some, List.cons_append, List.nil_append, Nat.reduceAdd]
    rw [sg_X11_scoreBy_46, q_hof (d + 3) σ (by omega) (by omega), sg_X12_byLaw_52]
    simp (disch := omega) only [pm_cl_some, Option.toList_some, List.cons_append, List.nil_append, pk_mul, nI_add, ck_n, nI_clamp, th_ne]
    rw [sg_X11_scoreBy_59, hb, hm, if_neg (nI_ne0 (by omega) (by omega)), h6 l hl 2 (by omega), hb, if_neg (nI_ne0 (by omega) (by omega)), sum_eq h8.2.2.1 hl, Int32.mul_comm]
    exact ⟨_, rfl, rfl⟩
  · rw [sw_in 2 (by decide) (by decide), sw_in 2 (by decide) (by decide)]
    show ∃ v, pm_run _ _ (64, _) = _ ∧ pm_run _ _ (66, _) = _
    have h6r : rowsN (lgs σ 28) l n ≤ 6 := by
      obtain ⟨⟨F, f1, f2, f3⟩, -, -, -, -, -, hC⟩ := h8
      have hL := f2.2.2.2.2 l hl
      unfold okL at hL
      have := hC l hl
      rw [f1 (35 + l) (by omega) (by omega)] at this
      have hr36 : ∀ m, rowsN (lgs σ 28) l m ≤ m := fun m => by
        induction m with
        | zero => exact Nat.le_refl _
        | succ m ih =>
          show _ + (if _ then 1 else 0) ≤ _
          split <;> omega
      have h36 := hr36 n
      have hn36 := H.1
      have := (nI_eq (by omega) (by omega)).mp this
      omega
    obtain ⟨b0, p0, p1, p2⟩ := lp_good6 (d + 1) (y := 0) H h6r n 0 0 0 (by omega) (by omega) (by omega) rfl
    obtain ⟨b1, p3, p4, p5⟩ := lp_good6 (d + 1) (y := 1) H h6r n 0 0 0 (by omega) (by omega) (by omega) rfl
    have hg := r_goodMany_l d (x := l) H n 0 (by omega)
    rw [show gall (lgs σ 28) l 0 = 0 from rfl] at hg
    obtain ⟨hga, -⟩ := gall_eq (lg := lgs σ 28) l n (fun i hi => by
      obtain ⟨g1, a, b, c, e, g, ⟨-, -, -, -, g5⟩, -, -, -, -, -, g8⟩ := h8.2.2.2.2.2.1 i hi
      rcases (show g = 0 ∨ g = 1 by omega) with rfl | rfl
      · exact Or.inl g5
      · exact Or.inr g5)
    rw [sg_X11_scoreBy_64, en_X6_goodTries, sg_X6_goodTries_0, p2, sg_X12_byLaw_66, en_X12_goodMany, sg_X12_goodMany_0, hg]
    simp only [pm_cl_some, Option.toList_some, List.cons_append, List.nil_append]
    rw [sg_X11_scoreBy_73, q_bit6 (d + 3) σ p0]
    simp only [pm_cl_some, Option.toList_some, List.cons_append, List.nil_append]
    rw [sg_X11_scoreBy_76, en_X6_goodTries, sg_X6_goodTries_0, p5]
    simp only [pm_cl_some, Option.toList_some, List.cons_append, List.nil_append]
    rw [sg_X11_scoreBy_85, q_bit6 (d + 3) σ p3]
    simp only [pm_cl_some, Option.toList_some, List.cons_append, List.nil_append]
    rw [sg_X11_scoreBy_88, sg_X12_byLaw_71, nI_add, p1, p4, hga]
    exact ⟨_, rfl, rfl⟩
  · rw [sw_no (b := 2) (Or.inr (by decide)) rfl (by omega), sw_no (b := 2) (Or.inr (by decide)) rfl (by omega)]
    obtain ⟨v0, p0, p1⟩ := lp_kilos d H (nI l) (nI 0) n 0 (nI 0) (by omega)
    obtain ⟨v1, p2, p3⟩ := lp_kilos d H (nI l) (nI 1) n 0 (nI 0) (by omega)
    rw [sg_X11_scoreBy_90, en_X6_goodKilos, sg_X6_goodKilos_0, p0, sg_X12_byLaw_72, en_X12_kilosOf, sg_X12_kilosOf_0, p1]
    simp only [pm_cl_some, Option.toList_some, List.cons_append, List.nil_append]
    rw [sg_X11_scoreBy_99, en_X6_goodKilos, sg_X6_goodKilos_0, p2, sg_X12_byLaw_78, en_X12_kilosOf, sg_X12_kilosOf_0, p3]
    simp only [pm_cl_some, Option.toList_some, List.cons_append, List.nil_append]
    rw [sg_X11_scoreBy_108, sg_X12_byLaw_84]
    exact ⟨_, rfl, rfl⟩
theorem lp_other (d : Nat) {k sz n a e : Nat} {T R : Nat → Nat} {σ : pm_H} (h : RelB k sz T R n a e σ) {j : Nat} (hj : j ≤ 3) (y : Int32) : ∀ (m i b : Nat), i + m = sz → b < sz → ∃ v, pm_run (xe (d + 5)) pg_X11_other (33, [.ref 0, .int (nI j), .int y, .int (nI b), .int (nI i)], [], σ) = some (some (.int v), σ) ∧ pm_run (xe (d + 5)) pg_X12_other (41, [.ref 133, .int (nI j), .int y, .int (nI b), .int (nI i)], [], th0 σ) = some (some (.int v), th0 σ)
  | 0, i, b, hi, hb => by
    have h3 := h.1.2.2.1
    obtain ⟨v, v1, v2⟩ := b_sc d h hj hb
    rw [sg_X11_other_33, h.1.1, if_neg (nI_nlt (by omega) (by omega)), sg_X12_other_41, th_f _ (by decide), h.1.2.1, if_neg (nI_nlt (by omega) (by omega)), v1, v2]
    simp only [pm_cl_some, Option.toList_some, List.cons_append, List.nil_append]
    rw [sg_X11_other_88, sg_X12_other_93]
    by_cases c : y = 0
    · rw [if_pos c, if_pos c]
      exact ⟨_, rfl, rfl⟩
    · rw [if_neg c, if_neg c]
      exact ⟨_, rfl, rfl⟩
  | m + 1, i, b, hi, hb => by
    have h3 := h.1.2.2.1
    have ih := fun b hb => lp_other d h hj y m (i + 1) b (by omega) hb
    obtain ⟨v, v1, v2⟩ := b_sc d h hj hb
    obtain ⟨w, w1, w2⟩ := b_sc d h hj (show i < sz by omega)
    rw [sg_X11_other_33, h.1.1, if_pos (nI_lt (by omega) (by omega)), sg_X12_other_41, th_f _ (by decide), h.1.2.1, if_pos (nI_lt (by omega) (by omega)), w1, w2]
    simp only [pm_cl_some, Option.toList_some, List.cons_append, List.nil_append]
    rw [sg_X11_other_52, v1, sg_X12_other_57, v2]
    simp only [pm_cl_some, Option.toList_some, List.cons_append, List.nil_append]
    rw [sg_X11_other_58, sg_X12_other_63, nI_add]
    by_cases c : v < w
    · rw [if_pos c, if_pos c]
      exact ih i (by omega)
    · rw [if_neg c, if_neg c]
      exact ih b hb
theorem b_other (d : Nat) {k sz n a e : Nat} {T R : Nat → Nat} {σ : pm_H} (h : RelB k sz T R n a e σ) (x y : Int32) : Both (d + 6) (d + 6) 291 295 [.int x, .int y] σ (PostB k sz T R σ) := by
  have hh := h
  obtain ⟨⟨h1, h2, h3, h4, h5, h6, h7⟩, -⟩ := hh
  have hz : (th0 σ).1 133 22 = nI sz := by rw [th_f _ (by decide)]; exact h2
  unfold Both
  rw [en_X11_other, sg_X11_other_0, h1]
  by_cases c0 : sz = 0
  · refine ⟨.int (-1), σ, th0 σ, by rw [c0, if_pos n00], ?_, PostB_th h⟩
    rw [en_X12_other, sg_X12_other_0, show pm_wI σ 133 0 (nI 0) = th0 σ from rfl, hz, c0, if_pos n00]
  · have rr : xe (d + 6) 295 [.ref 133, .int x, .int y] σ = pm_cl (xe (d + 5) 69 [.long x.toInt64, .long (0 : Int64), .long (3 : Int64)] (th0 σ)) (fun r => pm_run (xe (d + 5)) pg_X12_other (21, [.ref 133, .int x, .int y, .null, .null], r.1.toList ++ [], r.2)) := by
      rw [en_X12_other, sg_X12_other_0, show pm_wI σ 133 0 (nI 0) = th0 σ from rfl, hz, if_neg (nI_ne0 (by omega) (by omega))]
    rw [if_neg (nI_ne0 (by omega) (by omega))]
    rcases rng_cases x 0 3 (by omega) (by omega) with hx | ⟨i, -, hi, rfl⟩
    · refine ⟨.int (-1), σ, th0 σ, ?_, ?_, PostB_th h⟩
      · rcases hx with hx | hx
        · rw [if_pos (show x < 0 from hx)]
        · by_cases c : x < 0
          · rw [if_pos c]
          · rw [if_neg c, if_pos hx]
      · rw [rr, r_rng_n (d + 4) _ (L := 0) (H := 3) (a := 0) (b := 3) (by decide) (by decide) hx]
        simp only [pm_cl_some, Option.toList_some, List.cons_append, List.nil_append]
        rw [sg_X12_other_21, if_pos n00]
    · rw [if_neg (nI_pos (by omega)), if_neg (nI_nlt (by omega) (by omega))]
      rw [r_rng_y (d + 4) _ (L := 0) (H := 3) (a := 0) (b := 3) (by decide) (by decide) (by omega) (by omega) (by omega)] at rr
      simp only [pm_cl_some, Option.toList_some, List.cons_append, List.nil_append] at rr
      rw [sg_X12_other_21, if_neg n10] at rr
      rcases rng_cases y 0 1 (by omega) (by omega) with hy | ⟨j, -, hj, rfl⟩
      · refine ⟨.int (-1), σ, th0 σ, ?_, ?_, PostB_th h⟩
        · rw [q_np_n (d + 4) σ hy]
          simp only [pm_cl_some, Option.toList_some, List.cons_append, List.nil_append]
          rw [sg_X11_other_23, if_neg n10]
        · rw [rr, r_rng_n (d + 4) _ (L := 0) (H := 1) (a := 0) (b := 1) (by decide) (by decide) hy]
          simp only [pm_cl_some, Option.toList_some, List.cons_append, List.nil_append]
          rw [sg_X12_other_31, if_pos n00]
      · rw [q_np_y (d + 4) σ hj]
        simp only [pm_cl_some, Option.toList_some, List.cons_append, List.nil_append]
        rw [r_rng_y (d + 4) _ (L := 0) (H := 1) (a := 0) (b := 1) (by decide) (by decide) (by omega) (by omega) (by omega)] at rr
        simp only [pm_cl_some, Option.toList_some, List.cons_append, List.nil_append] at rr
        rw [sg_X12_other_31, if_neg n10] at rr
        obtain ⟨v, v1, v2⟩ := lp_other d h hi (nI j) (sz - 1) 1 0 (by omega) (by omega)
        rw [sg_X11_other_23, if_pos n00, v1]
        exact ⟨_, _, _, rfl, by rw [rr, v2], PostB_th h⟩
/-! ===== lose ===== -/
def mnB (sz : Nat) (f : Nat → Int32) (T : Nat → Nat) (l : Nat) : Nat → Nat
  | 0 => T (l * 10 + 2) + 1
  | i + 1 => if i ≠ l ∧ s_sum f i = s_sum f l then min (T (i * 10 + 2)) (mnB sz f T l i) else mnB sz f T l i
theorem q_lose_l (d : Nat) {k sz n a e : Nat} {T R : Nat → Nat} {σ : pm_H} (h : RelB k sz T R n a e σ) {l : Nat} (hl : l < sz) : ∀ (m i : Nat), i + m = sz → pm_run (xe (d + 2)) pg_X11_lose (38, [.ref 0, .int (nI l), .int (nI (T (l * 10 + 2))), .int (nI (mnB sz (σ.1 24) T l i)), .int (nI i)], [], σ) = pm_run (xe (d + 2)) pg_X11_lose (38, [.ref 0, .int (nI l), .int (nI (T (l * 10 + 2))), .int (nI (mnB sz (σ.1 24) T l sz)), .int (nI sz)], [], σ)
  | 0, i, hi => by
    rw [show i = sz by omega]
  | m + 1, i, hi => by
    have ih := q_lose_l d h hl m (i + 1) (by omega)
    obtain ⟨⟨h1, h2, h3, h4, h5, h6, h7⟩, ⟨h8, -⟩, -⟩ := h
    have hT := h5 (by omega)
    have ti := hT.2.2.2 i (by omega)
    have hmn : mnB sz (σ.1 24) T l i ≤ 100 := by
      have key : ∀ i, mnB sz (σ.1 24) T l i ≤ T (l * 10 + 2) + 1 := fun i => by
        induction i with
        | zero => exact Nat.le_refl _
        | succ i ih =>
          unfold mnB
          split
          · exact Nat.le_trans (Nat.min_le_right _ _) ih
          · exact ih
      have := key i
      have := hT.2.2.2 l hl
      omega
    have e28 : mnB sz (σ.1 24) T l (i + 1) = if i ≠ l ∧ s_sum (σ.1 24) i = s_sum (σ.1 24) l then min (T (i * 10 + 2)) (mnB sz (σ.1 24) T l i) else mnB sz (σ.1 24) T l i := rfl
    rw [e28] at ih
    rw [sg_X11_lose_38, h1, if_pos (nI_lt (by omega) (by omega)), nI_add]
    by_cases c : i = l
    · rw [if_pos (by rw [c])]
      rw [if_neg (fun e => e.1 c)] at ih
      exact ih
    · rw [if_neg (fun e => c ((nI_eq (by omega) (by omega)).mp e)), q_sum d σ st_23 (by omega)]
      simp only [pm_cl_some, Option.toList_some, List.cons_append, List.nil_append, Nat.reduceAdd]
      rw [sg_X11_lose_65, q_sum d σ st_23 (by omega)]
      simp only [pm_cl_some, Option.toList_some, List.cons_append, List.nil_append, Nat.reduceAdd]
      rw [sg_X11_lose_73]
      by_cases c2 : s_sum (σ.1 24) i = s_sum (σ.1 24) l
      · rw [if_pos c2, q_hof (d + 1) σ (by omega) (by omega), hT.1 i (by omega) 2 (by omega)]
        simp only [pm_cl_some, Option.toList_some, List.cons_append, List.nil_append]
        rw [sg_X11_lose_87, nI_add]
        rw [if_pos ⟨c, c2⟩] at ih
        by_cases c3 : T (i * 10 + 2) < mnB sz (σ.1 24) T l i
        · rw [Nat.min_eq_left (by omega)] at ih
          rw [if_pos (nI_lt c3 (by omega))]
          exact ih
        · rw [Nat.min_eq_right (by omega)] at ih
          rw [if_neg (nI_nlt (by omega) (by omega))]
          exact ih
      · rw [if_neg c2, nI_add]
        rw [if_neg (fun e => c2 e.2)] at ih
        exact ih
theorem r_lose_l (d : Nat) {k sz n a e : Nat} {T R : Nat → Nat} {σ : pm_H} (h : RelB k sz T R n a e σ) {l v : Nat} (hl : l < sz) (hv : v < T (l * 10 + 2)) : ∀ (m i : Nat), i + m = sz → pm_run (xe (d + 1)) pg_X12_lose (54, [.ref 133, .int (nI l), .int (nI v), .int (b32 (decide (T (l * 10 + 2) < mnB sz (σ.1 24) T l i + v))), .int (nI i)], [], th0 σ) = (if T (l * 10 + 2) < mnB sz (σ.1 24) T l sz + v then some (some (.int (nI v)), th0 σ) else pm_run (xe (d + 1)) pg_X12_lose (28, [.ref 133, .int (nI l), .int (nI (v + 1)), .int (nI 0), .int (nI sz)], [], th0 σ))
  | 0, i, hi => by
    have h3 := h.1.2.2.1
    rw [show i = sz by omega, sg_X12_lose_54, th_f _ (by decide), h.1.2.1, if_neg (nI_nlt (by omega) (by omega)), nI_add]
    by_cases c : T (l * 10 + 2) < mnB sz (σ.1 24) T l sz + v
    · rw [if_pos c, decide_eq_true c, if_neg bt0]
    · rw [if_neg c, decide_eq_false c, if_pos bf0]
      rfl
  | m + 1, i, hi => by
    have ih := r_lose_l d h hl hv m (i + 1) (by omega)
    obtain ⟨⟨h1, h2, h3, h4, h5, h6, h7⟩, ⟨h8, -⟩, -⟩ := h
    have hT := h5 (by omega)
    have ti := hT.2.2.2 i (by omega)
    have tl := hT.2.2.2 l hl
    have e28 : mnB sz (σ.1 24) T l (i + 1) = if i ≠ l ∧ s_sum (σ.1 24) i = s_sum (σ.1 24) l then min (T (i * 10 + 2)) (mnB sz (σ.1 24) T l i) else mnB sz (σ.1 24) T l i := rfl
    rw [sg_X12_lose_54, th_f _ (by decide), h2, if_pos (nI_lt (by omega) (by omega)), nI_add]
    by_cases c : T (l * 10 + 2) < mnB sz (σ.1 24) T l i + v
    · rw [decide_eq_true c, if_neg bt0]
      by_cases c1 : i = l
      · rw [if_pos (by rw [c1])]
        rw [e28, if_neg (fun e => e.1 c1), decide_eq_true c] at ih
        exact ih
      · rw [if_neg (fun e => c1 ((nI_eq (by omega) (by omega)).mp e)), r_sumOf d (th0 σ) rw_now (by omega), th_ne _ (by decide), sum_eq h8.2.2.1 (show i < sz by omega)]
        simp only [pm_cl_some, Option.toList_some, List.cons_append, List.nil_append]
        rw [sg_X12_lose_82, r_sumOf d (th0 σ) rw_now (by omega), th_ne _ (by decide), sum_eq h8.2.2.1 hl]
        simp only [pm_cl_some, Option.toList_some, List.cons_append, List.nil_append]
        rw [sg_X12_lose_90, nI_add]
        by_cases c2 : s_sum (σ.1 24) i = s_sum (σ.1 24) l
        · rw [if_pos c2]
          simp (disch := omega) only [pk_mul, nI_add, ck_n, nI_clamp, th_ne]
          rw [h6 l hl 2 (by omega), h6 i (by omega) 2 (by omega), hT.1 l hl 2 (by omega), hT.1 i (by omega) 2 (by omega), pk_sub (by omega)]
          rw [e28, if_pos ⟨c1, c2⟩] at ih
          by_cases c3 : T (l * 10 + 2) - v < T (i * 10 + 2)
          · rw [if_pos (nI_lt c3 (by omega))]
            rw [decide_eq_true (by omega)] at ih
            exact ih
          · rw [if_neg (nI_nlt (by omega) (by omega))]
            rw [decide_eq_false (by omega)] at ih
            exact ih
        · rw [if_neg c2]
          rw [e28, if_neg (fun e => c2 e.2), decide_eq_true c] at ih
          exact ih
    · rw [decide_eq_false c, if_pos bf0]
      rw [decide_eq_false (by rw [e28]; split <;> omega)] at ih
      exact ih
theorem r_lose (d : Nat) {k sz n a e : Nat} {T R : Nat → Nat} {σ : pm_H} (h : RelB k sz T R n a e σ) {l : Nat} (hl : l < sz) : ∀ (m v : Nat) (v1 v2 : Value), v + m = 21 → v + mnB sz (σ.1 24) T l sz ≤ T (l * 10 + 2) + 1 ∨ v = 0 → pm_run (xe (d + 1)) pg_X12_lose (28, [.ref 133, .int (nI l), .int (nI v), v1, v2], [], th0 σ) = some (some (.int (if T (l * 10 + 2) + 1 - mnB sz (σ.1 24) T l sz ≤ 20 ∧ T (l * 10 + 2) + 1 - mnB sz (σ.1 24) T l sz < T (l * 10 + 2) then nI (T (l * 10 + 2) + 1 - mnB sz (σ.1 24) T l sz) else -1)), th0 σ)
  | 0, v, v1, v2, hm, hv => by
    rw [sg_X12_lose_28, if_pos (nI_lt (by omega) (by omega)), if_neg (by omega)]
  | m + 1, v, v1, v2, hm, hv => by
    have h3 := h.1.2.2.1
    have hT := h.1.2.2.2.2.1 (by omega)
    have tl := hT.2.2.2 l hl
    rw [sg_X12_lose_28, if_neg (nI_nlt (by omega) (by omega))]
    simp (disch := omega) only [pk_mul, nI_add, ck_n, nI_clamp, th_ne]
    rw [h.1.2.2.2.2.2.1 l hl 2 (by omega), hT.1 l hl 2 (by omega)]
    by_cases c : v < T (l * 10 + 2)
    · rw [if_pos (nI_lt c (by omega))]
      have hl0 := r_lose_l d h hl c sz 0 (by omega)
      rw [show mnB sz (σ.1 24) T l 0 = T (l * 10 + 2) + 1 from rfl, decide_eq_true (by omega)] at hl0
      refine Eq.trans hl0 ?_
      by_cases c2 : T (l * 10 + 2) < mnB sz (σ.1 24) T l sz + v
      · rw [if_pos c2, if_pos (by omega), show T (l * 10 + 2) + 1 - mnB sz (σ.1 24) T l sz = v by omega]
      · rw [if_neg c2]
        exact r_lose d h hl m (v + 1) _ _ (by omega) (by omega)
    · rw [if_neg (nI_nlt (by omega) (by omega)), if_neg (by omega)]
theorem b_lose (d : Nat) {k sz n a e : Nat} {T R : Nat → Nat} {σ : pm_H} (h : RelB k sz T R n a e σ) (x : Int32) : Both (d + 3) (d + 2) 275 276 [.int x] σ (PostB k sz T R σ) := by
  have hh := h
  obtain ⟨⟨h1, h2, h3, h4, h5, h6, h7⟩, ⟨h8, -⟩, -⟩ := hh
  have hz : (th0 σ).1 133 22 = nI sz := by rw [th_f _ (by decide)]; exact h2
  unfold Both
  rw [en_X11_lose, sg_X11_lose_0]
  rcases ix_cases x h3 with hx | ⟨l, hl, rfl⟩
  · refine ⟨.int (-1), σ, th0 σ, ?_, ?_, PostB_th h⟩
    · rw [q_isL_n (d + 1) σ h1 hx]
      simp only [pm_cl_some, Option.toList_some, List.cons_append, List.nil_append]
      rw [sg_X11_lose_5, if_pos n00]
    · rw [en_X12_lose, sg_X12_lose_0, show pm_wI σ 133 0 (nI 0) = th0 σ from rfl, r_isL_n d (th0 σ) hz hx]
      simp only [pm_cl_some, Option.toList_some, List.cons_append, List.nil_append]
      rw [sg_X12_lose_10, if_pos n00]
  · have hT := h5 (by omega)
    have tl := hT.2.2.2 l hl
    rw [q_isL_y (d + 1) σ h1 h3 hl]
    simp only [pm_cl_some, Option.toList_some, List.cons_append, List.nil_append]
    rw [sg_X11_lose_5, if_neg n10, q_sum d σ st_23 (by omega)]
    simp only [pm_cl_some, Option.toList_some, List.cons_append, List.nil_append, Nat.reduceAdd]
    rw [sg_X11_lose_16]
    have rr : xe (d + 2) 276 [.ref 133, .int (nI l)] σ = pm_run (xe (d + 1)) pg_X12_lose (21, [.ref 133, .int (nI l), .null, .null, .null], [.int (s_sum (σ.1 24) l)], th0 σ) := by
      rw [en_X12_lose, sg_X12_lose_0, show pm_wI σ 133 0 (nI 0) = th0 σ from rfl, r_isL_y d (th0 σ) hz h3 hl]
      simp only [pm_cl_some, Option.toList_some, List.cons_append, List.nil_append]
      rw [sg_X12_lose_10, if_neg n10, r_sumOf d (th0 σ) rw_now (by omega), th_ne _ (by decide), sum_eq h8.2.2.1 hl]
      simp only [pm_cl_some, Option.toList_some, List.cons_append, List.nil_append]
    by_cases c : s_sum (σ.1 24) l = 0
    · refine ⟨.int (-1), σ, th0 σ, ?_, ?_, PostB_th h⟩
      · rw [if_pos c]
      · rw [rr, sg_X12_lose_21, if_pos c]
    · rw [if_neg c, q_hof (d + 1) σ (by omega) (by omega), hT.1 l hl 2 (by omega)]
      simp only [pm_cl_some, Option.toList_some, List.cons_append, List.nil_append]
      have hq := q_lose_l d h hl sz 0 (by omega)
      rw [show mnB sz (σ.1 24) T l 0 = T (l * 10 + 2) + 1 from rfl] at hq
      rw [sg_X11_lose_30, nI_add, hq, sg_X11_lose_38, h1, if_neg (nI_nlt (by omega) (by omega))]
      have hmn : mnB sz (σ.1 24) T l sz ≤ T (l * 10 + 2) + 1 := by
        have key : ∀ i, mnB sz (σ.1 24) T l i ≤ T (l * 10 + 2) + 1 := fun i => by
          induction i with
          | zero => exact Nat.le_refl _
          | succ i ih =>
            unfold mnB
            split
            · exact Nat.le_trans (Nat.min_le_right _ _) ih
            · exact ih
        exact key sz
      have hp : (if nI 0 < nI (T (l * 10 + 2)) - nI (mnB sz (σ.1 24) T l sz) + nI 1 then nI (T (l * 10 + 2)) - nI (mnB sz (σ.1 24) T l sz) + nI 1 else nI 0) = nI (T (l * 10 + 2) + 1 - mnB sz (σ.1 24) T l sz) := by
        by_cases c2 : mnB sz (σ.1 24) T l sz ≤ T (l * 10 + 2)
        · rw [pk_sub c2, nI_add, if_pos (nI_lt (by omega) (by omega)), show T (l * 10 + 2) - mnB sz (σ.1 24) T l sz + 1 = T (l * 10 + 2) + 1 - mnB sz (σ.1 24) T l sz by omega]
        · have e1 : mnB sz (σ.1 24) T l sz = T (l * 10 + 2) + 1 := by omega
          have e2 : nI (T (l * 10 + 2)) - nI (mnB sz (σ.1 24) T l sz) + nI 1 = nI 0 := by
            rw [e1, ← nI_add (T (l * 10 + 2)) 1]
            have : ∀ x y : Int32, x - (x + y) + y = 0 := fun x y => by
              rw [Int32.sub_eq_add_neg, Int32.neg_add, Int32.sub_eq_add_neg, ← Int32.add_assoc, ← Int32.sub_eq_add_neg x x, Int32.sub_self, Int32.zero_add, Int32.add_left_neg]
            rw [this]
            rfl
          rw [e2, if_neg (by decide), show T (l * 10 + 2) + 1 - mnB sz (σ.1 24) T l sz = 0 by omega]
      rw [hp]
      have hr := r_lose d h hl 21 0 .null .null (by omega) (Or.inr rfl)
      generalize hP : T (l * 10 + 2) + 1 - mnB sz (σ.1 24) T l sz = P at hr ⊢
      have hP2 : P ≤ T (l * 10 + 2) + 1 := by omega
      have fin : xe (d + 2) 276 [.ref 133, .int (nI l)] σ = some (some (.int (if P ≤ 20 ∧ P < T (l * 10 + 2) then nI P else -1)), th0 σ) := by
        rw [rr, sg_X12_lose_21, if_neg c, hr]
      by_cases c3 : 20 < P
      · rw [if_pos (nI_lt c3 (by omega))]
        rw [if_neg (by omega)] at fin
        exact ⟨_, _, _, rfl, fin, PostB_th h⟩
      · rw [if_neg (nI_nlt (by omega) (by omega))]
        by_cases c4 : P < T (l * 10 + 2)
        · rw [pk_sub (by omega), if_neg (nI_nlt (by omega) (by omega))]
          rw [if_pos ⟨by omega, c4⟩] at fin
          exact ⟨_, _, _, rfl, fin, PostB_th h⟩
        · have hlt : nI (T (l * 10 + 2)) - nI P < nI 1 := by
            rw [Int32.lt_iff_toInt_lt, pk_sub_toInt (by omega) (by omega)]
            show _ < (1 : Int)
            omega
          rw [if_pos hlt]
          rw [if_neg (by omega)] at fin
          exact ⟨_, _, _, rfl, fin, PostB_th h⟩

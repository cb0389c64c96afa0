/-! ===== lifter, where it answers ===== -/
def lifV (sz : Nat) (t r f : Nat → Int32) (l : Nat) : Nat → Int32
  | 0 => t (l * 10 + 2)
  | 1 => t (l * 10 + 3)
  | 2 => t (l * 10 + 4)
  | 3 => t (l * 10 + 5)
  | 4 => f (29 + l)
  | 5 => t (l * 10 + 9)
  | 6 => if s_in r f l = true then f (5 + l) else nI 0
  | 7 => f (11 + l)
  | 8 => f (53 + l)
  | 9 => f (59 + l)
  | 10 => s_sum f l
  | 11 => s_place sz t r f l
  | 12 => f (35 + l)
  | 13 => f 2 - f (41 + l)
  | 14 => s_now t f l
  | 15 => f (23 + l)
  | _ => f (17 + l)
theorem b32_t : ¬ b32 true = 0 := by decide
theorem b32_f : b32 false = 0 := by decide
theorem q_lif (d : Nat) {sz l j : Nat} {σ : pm_H} (hz : σ.1 3 2 = nI sz) (hs : sz ≤ 6) (hl : l < sz) (hj : j ≤ 16) : ∃ g, xe (d + 4) 116 [.ref 0, .int (nI l), .int (nI j)] σ = some (some (.int (lifV sz (σ.1 4) (σ.1 5) (σ.1 24) l j)), pm_wC σ 91 g) := by
  have hl6 : l < 6 := by omega
  rw [en_X11_lifter, sg_X11_lifter_0, q_isL_y (d + 2) σ hz hs hl]
  simp only [pm_cl_some, Option.toList_some, Option.toList_none, List.cons_append, List.nil_append]
  rw [sg_X11_lifter_5, if_neg n10, sw_in j (by show j < 17; omega) (by decide)]
  rcases (show j = 0 ∨ j = 1 ∨ j = 2 ∨ j = 3 ∨ j = 4 ∨ j = 5 ∨ j = 6 ∨ j = 7 ∨ j = 8 ∨ j = 9 ∨ j = 10 ∨ j = 11 ∨ j = 12 ∨ j = 13 ∨ j = 14 ∨ j = 15 ∨ j = 16 by omega) with rfl | rfl | rfl | rfl | rfl | rfl | rfl | rfl | rfl | rfl | rfl | rfl | rfl | rfl | rfl | rfl | rfl
  · refine ⟨σ.1 91, ?_⟩
    rw [wC_self]
    show pm_run (xe (d + 3)) pg_X11_lifter (100, [.ref 0, .int (nI l), .int (nI 0)], [], σ) = _
    rw [sg_X11_lifter_100, q_hof (d + 2) _ (show 2 < 10 by omega) hl6]
    simp only [pm_cl_some, Option.toList_some, Option.toList_none, List.cons_append, List.nil_append]
    rw [sg_X11_lifter_109]
    try rfl
  · refine ⟨σ.1 91, ?_⟩
    rw [wC_self]
    show pm_run (xe (d + 3)) pg_X11_lifter (110, [.ref 0, .int (nI l), .int (nI 1)], [], σ) = _
    rw [sg_X11_lifter_110, q_hof (d + 2) _ (show 3 < 10 by omega) hl6]
    simp only [pm_cl_some, Option.toList_some, Option.toList_none, List.cons_append, List.nil_append]
    rw [sg_X11_lifter_119]
    try rfl
  · refine ⟨σ.1 91, ?_⟩
    rw [wC_self]
    show pm_run (xe (d + 3)) pg_X11_lifter (120, [.ref 0, .int (nI l), .int (nI 2)], [], σ) = _
    rw [sg_X11_lifter_120, q_hof (d + 2) _ (show 4 < 10 by omega) hl6]
    simp only [pm_cl_some, Option.toList_some, Option.toList_none, List.cons_append, List.nil_append]
    rw [sg_X11_lifter_129]
    try rfl
  · refine ⟨σ.1 91, ?_⟩
    rw [wC_self]
    show pm_run (xe (d + 3)) pg_X11_lifter (130, [.ref 0, .int (nI l), .int (nI 3)], [], σ) = _
    rw [sg_X11_lifter_130, q_hof (d + 2) _ (show 5 < 10 by omega) hl6]
    simp only [pm_cl_some, Option.toList_some, Option.toList_none, List.cons_append, List.nil_append]
    rw [sg_X11_lifter_139]
    try rfl
  · refine ⟨σ.1 91, ?_⟩
    rw [wC_self]
    show pm_run (xe (d + 3)) pg_X11_lifter (140, [.ref 0, .int (nI l), .int (nI 4)], [], σ) = _
    rw [sg_X11_lifter_140, q_of (d + 2) _ st_23 (show 29 + l < 71 by omega)]
    simp only [pm_cl_some, Option.toList_some, Option.toList_none, List.cons_append, List.nil_append]
    rw [sg_X11_lifter_150]
    try rfl
  · refine ⟨σ.1 91, ?_⟩
    rw [wC_self]
    show pm_run (xe (d + 3)) pg_X11_lifter (151, [.ref 0, .int (nI l), .int (nI 5)], [], σ) = _
    rw [sg_X11_lifter_151, q_hof (d + 2) _ (show 9 < 10 by omega) hl6]
    simp only [pm_cl_some, Option.toList_some, Option.toList_none, List.cons_append, List.nil_append]
    rw [sg_X11_lifter_161]
    try rfl
  · refine ⟨σ.1 91, ?_⟩
    rw [wC_self]
    show pm_run (xe (d + 3)) pg_X11_lifter (162, [.ref 0, .int (nI l), .int (nI 6)], [], σ) = some (some (.int (if s_in (σ.1 5) (σ.1 24) l = true then σ.1 24 (5 + l) else nI 0)), σ)
    rw [sg_X11_lifter_162, q_isIn (d + 1) _ st_23 hl6]
    simp only [pm_cl_some, Option.toList_some, Option.toList_none, List.cons_append, List.nil_append]
    rw [sg_X11_lifter_170]
    cases s_in (σ.1 5) (σ.1 24) l with
    | false => rw [if_pos b32_f, if_neg (by decide)]
    | true =>
      rw [if_neg b32_t, if_pos rfl, q_of (d + 2) _ st_23 (show 5 + l < 71 by omega)]
      simp only [pm_cl_some, Option.toList_some, Option.toList_none, List.cons_append, List.nil_append]
      rw [sg_X11_lifter_182]
  · refine ⟨σ.1 91, ?_⟩
    rw [wC_self]
    show pm_run (xe (d + 3)) pg_X11_lifter (187, [.ref 0, .int (nI l), .int (nI 7)], [], σ) = _
    rw [sg_X11_lifter_187, q_of (d + 2) _ st_23 (show 11 + l < 71 by omega)]
    simp only [pm_cl_some, Option.toList_some, Option.toList_none, List.cons_append, List.nil_append]
    rw [sg_X11_lifter_197]
    try rfl
  · refine ⟨σ.1 91, ?_⟩
    rw [wC_self]
    show pm_run (xe (d + 3)) pg_X11_lifter (198, [.ref 0, .int (nI l), .int (nI 8)], [], σ) = _
    rw [sg_X11_lifter_198, q_best (d + 2) _ st_23 (show 0 < 2 by omega) hl6]
    simp only [pm_cl_some, Option.toList_some, Option.toList_none, List.cons_append, List.nil_append]
    rw [sg_X11_lifter_207]
    try rfl
  · refine ⟨σ.1 91, ?_⟩
    rw [wC_self]
    show pm_run (xe (d + 3)) pg_X11_lifter (208, [.ref 0, .int (nI l), .int (nI 9)], [], σ) = _
    rw [sg_X11_lifter_208, q_best (d + 2) _ st_23 (show 1 < 2 by omega) hl6]
    simp only [pm_cl_some, Option.toList_some, Option.toList_none, List.cons_append, List.nil_append]
    rw [sg_X11_lifter_217]
    try rfl
  · refine ⟨σ.1 91, ?_⟩
    rw [wC_self]
    show pm_run (xe (d + 3)) pg_X11_lifter (218, [.ref 0, .int (nI l), .int (nI 10)], [], σ) = _
    rw [sg_X11_lifter_218, q_sum (d + 1) _ st_23 hl6]
    simp only [pm_cl_some, Option.toList_some, Option.toList_none, List.cons_append, List.nil_append]
    rw [sg_X11_lifter_226]
    try rfl
  · refine ⟨σ.1 91, ?_⟩
    rw [wC_self]
    show pm_run (xe (d + 3)) pg_X11_lifter (227, [.ref 0, .int (nI l), .int (nI 11)], [], σ) = _
    rw [sg_X11_lifter_227, q_place d _ st_23 hz hs hl6]
    simp only [pm_cl_some, Option.toList_some, Option.toList_none, List.cons_append, List.nil_append]
    rw [sg_X11_lifter_235]
    try rfl
  · refine ⟨σ.1 91, ?_⟩
    rw [wC_self]
    show pm_run (xe (d + 3)) pg_X11_lifter (236, [.ref 0, .int (nI l), .int (nI 12)], [], σ) = _
    rw [sg_X11_lifter_236, q_of (d + 2) _ st_23 (show 35 + l < 71 by omega)]
    simp only [pm_cl_some, Option.toList_some, Option.toList_none, List.cons_append, List.nil_append]
    rw [sg_X11_lifter_246]
    try rfl
  · refine ⟨σ.1 91, ?_⟩
    rw [wC_self]
    show pm_run (xe (d + 3)) pg_X11_lifter (247, [.ref 0, .int (nI l), .int (nI 13)], [], σ) = _
    rw [sg_X11_lifter_247, q_waited (d + 2) _ st_23 hl6]
    simp only [pm_cl_some, Option.toList_some, Option.toList_none, List.cons_append, List.nil_append]
    rw [sg_X11_lifter_255]
    try rfl
  · refine ⟨g_take (σ.1 4) (σ.1 24) (σ.1 91) l, ?_⟩
    show pm_run (xe (d + 3)) pg_X11_lifter (256, [.ref 0, .int (nI l), .int (nI 14)], [], σ) = _
    rw [sg_X11_lifter_256, q_nowOf d _ hl6]
    simp only [pm_cl_some, Option.toList_some, Option.toList_none, List.cons_append, List.nil_append]
    rw [sg_X11_lifter_261]
    try rfl
  · refine ⟨σ.1 91, ?_⟩
    rw [wC_self]
    show pm_run (xe (d + 3)) pg_X11_lifter (262, [.ref 0, .int (nI l), .int (nI 15)], [], σ) = _
    rw [sg_X11_lifter_262, q_of (d + 2) _ st_23 (show 23 + l < 71 by omega)]
    simp only [pm_cl_some, Option.toList_some, Option.toList_none, List.cons_append, List.nil_append]
    rw [sg_X11_lifter_272]
    try rfl
  · refine ⟨σ.1 91, ?_⟩
    rw [wC_self]
    show pm_run (xe (d + 3)) pg_X11_lifter (273, [.ref 0, .int (nI l), .int (nI 16)], [], σ) = _
    rw [sg_X11_lifter_273, q_of (d + 2) _ st_23 (show 17 + l < 71 by omega)]
    simp only [pm_cl_some, Option.toList_some, Option.toList_none, List.cons_append, List.nil_append]
    rw [sg_X11_lifter_283]
    try rfl
theorem th00 (σ : pm_H) : ¬ (0 : Int32) < (th0 σ).1 133 0 := by
  unfold th0
  rw [wI_wC, wC_at, up_at]
  decide
theorem r_lif (d : Nat) {k sz l j n : Nat} {T R : Nat → Nat} {t r f : Nat → Int32} {lg : Nat → Nat → Int32} {σ : pm_H} (hz : σ.1 133 22 = nI sz) (hs : sz ≤ 6) (hl : l < sz) (hj : j ≤ 16) (hT : okT sz t r T R) (htt : ∀ l, l < sz → ∀ j, j < 10 → σ.1 138 (10 * l + j) = t (l * 10 + j)) (hrr : ∀ j, j < 4 → σ.1 140 j = r j) (hM : relM k sz r (R 1) f lg (σ.1 142) n) : xe (d + 4) 131 [.ref 133, .int (nI l), .int (nI j)] σ = some (some (.int (lifV sz t r f l j)), th0 σ) := by
  have hl6 : l < 6 := by omega
  have hz' : (th0 σ).1 133 22 = nI sz := by rw [th_f _ (by decide)]; exact hz
  have e138 : (th0 σ).1 138 = σ.1 138 := th_ne _ (by decide)
  have e140 : (th0 σ).1 140 = σ.1 140 := th_ne _ (by decide)
  have e142 : (th0 σ).1 142 = σ.1 142 := th_ne _ (by decide)
  have hmon := relM_in (t := t) (T := T) (hrr 1 (by omega)) hM hl
  have hpl := relM_place (T := T) (R := R) hs htt hrr hM hl
  have hok := relM_okP hs hT htt hM
  have hsum := sum_eq hM.2.2.1 hl
  have hnow := now_eq (t := t) (t' := σ.1 138) hM.2.2.1 hl htt
  obtain ⟨⟨w66, w67, w68, w69, w70⟩, hW⟩ := hM.2.2.1
  obtain ⟨⟨a0, a1, a2, a3, a4⟩, a5, a6, a7, a8, a9⟩ := hW l hl
  rw [en_X12_lifter, sg_X12_lifter_0, r_isL_y (d + 2) σ hz hs hl]
  simp only [pm_cl_some, Option.toList_some, Option.toList_none, List.cons_append, List.nil_append]
  rw [sg_X12_lifter_6, if_neg n10, r_rng_y (d + 2) _ (L := 0) (H := 16) (a := 0) (b := 16) (by decide) (by decide) (by omega) hj (by omega)]
  simp only [pm_cl_some, Option.toList_some, Option.toList_none, List.cons_append, List.nil_append]
  rw [sg_X12_lifter_18, if_neg n10, show pm_wI σ 133 0 (nI 0) = th0 σ from rfl, if_neg (th00 σ), pk_mul]
  rcases (show j = 0 ∨ j = 1 ∨ j = 2 ∨ j = 3 ∨ j = 4 ∨ j = 5 ∨ j = 6 ∨ j = 7 ∨ j = 8 ∨ j = 9 ∨ j = 10 ∨ j = 11 ∨ j = 12 ∨ j = 13 ∨ j = 14 ∨ j = 15 ∨ j = 16 by omega) with rfl | rfl | rfl | rfl | rfl | rfl | rfl | rfl | rfl | rfl | rfl | rfl | rfl | rfl | rfl | rfl | rfl
  · rw [sw_in 0 (by decide) (by decide)]
    show pm_run (xe (d + 3)) pg_X12_lifter (124, [.ref 133, .int (nI l), .int (nI 0), .int (nI (11 * l))], [], th0 σ) = _
    rw [sg_X12_lifter_124]
    simp (disch := omega) only [pk_mul, nI_add, pk_sub, ck_n, nI_clamp, e138, e142]
    rw [show 10 * l + 2 + 0 = 10 * l + 2 by omega, htt l hl 2 (by omega)]
    try rfl
  · rw [sw_in 1 (by decide) (by decide)]
    show pm_run (xe (d + 3)) pg_X12_lifter (124, [.ref 133, .int (nI l), .int (nI 1), .int (nI (11 * l))], [], th0 σ) = _
    rw [sg_X12_lifter_124]
    simp (disch := omega) only [pk_mul, nI_add, pk_sub, ck_n, nI_clamp, e138, e142]
    rw [show 10 * l + 2 + 1 = 10 * l + 3 by omega, htt l hl 3 (by omega)]
    try rfl
  · rw [sw_in 2 (by decide) (by decide)]
    show pm_run (xe (d + 3)) pg_X12_lifter (124, [.ref 133, .int (nI l), .int (nI 2), .int (nI (11 * l))], [], th0 σ) = _
    rw [sg_X12_lifter_124]
    simp (disch := omega) only [pk_mul, nI_add, pk_sub, ck_n, nI_clamp, e138, e142]
    rw [show 10 * l + 2 + 2 = 10 * l + 4 by omega, htt l hl 4 (by omega)]
    try rfl
  · rw [sw_in 3 (by decide) (by decide)]
    show pm_run (xe (d + 3)) pg_X12_lifter (124, [.ref 133, .int (nI l), .int (nI 3), .int (nI (11 * l))], [], th0 σ) = _
    rw [sg_X12_lifter_124]
    simp (disch := omega) only [pk_mul, nI_add, pk_sub, ck_n, nI_clamp, e138, e142]
    rw [show 10 * l + 2 + 3 = 10 * l + 5 by omega, htt l hl 5 (by omega)]
    try rfl
  · rw [sw_in 4 (by decide) (by decide)]
    show pm_run (xe (d + 3)) pg_X12_lifter (138, [.ref 133, .int (nI l), .int (nI 4), .int (nI (11 * l))], [], th0 σ) = _
    rw [sg_X12_lifter_138]
    simp (disch := omega) only [pk_mul, nI_add, pk_sub, ck_n, nI_clamp, e138, e142]
    rw [a7]
    try rfl
  · rw [sw_in 5 (by decide) (by decide)]
    show pm_run (xe (d + 3)) pg_X12_lifter (148, [.ref 133, .int (nI l), .int (nI 5), .int (nI (11 * l))], [], th0 σ) = _
    rw [sg_X12_lifter_148]
    simp (disch := omega) only [pk_mul, nI_add, pk_sub, ck_n, nI_clamp, e138, e142]
    rw [htt l hl 9 (by omega)]
    try rfl
  · rw [sw_in 6 (by decide) (by decide)]
    show pm_run (xe (d + 3)) pg_X12_lifter (161, [.ref 133, .int (nI l), .int (nI 6), .int (nI (11 * l))], [], th0 σ) = _
    rw [sg_X12_lifter_161, r_isOn (d + 2) _ rw_now hl6, e140, e142, hmon]
    simp only [pm_cl_some, Option.toList_some, Option.toList_none, List.cons_append, List.nil_append]
    rw [sg_X12_lifter_170]
    show _ = some (some (Value.int (if s_in r f l = true then f (5 + l) else nI 0)), th0 σ)
    cases s_in r f l with
    | false => rw [if_pos b32_f, if_neg (by decide)]
    | true =>
      rw [if_neg b32_t, if_pos rfl]
      simp (disch := omega) only [pk_mul, nI_add, ck_n, nI_clamp, e142]
      rw [a0]
  · rw [sw_in 7 (by decide) (by decide)]
    show pm_run (xe (d + 3)) pg_X12_lifter (186, [.ref 133, .int (nI l), .int (nI 7), .int (nI (11 * l))], [], th0 σ) = _
    rw [sg_X12_lifter_186]
    simp (disch := omega) only [pk_mul, nI_add, pk_sub, ck_n, nI_clamp, e138, e142]
    rw [a1]
    try rfl
  · rw [sw_in 8 (by decide) (by decide)]
    show pm_run (xe (d + 3)) pg_X12_lifter (195, [.ref 133, .int (nI l), .int (nI 8), .int (nI (11 * l))], [], th0 σ) = _
    rw [sg_X12_lifter_195, nI_add, nI_add, pk_sub (by omega), show 11 * l + 2 + 8 - 8 = 11 * l + 2 by omega]
    simp (disch := omega) only [ck_n, nI_clamp, e142]
    rw [a2]
    try rfl
  · rw [sw_in 9 (by decide) (by decide)]
    show pm_run (xe (d + 3)) pg_X12_lifter (195, [.ref 133, .int (nI l), .int (nI 9), .int (nI (11 * l))], [], th0 σ) = _
    rw [sg_X12_lifter_195, nI_add, nI_add, pk_sub (by omega), show 11 * l + 2 + 9 - 8 = 11 * l + 3 by omega]
    simp (disch := omega) only [ck_n, nI_clamp, e142]
    rw [a3]
    try rfl
  · rw [sw_in 10 (by decide) (by decide)]
    show pm_run (xe (d + 3)) pg_X12_lifter (209, [.ref 133, .int (nI l), .int (nI 10), .int (nI (11 * l))], [], th0 σ) = _
    rw [sg_X12_lifter_209, r_sumOf (d + 2) _ rw_now hl6, e142, hsum]
    simp only [pm_cl_some, Option.toList_some, Option.toList_none, List.cons_append, List.nil_append]
    rw [sg_X12_lifter_217]
    try rfl
  · rw [sw_in 11 (by decide) (by decide)]
    show pm_run (xe (d + 3)) pg_X12_lifter (218, [.ref 133, .int (nI l), .int (nI 11), .int (nI (11 * l))], [], th0 σ) = _
    rw [sg_X12_lifter_218, r_placeOf d _ rw_now hz' hs hl (by rw [e138, e142]; exact hok), e138, e140, e142, hpl]
    simp only [pm_cl_some, Option.toList_some, Option.toList_none, List.cons_append, List.nil_append]
    rw [sg_X12_lifter_227]
    try rfl
  · rw [sw_in 12 (by decide) (by decide)]
    show pm_run (xe (d + 3)) pg_X12_lifter (228, [.ref 133, .int (nI l), .int (nI 12), .int (nI (11 * l))], [], th0 σ) = _
    rw [sg_X12_lifter_228]
    simp (disch := omega) only [pk_mul, nI_add, pk_sub, ck_n, nI_clamp, e138, e142]
    rw [a9]
    try rfl
  · rw [sw_in 13 (by decide) (by decide)]
    show pm_run (xe (d + 3)) pg_X12_lifter (238, [.ref 133, .int (nI l), .int (nI 13), .int (nI (11 * l))], [], th0 σ) = _
    rw [sg_X12_lifter_238, r_waitedOf (d + 2) _ rw_now hl6, e142, w68, a8]
    simp only [pm_cl_some, Option.toList_some, Option.toList_none, List.cons_append, List.nil_append]
    rw [sg_X12_lifter_247]
    try rfl
  · rw [sw_in 14 (by decide) (by decide)]
    show pm_run (xe (d + 3)) pg_X12_lifter (248, [.ref 133, .int (nI l), .int (nI 14), .int (nI (11 * l))], [], th0 σ) = _
    rw [sg_X12_lifter_248, r_nowOf (d + 1) _ rw_now hl6, e138, e142, hnow]
    simp only [pm_cl_some, Option.toList_some, Option.toList_none, List.cons_append, List.nil_append]
    rw [sg_X12_lifter_257]
    try rfl
  · rw [sw_in 15 (by decide) (by decide)]
    show pm_run (xe (d + 3)) pg_X12_lifter (258, [.ref 133, .int (nI l), .int (nI 15), .int (nI (11 * l))], [], th0 σ) = _
    rw [sg_X12_lifter_258]
    simp (disch := omega) only [pk_mul, nI_add, pk_sub, ck_n, nI_clamp, e138, e142]
    rw [a5]
    try rfl
  · rw [sw_out _ _ (Or.inr (by decide))]
    rw [sg_X12_lifter_267]
    simp (disch := omega) only [pk_mul, nI_add, ck_n, nI_clamp, e142]
    rw [a4]
    try rfl
theorem b_lif_y (d : Nat) {k sz n a e nl l j : Nat} {T R : Nat → Nat} {V : Nat → LV → Int32} {σ : pm_H} (h : RelB k sz T R n a e σ) (w : LW nl V σ) (hl : l < sz) (hj : j ≤ 16) : Both (d + 4) (d + 4) 116 131 [.int (nI l), .int (nI j)] σ (fun σ' => PostX k σ' ∧ σ'.1 133 0 = nI 0) := by
  have hh := h
  obtain ⟨⟨h1, h2, h3, h4, h5, h6, h7⟩, ⟨h8, h9⟩, -⟩ := hh
  obtain ⟨g, hg⟩ := q_lif d (j := j) h1 h3 hl hj
  have sX : sameX σ (pm_wC σ 91 g) := sameX_w (sameX_rfl σ) _ ⟨rfl, rfl⟩ (by decide)
  have hm := r_lif d (σ := pm_wC σ 91 g) (j := j) (t := σ.1 4) (r := σ.1 5) (f := σ.1 24) (lg := lgs σ 28) (k := k) (n := n) (by rw [wC_ne _ _ (by decide)]; exact h2) h3 hl hj (h5 (by omega)) (by rw [wC_ne _ _ (by decide)]; exact h6) (by rw [wC_ne _ _ (by decide)]; exact h7) (by rw [wC_ne _ _ (by decide)]; exact h8)
  obtain ⟨hB, hW'⟩ := sameX_R (sameX_th sX) h w
  refine ⟨_, _, _, hg, hm, ⟨sz, T, R, nl, V, PostW_Q hB hW' (sameQ_rfl _) hW'.2.2.2.1 hW'.2.2.2.2.1⟩, ?_⟩
  unfold th0
  rw [wI_wC, wC_at, up_at]
/-- no such lifter, or no such what -/
def lifN (sz : Nat) (x y : Int32) : Prop := (x < 0 ∨ ¬ x < nI sz) ∨ (∃ l, l < sz ∧ x = nI l) ∧ (y < nI 0 ∨ nI 16 < y)
theorem lif_cases (x y : Int32) {sz : Nat} (hs : sz ≤ 6) : lifN sz x y ∨ ∃ l j, l < sz ∧ j ≤ 16 ∧ x = nI l ∧ y = nI j := by
  rcases ix_cases x hs with hx | ⟨l, hl, rfl⟩
  · exact Or.inl (Or.inl hx)
  · rcases rng_cases y 0 16 (by omega) (by omega) with hy | ⟨j, -, hj, rfl⟩
    · exact Or.inl (Or.inr ⟨⟨l, hl, rfl⟩, hy⟩)
    · exact Or.inr ⟨l, j, hl, hj, rfl, rfl⟩
def th1 (σ : pm_H) : pm_H := pm_wI σ 133 0 (nI 1)
theorem r_lif_n (d : Nat) {sz : Nat} {x y : Int32} {σ : pm_H} (hz : σ.1 133 22 = nI sz) (hs : sz ≤ 6) (h : lifN sz x y) : xe (d + 4) 131 [.ref 133, .int x, .int y] σ = some (some (.int (nI 0)), th1 σ) := by
  have t1 : (0 : Int32) < (th1 σ).1 133 0 := by
    unfold th1
    rw [wI_wC, wC_at, up_at]
    decide
  rcases h with hx | ⟨⟨l, hl, rfl⟩, hy⟩
  · rw [en_X12_lifter, sg_X12_lifter_0, r_isL_n (d + 2) σ hz hx]
    simp only [pm_cl_some, Option.toList_some, Option.toList_none, List.cons_append, List.nil_append]
    rw [sg_X12_lifter_6, if_pos n00, show pm_wI σ 133 0 (nI 1) = th1 σ from rfl, if_pos t1]
  · rw [en_X12_lifter, sg_X12_lifter_0, r_isL_y (d + 2) σ hz hs hl]
    simp only [pm_cl_some, Option.toList_some, Option.toList_none, List.cons_append, List.nil_append]
    rw [sg_X12_lifter_6, if_neg n10, r_rng_n (d + 2) _ (L := 0) (H := 16) (a := 0) (b := 16) (by decide) (by decide) hy]
    simp only [pm_cl_some, Option.toList_some, Option.toList_none, List.cons_append, List.nil_append]
    rw [sg_X12_lifter_18, if_pos n00, show pm_wI σ 133 0 (nI 1) = th1 σ from rfl, if_pos t1]
theorem th1_X (σ : pm_H) : sameX σ (th1 σ) := ⟨sameB_m σ _ (by decide), sameL_m σ _ (by decide), sameO_m σ _ _⟩
theorem PostX_th1 {k sz n a e nl : Nat} {T R : Nat → Nat} {V : Nat → LV → Int32} {σ : pm_H} (h : RelB k sz T R n a e σ) (w : LW nl V σ) : PostX k (th1 σ) := by
  obtain ⟨hB, hW'⟩ := sameX_R (th1_X σ) h w
  exact ⟨sz, T, R, nl, V, PostW_Q hB hW' (sameQ_rfl _) hW'.2.2.2.1 hW'.2.2.2.2.1⟩
theorem r_thrown (d : Nat) (σ : pm_H) : xe (d + 1) 141 [.ref 133] σ = some (some (.int (σ.1 133 0)), σ) := by
  rw [en_X12_thrown, sg_X12_thrown_0]

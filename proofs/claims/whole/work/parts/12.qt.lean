/-! ===== undo, image, back; next, left, rule, errs, sheet ===== -/
theorem sw_in {k : Nat → Option pm_R} {dflt : Nat} {ts : List Nat} (j : Nat) (hj : j < ts.length) (hl : ts.length < 2 ^ 31) : pm_swk (nI j) k dflt 0 ts = k (ts.getD j dflt) := by
  have key : ∀ (ts : List Nat) (i : Nat), i ≤ j → j < i + ts.length → pm_swk (nI j) k dflt (i : Int) ts = k (ts.getD (j - i) dflt) := by
    intro ts
    induction ts with
    | nil => intro i h1 h2; simp only [List.length_nil] at h2; omega
    | cons t ts ih =>
      intro i h1 h2
      simp only [List.length_cons] at h2
      unfold pm_swk
      rw [nI_toInt (by omega)]
      by_cases c : j = i
      · subst c
        rw [if_pos rfl, Nat.sub_self]
        rfl
      · rw [if_neg (by omega)]
        have := ih (i + 1) (by omega) (by omega)
        rw [show ((i : Int) + 1) = ((i + 1 : Nat) : Int) by omega, this, show j - i = (j - (i + 1)) + 1 by omega]
        rfl
  exact key ts 0 (by omega) (by omega)
theorem sw_out {x : Int32} {k : Nat → Option pm_R} {dflt : Nat} : ∀ (ts : List Nat) (i : Int), (x.toInt < i ∨ i + ts.length ≤ x.toInt) → pm_swk x k dflt i ts = k dflt
  | [], _, _ => rfl
  | t :: ts, i, h => by
    simp only [List.length_cons] at h
    unfold pm_swk
    rw [if_neg (by omega)]
    exact sw_out ts (i + 1) (by omega)
theorem sw_no {x : Int32} {k : Nat → Option pm_R} {dflt b : Nat} {ts : List Nat} (h : x < nI 0 ∨ nI b < x) (hb : ts.length = b + 1) (hb2 : b < 2 ^ 31) : pm_swk x k dflt 0 ts = k dflt := by
  refine sw_out ts 0 ?_
  rcases h with h | h
  · rw [Int32.lt_iff_toInt_lt] at h
    exact Or.inl h
  · rw [Int32.lt_iff_toInt_lt, nI_toInt hb2] at h
    rw [hb]
    exact Or.inr (by omega)
theorem b_next (d : Nat) {k sz n a e : Nat} {T R : Nat → Nat} {σ : pm_H} (h : RelB k sz T R n a e σ) : Both (d + 4) (d + 3) 148 151 [] σ (PostB k sz T R σ) := by
  have hh := h
  obtain ⟨⟨h1, h2, h3, h4, h5, h6, h7⟩, ⟨h8, h9⟩, -⟩ := hh
  have hn := relM_next (h7 1 (by omega)) h8
  have hsm := relM_sm h3 h4 h8
  unfold Both
  rw [en_X11_next, sg_X11_next_0, q_called d σ st_23 h1 h3]
  simp only [pm_cl_some, Option.toList_some, List.cons_append, List.nil_append, Nat.reduceAdd]
  rw [sg_X11_next_7]
  refine ⟨_, _, _, rfl, ?_, PostB_th h⟩
  rw [en_X12_next, sg_X12_next_0, show pm_wI σ 133 0 (nI 0) = th0 σ from rfl, r_nextOf d (th0 σ) rw_now (by rw [th_f _ (by decide)]; exact h2) h3 (by rw [th_ne _ (by decide)]; exact hsm), th_ne _ (by decide), th_ne _ (by decide), hn]
  simp only [pm_cl_some, Option.toList_some, List.cons_append, List.nil_append]
  rw [sg_X12_next_13]
theorem okO_2 {k sz R1 n : Nat} {r f w : Nat → Int32} {lg : Nat → Nat → Int32} (h : relM k sz r R1 f lg w n) : f 0 < nI 2 ∨ f 0 = nI 2 := by
  obtain ⟨⟨F, h1, h2, h3⟩, -⟩ := h
  rw [h1 0 (by omega) (by omega)]
  by_cases c : F 0 < 2
  · exact Or.inl (nI_lt c (by omega))
  · rw [show F 0 = 2 by have := h2.1; omega]
    exact Or.inr rfl
theorem b_left (d : Nat) {k sz n a e : Nat} {T R : Nat → Nat} {σ : pm_H} (h : RelB k sz T R n a e σ) : Both (d + 4) (d + 3) 207 210 [] σ (PostB k sz T R σ) := by
  have hh := h
  obtain ⟨⟨h1, h2, h3, h4, h5, h6, h7⟩, ⟨h8, h9⟩, -⟩ := hh
  unfold Both
  rw [en_X11_left, sg_X11_left_0, h1]
  have hz : (th0 σ).1 133 22 = nI sz := by rw [th_f _ (by decide)]; exact h2
  by_cases c : sz = 0
  · subst c
    refine ⟨.int (-1), σ, th0 σ, by rw [if_pos n00], ?_, PostB_th h⟩
    rw [en_X12_left, sg_X12_left_0, show pm_wI σ 133 0 (nI 0) = th0 σ from rfl, hz, if_pos n00]
  · rw [if_neg (nI_ne0 (by omega) (by omega)), q_left d σ st_23 h1 h3]
    simp only [pm_cl_some, Option.toList_some, List.cons_append, List.nil_append, Nat.reduceAdd]
    rw [sg_X11_left_21]
    refine ⟨_, _, _, rfl, ?_, PostB_th h⟩
    rw [en_X12_left, sg_X12_left_0, show pm_wI σ 133 0 (nI 0) = th0 σ from rfl, hz, if_neg (nI_ne0 (by omega) (by omega)), r_left d (th0 σ) rw_now hz h3, th_ne _ (by decide), th_ne _ (by decide), left_eq h8.2.2.1 h8.2.1 (okO_2 h8) (h7 1 (by omega))]
    simp only [pm_cl_some, Option.toList_some, List.cons_append, List.nil_append]
    rw [sg_X12_left_24]
theorem b_rule (d : Nat) {k sz n a e : Nat} {T R : Nat → Nat} {σ : pm_H} (h : RelB k sz T R n a e σ) (x : Int32) : Both (d + 1) (d + 2) 142 143 [.int x] σ (PostB k sz T R σ) := by
  have hh := h
  obtain ⟨⟨h1, h2, h3, h4, h5, h6, h7⟩, -⟩ := hh
  unfold Both
  rw [en_X11_rule, sg_X11_rule_0, h1]
  have hz : (th0 σ).1 133 22 = nI sz := by rw [th_f _ (by decide)]; exact h2
  by_cases c : sz = 0
  · subst c
    refine ⟨.int (-1), σ, th0 σ, by rw [if_pos n00], ?_, PostB_th h⟩
    rw [en_X12_rule, sg_X12_rule_0, show pm_wI σ 133 0 (nI 0) = th0 σ from rfl, hz, if_neg (by decide)]
  · rw [if_neg (nI_ne0 (by omega) (by omega))]
    have hp : 0 < nI sz := by rw [← nI_0]; exact nI_lt (by omega) (by omega)
    rcases rng_cases x 0 3 (by omega) (by omega) with hx | ⟨j, -, hj, rfl⟩
    · refine ⟨.int (-1), σ, th0 σ, ?_, ?_, PostB_th h⟩
      · rcases hx with hx | hx
        · rw [if_pos (show x < 0 from hx)]
        · by_cases c : x < 0
          · rw [if_pos c]
          · rw [if_neg c, if_neg]
            intro c4
            rcases pk_ix x (n := 4) (by omega) with h | h | ⟨j, hj, rfl⟩
            · exact c h
            · exact Int32.not_lt.mpr h c4
            · have := (nI_ltI (by omega) (by omega)).mp hx
              omega
      · rw [en_X12_rule, sg_X12_rule_0, show pm_wI σ 133 0 (nI 0) = th0 σ from rfl, hz, if_pos hp, r_rng_n d _ (L := 0) (H := 3) (a := 0) (b := 3) (by decide) (by decide) hx]
        simp only [pm_cl_some, Option.toList_some, List.cons_append, List.nil_append]
        rw [sg_X12_rule_21, if_pos n00]
    · rw [if_neg (nI_pos (by omega)), if_pos (nI_lt (by omega) (by omega)), ck_n _ (by omega) (by omega), nI_clamp (by omega)]
      refine ⟨_, _, _, rfl, ?_, PostB_th h⟩
      rw [en_X12_rule, sg_X12_rule_0, show pm_wI σ 133 0 (nI 0) = th0 σ from rfl, hz, if_pos hp, r_rng_y d _ (L := 0) (H := 3) (a := 0) (b := 3) (by decide) (by decide) (by omega) (by omega) (by omega)]
      simp only [pm_cl_some, Option.toList_some, List.cons_append, List.nil_append]
      rw [sg_X12_rule_21, if_neg n10, ck_n _ (by omega) (by omega), nI_clamp (by omega), th_ne _ (by decide), h7 j (by omega)]
theorem b_errs (d : Nat) {k sz n a e : Nat} {T R : Nat → Nat} {σ : pm_H} (h : RelB k sz T R n a e σ) (x : Int32) : Both (d + 1) (d + 2) 146 147 [.int x] σ (PostB k sz T R σ) := by
  have hh := h
  obtain ⟨h1, h2, h3, h4, h5, v, hv, h6⟩ := hh
  unfold Both
  rw [en_X11_errs, sg_X11_errs_0]
  rcases rng_cases x 0 99 (by omega) (by omega) with hx | ⟨j, -, hj, rfl⟩
  · refine ⟨.int (nI 0), σ, th0 σ, ?_, ?_, PostB_th h⟩
    · rcases hx with hx | hx
      · rw [if_pos (show x < 0 from hx)]
      · by_cases c : x < 0
        · rw [if_pos c]
        · rw [if_neg c, if_pos hx]
    · rw [en_X12_errs, sg_X12_errs_0, show pm_wI σ 133 0 (nI 0) = th0 σ from rfl, r_rng_n d _ (L := 0) (H := 99) (a := 0) (b := 99) (by decide) (by decide) hx]
      simp only [pm_cl_some, Option.toList_some, List.cons_append, List.nil_append]
      rw [sg_X12_errs_14, if_pos n00]
  · rw [if_neg (nI_pos (by omega)), if_neg (nI_nlt (by omega) (by omega)), h6]
    have rr : ∀ s : pm_H, s.1 133 = σ.1 133 → xe (d + 2) 147 [.ref 133, .int (nI j)] s = (if nI j = nI v then some (some (.int (nI 0)), th0 s) else some (some (.int (nI 1)), pm_wI (th0 s) 133 29 (nI j))) := by
      intro s e1
      rw [en_X12_errs, sg_X12_errs_0, show pm_wI s 133 0 (nI 0) = th0 s from rfl, r_rng_y d _ (L := 0) (H := 99) (a := 0) (b := 99) (by decide) (by decide) (by omega) (by omega) (by omega)]
      simp only [pm_cl_some, Option.toList_some, List.cons_append, List.nil_append]
      rw [sg_X12_errs_14, if_neg n10, th_f _ (by decide), e1, h5, h6]
    by_cases c : nI j = nI v
    · refine ⟨_, _, _, by rw [if_pos c], by rw [rr σ rfl, if_pos c], PostB_th h⟩
    · refine ⟨.int (nI 1), pm_wI σ 0 18 (nI j), pm_wI (th0 (pm_wI σ 0 18 (nI j))) 133 29 (nI j), by rw [if_neg c], by rw [rr _ (by rw [wI_wC, wC_ne _ _ (by decide)]), if_neg c], ?_⟩
      have cc : ∀ c, c ≠ 0 → c ≠ 133 → (pm_wI (th0 (pm_wI σ 0 18 (nI j))) 133 29 (nI j)).1 c = σ.1 c := fun c c0 c1 => by
        rw [wI_wC, wC_ne _ _ c1, th_ne _ c1, wI_wC, wC_ne _ _ c0]
      have c0 : ∀ i, i ≠ 18 → (pm_wI (th0 (pm_wI σ 0 18 (nI j))) 133 29 (nI j)).1 0 i = σ.1 0 i := fun i hi => by
        rw [wI_wC, wC_ne _ _ (by decide), th_ne _ (by decide), wI_wC, wC_at, up_ne _ _ hi]
      have cm : ∀ i, i ≠ 0 → i ≠ 29 → (pm_wI (th0 (pm_wI σ 0 18 (nI j))) 133 29 (nI j)).1 133 i = σ.1 133 i := fun i h0 hi => by
        rw [wI_wC, wC_at, up_ne _ _ hi, th_f _ h0, wI_wC, wC_ne _ _ (by decide)]
      have cl : ∀ b q, 0 < b → b + q < 133 → lgs (pm_wI (th0 (pm_wI σ 0 18 (nI j))) 133 29 (nI j)) b q = lgs σ b q := fun b q h0 hq => by
        unfold lgs
        exact cc _ (by omega) (by omega)
      obtain ⟨g1, g2, g3, g4, g5, g6, g7⟩ := h1
      refine ⟨⟨n, a, e, RelB_mono (k := k) ⟨⟨?_, ?_, g3, g4, ?_, ?_, ?_⟩, ⟨?_, ?_⟩, ⟨⟨h3.1.1, h3.1.2.1, ?_, ?_, ?_⟩, ?_⟩, ⟨?_, ?_⟩, ?_, j, hj, ?_⟩ (Nat.le_succ k)⟩, ⟨?_, ?_, ?_⟩, ?_, ?_⟩
      · rw [cc 3 (by decide) (by decide)]; exact g1
      · rw [cm 22 (by decide) (by decide)]; exact g2
      · rw [cc 4 (by decide) (by decide), cc 5 (by decide) (by decide)]; exact g5
      · rw [cc 4 (by decide) (by decide), cc 138 (by decide) (by decide)]; exact g6
      · rw [cc 140 (by decide) (by decide), cc 5 (by decide) (by decide)]; exact g7
      · rw [cc 5 (by decide) (by decide), cc 24 (by decide) (by decide), cc 142 (by decide) (by decide)]
        exact relM_ext g3 (fun _ _ => rfl) (fun _ _ => rfl) (fun q i hq _ => by rw [cl 28 q (by omega) (by omega)]) h2.1
      · rw [cc 27 (by decide) (by decide)]; exact h2.2
      · rw [c0 16 (by decide)]; exact h3.1.2.2.1
      · rw [c0 15 (by decide)]; exact h3.1.2.2.2.1
      · rw [cm 33 (by decide) (by decide)]; exact h3.1.2.2.2.2
      · rw [cc 5 (by decide) (by decide), cc 146 (by decide) (by decide)]
        exact relP_ext g3 h3.2 (fun i hi j _ => by rw [cl 93 _ (by omega) (by omega)]) (fun q i hq _ => by rw [cl 28 q (by omega) (by omega)])
      · rw [cm 47 (by decide) (by decide), c0 17 (by decide)]; exact h4.1
      · rw [c0 17 (by decide), cc 5 (by decide) (by decide), cc 34 (by decide) (by decide), cc 156 (by decide) (by decide), cc 35 (by decide) (by decide)]
        rcases h4.2 with h | ⟨h, m, hm, hm2⟩
        · exact Or.inl h
        · exact Or.inr ⟨h, m, relM_ext g3 (fun _ _ => rfl) (fun _ _ => rfl) (fun q i hq _ => by rw [cl 36 q (by omega) (by omega)]) hm, hm2⟩
      · rw [wI_wC, wC_at, up_at, wC_ne _ _ (by decide), th_ne _ (by decide), wI_wC, wC_at, up_at]
      · rw [wI_wC, wC_ne _ _ (by decide), th_ne _ (by decide), wI_wC, wC_at, up_at]
      · intro c hc
        unfold kpL at hc
        simp only [decide_eq_true_eq] at hc
        exact cc c (by omega) (by omega)
      · rw [cc 1 (by decide) (by decide)]
      · exact fun i hi => cm i (by omega) (by omega)
      · rfl
      · exact cc 145 (by decide) (by decide)
theorem b_sheet (d : Nat) {k sz n a e : Nat} {T R : Nat → Nat} {σ : pm_H} (h : RelB k sz T R n a e σ) (x y : Int32) : Both (d + 1) (d + 2) 205 206 [.int x, .int y] σ (PostB k sz T R σ) := by
  have hh := h
  obtain ⟨⟨h1, h2, h3, h4, h5, h6, h7⟩, ⟨h8, h9⟩, -⟩ := hh
  obtain ⟨hn36, -, hw70⟩ := relM_n h3 h4 h8
  unfold Both
  rw [en_X11_sheet, sg_X11_sheet_0, h9]
  have rr : xe (d + 2) 206 [.ref 133, .int x, .int y] σ = pm_run (xe (d + 1)) pg_X12_sheet (21, [.ref 133, .int x, .int y], [.int (b32 (!decide (x < nI 0) && !decide (nI n - nI 1 < x)))], th0 σ) := by
    rw [en_X12_sheet, sg_X12_sheet_0, show pm_wI σ 133 0 (nI 0) = th0 σ from rfl, ck_n _ (by omega) (by omega), nI_clamp (by omega), th_ne _ (by decide), hw70, r_rng d _ x (nI 0) (nI n - nI 1) (L := 0) (by decide) rfl]
    simp only [pm_cl_some, Option.toList_some, List.cons_append, List.nil_append]
  have hnm : (nI n - nI 1).toInt = (n : Int) - 1 := by
    rw [pk_sub_toInt (by omega) (by omega)]
    rfl
  rcases pk_ix x (n := n) (by omega) with hx | hx | ⟨i, hi, rfl⟩
  · refine ⟨.int (-1), σ, th0 σ, by rw [if_pos hx], ?_, PostB_th h⟩
    rw [rr, sg_X12_sheet_21, if_pos]
    rw [decide_eq_true (show x < nI 0 from hx)]
    rfl
  · refine ⟨.int (-1), σ, th0 σ, ?_, ?_, PostB_th h⟩
    · by_cases c : x < 0
      · rw [if_pos c]
      · rw [if_neg c, if_neg (Int32.not_lt.mpr hx)]
    · rw [rr, sg_X12_sheet_21, if_pos]
      rw [decide_eq_true (show nI n - nI 1 < x by
        rw [Int32.lt_iff_toInt_lt, hnm]
        rw [Int32.le_iff_toInt_le, nI_toInt (by omega)] at hx
        omega), Bool.not_true, Bool.and_false]
      rfl
  · rw [if_neg (nI_pos (by omega)), if_pos (nI_lt hi (by omega))]
    have rr2 : xe (d + 2) 206 [.ref 133, .int (nI i), .int y] σ = pm_cl (xe (d + 1) 69 [.long y.toInt64, .long (0 : Int64), .long (3 : Int64)] (th0 σ)) (fun r => pm_run (xe (d + 1)) pg_X12_sheet (33, [.ref 133, .int (nI i), .int y], r.1.toList ++ [], r.2)) := by
      rw [rr, decide_eq_false (show ¬ nI i < nI 0 from nI_nlt (by omega) (by omega)), decide_eq_false (show ¬ nI n - nI 1 < nI i by
        rw [Int32.lt_iff_toInt_lt, hnm, nI_toInt (by omega)]
        omega), sg_X12_sheet_21, if_neg (by decide)]
    obtain ⟨⟨g0, g1, g2, g3, -⟩, -⟩ := h8.2.2.2.2.2.1 i hi
    rcases rng_cases y 0 3 (by omega) (by omega) with hy | ⟨j, -, hj, rfl⟩
    · refine ⟨.int (-1), σ, th0 σ, ?_, ?_, PostB_th h⟩
      · rw [sw_no (b := 3) hy rfl (by omega), sg_X11_sheet_88]
      · rw [rr2, r_rng_n d _ (L := 0) (H := 3) (a := 0) (b := 3) (by decide) (by decide) hy]
        simp only [pm_cl_some, Option.toList_some, List.cons_append, List.nil_append]
        rw [sg_X12_sheet_33, if_pos n00]
    · refine ⟨.int (lgs σ 28 j i), σ, th0 σ, ?_, ?_, PostB_th h⟩
      · rw [sw_in j (by simp only [List.length_cons, List.length_nil]; omega) (by simp)]
        rcases (show j = 0 ∨ j = 1 ∨ j = 2 ∨ j = 3 by omega) with rfl | rfl | rfl | rfl
        · show pm_run _ _ (48, _) = _
          rw [sg_X11_sheet_48, ck_n _ (by omega) (by omega), nI_clamp (by omega)]
          rfl
        · show pm_run _ _ (58, _) = _
          rw [sg_X11_sheet_58, ck_n _ (by omega) (by omega), nI_clamp (by omega)]
          rfl
        · show pm_run _ _ (68, _) = _
          rw [sg_X11_sheet_68, ck_n _ (by omega) (by omega), nI_clamp (by omega)]
          rfl
        · show pm_run _ _ (78, _) = _
          rw [sg_X11_sheet_78, ck_n _ (by omega) (by omega), nI_clamp (by omega)]
          rfl
      · rw [rr2, r_rng_y d _ (L := 0) (H := 3) (a := 0) (b := 3) (by decide) (by decide) (by omega) (by omega) (by omega)]
        simp only [pm_cl_some, Option.toList_some, List.cons_append, List.nil_append]
        rw [sg_X12_sheet_33, if_neg n10]
        simp (disch := omega) only [pk_mul, nI_add, ck_n, nI_clamp, th_ne]
        rcases (show j = 0 ∨ j = 1 ∨ j = 2 ∨ j = 3 by omega) with rfl | rfl | rfl | rfl
        · rw [← g0]; rfl
        · rw [← g1]
        · rw [← g2]
        · rw [← g3]

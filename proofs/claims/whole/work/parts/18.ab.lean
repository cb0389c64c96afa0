/-! ===== count, colder, ready ===== -/
theorem b_count (d : Nat) {k sz n a e nl : Nat} {T R : Nat → Nat} {V : Nat → LV → Int32} {σ : pm_H} (h : RelB k sz T R n a e σ) (w : LW nl V σ) (x : Int32) : Both (d + 4) (d + 3) 321 324 [.int x] σ (PostW k sz T R nl V) := by
  have hh := h
  have ww := w
  obtain ⟨⟨h1, h2, h3, h4, h5, h6, h7⟩, ⟨h8, h9⟩, ⟨⟨p1, p2, p3, p4, p5⟩, -⟩, -, ⟨e1, -⟩⟩ := hh
  obtain ⟨⟨tb, tn, -, t2, t3, -⟩, ⟨-, c2, -⟩, ⟨-, m2, -⟩, -, -, ⟨f1, f2⟩, -, -⟩ := ww
  have hp := PostW_B (PostB_th h) w
  obtain ⟨w66, w67, w68, w69, w70⟩ := h8.2.2.1.1
  have hz : (th0 σ).1 133 22 = nI sz := by rw [th_f _ (by decide)]; exact h2
  unfold Both
  rw [en_X11_count, sg_X11_count_0]
  rcases rng_cases x 0 11 (by omega) (by omega) with hx | ⟨j, -, hj, rfl⟩
  · refine ⟨.int (-2000000), σ, th0 σ, ?_, ?_, hp⟩
    · rw [sw_no (b := 11) hx rfl (by omega), sg_X11_count_154]
    · rw [en_X12_count, sg_X12_count_0, sw_no (b := 11) hx rfl (by omega), sg_X12_count_144]
      rfl
  · rw [sw_in (ts := [64, 72, 80, 88, 96, 104, 112, 120, 128, 133, 141, 149]) j (show j < 12 by omega) (by decide)]
    have hr : xe (d + 3) 324 [.ref 133, .int (nI j)] σ = pm_run (xe (d + 2)) pg_X12_count ([68, 73, 78, 83, 91, 99, 107, 112, 117, 122, 131, 139].getD j 144, [.ref 133, .int (nI j)], [], th0 σ) := by
      rw [en_X12_count, sg_X12_count_0, sw_in (ts := [68, 73, 78, 83, 91, 99, 107, 112, 117, 122, 131, 139]) j (show j < 12 by omega) (by decide)]
      rfl
    rcases (show j = 0 ∨ j = 1 ∨ j = 2 ∨ j = 3 ∨ j = 4 ∨ j = 5 ∨ j = 6 ∨ j = 7 ∨ j = 8 ∨ j = 9 ∨ j = 10 ∨ j = 11 by omega) with rfl | rfl | rfl | rfl | rfl | rfl | rfl | rfl | rfl | rfl | rfl | rfl
    · refine ⟨.int (nI sz), σ, th0 σ, sg_X11_count_64.trans (by rw [h1]), hr.trans (sg_X12_count_68.trans (by rw [hz])), hp⟩
    · refine ⟨.int (nI nl), σ, th0 σ, sg_X11_count_72.trans (by rw [c2]), hr.trans (sg_X12_count_73.trans (by rw [th_f _ (by decide), m2])), hp⟩
    · refine ⟨.int (nI tn), σ, th0 σ, sg_X11_count_80.trans (by rw [t2]), hr.trans (sg_X12_count_78.trans (by rw [th_f _ (by decide), t3])), hp⟩
    · refine ⟨.int (σ.1 24 0), σ, th0 σ, sg_X11_count_88.trans ?_, hr.trans (sg_X12_count_83.trans (by rw [ck_n _ (by omega) (by omega), nI_clamp (by omega), th_ne _ (by decide), w66])), hp⟩
      rw [q_round (d + 2) σ st_23]
      simp only [pm_cl_some, Option.toList_some, Option.toList_none, List.cons_append, List.nil_append]
      rw [sg_X11_count_95]
    · refine ⟨.int (σ.1 24 1), σ, th0 σ, sg_X11_count_96.trans ?_, hr.trans (sg_X12_count_91.trans (by rw [ck_n _ (by omega) (by omega), nI_clamp (by omega), th_ne _ (by decide), w67])), hp⟩
      rw [en_X9_bar, sg_X9_bar_0 st_23.1 st_23.2, ck_n _ (by omega) (by omega), nI_clamp (by omega)]
      simp only [pm_cl_some, Option.toList_some, Option.toList_none, List.cons_append, List.nil_append]
      rw [sg_X11_count_103]
    · refine ⟨.int (σ.1 24 2), σ, th0 σ, sg_X11_count_104.trans ?_, hr.trans (sg_X12_count_99.trans (by rw [ck_n _ (by omega) (by omega), nI_clamp (by omega), th_ne _ (by decide), w68])), hp⟩
      rw [en_X9_minute, sg_X9_minute_0 st_23.1 st_23.2, ck_n _ (by omega) (by omega), nI_clamp (by omega)]
      simp only [pm_cl_some, Option.toList_some, Option.toList_none, List.cons_append, List.nil_append]
      rw [sg_X11_count_111]
    · refine ⟨.int (σ.1 12 6), σ, th0 σ, sg_X11_count_112, hr.trans (sg_X12_count_107.trans (by rw [th_f _ (by decide), f1])), hp⟩
    · refine ⟨.int (σ.1 12 7), σ, th0 σ, sg_X11_count_120, hr.trans (sg_X12_count_112.trans (by rw [th_f _ (by decide), f2])), hp⟩
    · refine ⟨.int (σ.1 0 18), σ, th0 σ, sg_X11_count_128, hr.trans (sg_X12_count_117.trans (by rw [th_f _ (by decide), e1])), hp⟩
    · refine ⟨.int (cnt (s_in (σ.1 5) (σ.1 24)) 0 sz), σ, th0 σ, sg_X11_count_133.trans ?_, hr.trans (sg_X12_count_122.trans ?_), hp⟩
      · rw [q_howManyIn d σ st_23 h1 h3]
        simp only [pm_cl_some, Option.toList_some, Option.toList_none, List.cons_append, List.nil_append]
        rw [sg_X11_count_140]
      · rw [r_howMany d (th0 σ) rw_now hz h3, th_ne _ (by decide), th_ne _ (by decide), cnt_eq (sz := sz) (fun l hl => relM_in (t := σ.1 4) (T := T) (h7 1 (by omega)) h8 hl) sz 0 (by omega)]
        simp only [pm_cl_some, Option.toList_some, Option.toList_none, List.cons_append, List.nil_append]
        rw [sg_X12_count_130]
    · refine ⟨.int (σ.1 24 4), σ, th0 σ, sg_X11_count_141.trans ?_, hr.trans (sg_X12_count_131.trans (by rw [ck_n _ (by omega) (by omega), nI_clamp (by omega), th_ne _ (by decide), w70])), hp⟩
      rw [q_made (d + 2) σ st_23]
      simp only [pm_cl_some, Option.toList_some, Option.toList_none, List.cons_append, List.nil_append]
      rw [sg_X11_count_148]
    · refine ⟨.int (nI a), σ, th0 σ, sg_X11_count_149.trans (by rw [p3]), hr.trans (sg_X12_count_139.trans (by rw [th_f _ (by decide), p5])), hp⟩
/-- a chance by the class's moment -/
theorem q_chM (d : Nat) {nl u l W can e g tr wt D B a b : Nat} {V : Nat → LV → Int32} {σ : pm_H} (hC : CLw nl V σ) (ho : lawok nl (σ.1 12 6)) (hu : mo_ok u) (hl : l < 6) (h1 : σ.1 u 1 = nI l) (h2 : σ.1 u 2 = nI can) (h3 : σ.1 u 3 = nI e) (h4 : σ.1 u 4 = nI g) (h5 : σ.1 u 5 = nI tr) (h6 : σ.1 u 6 = nI wt) (hD : σ.1 4 (l * 10 + 3) = nI D) (hB : σ.1 4 (l * 10 + 2) = nI B) (ha : σ.1 4 (l * 10 + 4) = nI a) (hb : σ.1 4 (l * 10 + 5) = nI b) (r1 : a ≤ 9 ∧ b ≤ 9 ∧ can ≤ 99 ∧ e ≤ 1000 ∧ g ≤ 1000 ∧ wt < 10000) (r2 : W ≤ 99 ∧ D ≤ 9 ∧ tr ≤ 3 ∧ B ≤ 99) : ∃ g21 g22, xe (d + 4) 155 [.ref 12, .ref u, .int (nI W)] σ = some (some (.int (oddv V (σ.1 12 6) W (nowI a b can e g wt) D tr wt B)), pm_wC (pm_wC σ 21 g21) 22 g22) := by
  obtain ⟨n1, n2⟩ := nowX_N r1.1 r1.2.1 r1.2.2.1 r1.2.2.2.1 r1.2.2.2.2.1 r1.2.2.2.2.2
  exact q_chance d hC ho hu hl h1 (by rw [ha, hb, h2, h3, h4, h6]; exact n1) h5 h6 hD hB ⟨r2.1, n2, r2.2.1, r2.2.2.1, r1.2.2.2.2.2, r2.2.2.2⟩
theorem CLw_X {nl : Nat} {V : Nat → LV → Int32} {σ σ' : pm_H} (h : CLw nl V σ) (s : sameX σ σ') : CLw nl V σ' := by
  obtain ⟨c1, c2, c3⟩ := h
  refine ⟨c1, by rw [s.2.1.1 12 rfl]; exact c2, fun j hj => ?_⟩
  obtain ⟨cc, a1, a2, a3, a4⟩ := c3 j hj
  exact ⟨cc, by rw [s.2.1.1 20 rfl]; exact a1, a2, by rw [s.2.1.1 (14 + j) (kpL_lw (by omega))]; exact a3, a4⟩
/-- a lifter's numbers -/
theorem lif_N {k sz n l : Nat} {t r f w : Nat → Int32} {T R : Nat → Nat} {lg : Nat → Nat → Int32} (hs : sz ≤ 6) (hk : k ≤ 5000) (ht : okT sz t r T R) (h : relM k sz r (R 1) f lg w n) (hl : l < sz) : ∃ F, rp f F ∧ okN k sz (R 1) F ∧ (f 2 - f (41 + l) = nI (F 2 - F (41 + l)) ∧ F 2 - F (41 + l) ≤ 5072) ∧ (1 ≤ F (5 + l) ∧ F (5 + l) ≤ 99 ∧ F (11 + l) ≤ 3 ∧ F (29 + l) ≤ 9 ∧ F (35 + l) ≤ 6) ∧ (if f 0 = 0 then t (l * 10 + 0) else t (l * 10 + 1)) = nI (if F 0 = 0 then T (l * 10 + 0) else T (l * 10 + 1)) ∧ (if F 0 = 0 then T (l * 10 + 0) else T (l * 10 + 1)) ≤ 99 ∧ ∀ j, j < 10 → t (l * 10 + j) = nI (T (l * 10 + j)) := by
  obtain ⟨F, h1, h2, -⟩ := h.1
  obtain ⟨t1, t2, t3, t4⟩ := ht
  have h2' := h2
  obtain ⟨o0, o1, o2, o4, ol⟩ := h2
  obtain ⟨⟨l1, l2, l3, l4, l5, l6⟩, l7, l8, l9, l10, l11, l12⟩ := ol l hl
  obtain ⟨⟨u1, u2, u3, u4, u5, u6⟩, -⟩ := t4 l hl
  have hsum : F 4 ≤ sz * 6 := by
    rw [o4]
    exact sumN_le sz (fun q hq => by have := ol q hq; unfold okL at this; omega)
  refine ⟨F, h1, h2', ⟨by rw [h1 2 (by omega) (by omega), h1 (41 + l) (by omega) (by omega), pk_sub l9], by omega⟩, ⟨l1, l2, by omega, l7, by omega⟩, ?_, by split <;> omega, fun j hj => t1 l hl j hj⟩
  rw [h1 0 (by omega) (by omega), t1 l hl 0 (by omega), t1 l hl 1 (by omega)]
  by_cases c0 : F 0 = 0
  · rw [if_pos c0, if_pos (by rw [c0]; exact n00)]
  · rw [if_neg c0, if_neg (nI_ne0 (by omega) (by omega))]
theorem b_colder (d : Nat) {k sz n a e nl : Nat} {T R : Nat → Nat} {V : Nat → LV → Int32} {σ : pm_H} (hk : k ≤ 4900) (h : RelB k sz T R n a e σ) (w : LW nl V σ) (x y : Int32) : Both (d + 6) (d + 35) 266 267 [.int x, .int y] σ (PostW k sz T R nl V) := by
  have hh := h
  obtain ⟨⟨h1, h2, h3, h4, h5, h6, h7⟩, ⟨h8, h9⟩, -⟩ := hh
  have hz : (th0 σ).1 133 22 = nI sz := by rw [th_f _ (by decide)]; exact h2
  unfold Both
  rw [en_X11_colder, sg_X11_colder_0]
  rcases ix_cases x h3 with hx | ⟨l, hl, rfl⟩
  · refine ⟨.int (-2000000), σ, th0 σ, ?_, ?_, PostW_B (PostB_th h) w⟩
    · rw [q_in_n (d + 3) _ h1 hx]
      simp only [pm_cl_some, Option.toList_some, Option.toList_none, List.cons_append, List.nil_append]
      rw [sg_X11_colder_5, if_pos n00]
    · rw [en_X12_colder, sg_X12_colder_0, show pm_wI σ 133 0 (nI 0) = th0 σ from rfl, r_isL_n _ _ hz hx]
      simp only [pm_cl_some, Option.toList_some, Option.toList_none, List.cons_append, List.nil_append]
      rw [sg_X12_colder_10, if_pos n00]
  · have hsz : 0 < sz := by omega
    have hT := h5 hsz
    rw [q_in_y (d + 2) _ h1 h3 hl]
    simp only [pm_cl_some, Option.toList_some, Option.toList_none, List.cons_append, List.nil_append]
    rw [sg_X11_colder_5]
    have hrf : ∀ σ1, sameX σ (th0 σ1) → xe (d + 35) 267 [.ref 133, .int (nI l), .int y] σ1 = pm_run (xe (d + 34)) pg_X12_colder (22, [.ref 133, .int (nI l), .int y, .null, .null, .null], [.int (b32 (s_in (σ.1 5) (σ.1 24) l))], th0 σ1) := by
      intro σ1 sX
      rw [en_X12_colder, sg_X12_colder_0, show pm_wI σ1 133 0 (nI 0) = th0 σ1 from rfl, r_isL_y _ _ (show (th0 σ1).1 133 22 = nI sz from (sX.1.2 22 (by omega)).trans h2) h3 hl]
      simp only [pm_cl_some, Option.toList_some, Option.toList_none, List.cons_append, List.nil_append]
      rw [sg_X12_colder_10, if_neg n10, r_isOn _ _ rw_now (show l < 6 by omega), sX.1.1 140 rfl, sX.1.1 142 rfl, relM_in (t := σ.1 4) (T := T) (h7 1 (by omega)) h8 hl]
      simp only [pm_cl_some, Option.toList_some, Option.toList_none, List.cons_append, List.nil_append]
    cases hin : s_in (σ.1 5) (σ.1 24) l with
    | false =>
      refine ⟨.int (-2000000), σ, th0 σ, by rw [if_pos bf0], ?_, PostW_B (PostB_th h) w⟩
      rw [hrf σ (sameX_th (sameX_rfl σ)), hin, sg_X12_colder_22, if_pos bf0]
    | true =>
      rw [hin] at hrf
      rw [if_neg bt0]
      rcases rng_cases y 0 30 (by omega) (by omega) with hy | ⟨q, -, hq, rfl⟩
      · refine ⟨.int (-2000000), σ, th0 σ, ?_, ?_, PostW_B (PostB_th h) w⟩
        · rcases hy with hy | hy
          · rw [if_pos (show y < 0 from hy)]
          · rw [if_pos hy]
            exact ite_self _
        · rw [hrf σ (sameX_th (sameX_rfl σ)), sg_X12_colder_22, if_neg bt0, r_rng_n _ _ (L := 0) (H := 30) (a := 0) (b := 30) (by decide) (by decide) hy]
          simp only [pm_cl_some, Option.toList_some, Option.toList_none, List.cons_append, List.nil_append]
          rw [sg_X12_colder_34, if_pos n00]
      · obtain ⟨F, f1, f2, ⟨g1, g2⟩, ⟨b1, b2, b3, b4, b5⟩, g3, g4, g5⟩ := lif_N h3 (by omega) hT h8 hl
        obtain ⟨⟨u1, u2, u3, u4, u5, u6⟩, ⟨u7, u8, u9, u10, u11, u12⟩, u13⟩ := hT.2.2.2 l hl
        have hl6 : l < 6 := by omega
        have h5' : σ.1 24 (5 + l) = nI (F (5 + l)) := f1 _ (by omega) (by omega)
        rw [if_neg (nI_pos (by omega)), if_neg (nI_nlt (by omega) (by omega)), q_of (d + 4) σ st_23 (show 5 + l < 71 by omega), h5']
        simp only [pm_cl_some, Option.toList_some, Option.toList_none, List.cons_append, List.nil_append]
        rw [sg_X11_colder_30, w_take (d + 3) σ mo_91 st_23 hl6]
        simp only [pm_cl_some, Option.toList_some, Option.toList_none, List.cons_append, List.nil_append]
        have sX1 : sameX σ (pm_wC σ 91 (g_take (σ.1 4) (σ.1 (23 + 1)) (σ.1 91) l)) := sameX_w (sameX_rfl σ) _ ⟨rfl, rfl⟩ (by decide)
        obtain ⟨g21, g22, hg⟩ := q_chM (d + 1) (u := 91) (l := l) (W := F (5 + l)) (can := if F 0 = 0 then T (l * 10 + 0) else T (l * 10 + 1)) (e := F (29 + l)) (g := F (35 + l)) (tr := F (11 + l)) (wt := F 2 - F (41 + l)) (D := T (l * 10 + 3)) (B := T (l * 10 + 2)) (a := T (l * 10 + 4)) (b := T (l * 10 + 5)) (σ := pm_wC σ 91 (g_take (σ.1 4) (σ.1 (23 + 1)) (σ.1 91) l)) (CLw_X w.2.1 sX1) (by rw [wC_ne _ _ (by decide)]; exact w.2.2.2.2.2.2.1) mo_91 hl6 (by rw [wC_at]; rfl) (by rw [wC_at]; exact g3) (by rw [wC_at]; exact f1 _ (by omega) (by omega)) (by rw [wC_at]; exact f1 _ (by omega) (by omega)) (by rw [wC_at]; exact f1 _ (by omega) (by omega)) (by rw [wC_at]; exact g1) (by rw [wC_ne _ _ (by decide)]; exact g5 3 (by omega)) (by rw [wC_ne _ _ (by decide)]; exact g5 2 (by omega)) (by rw [wC_ne _ _ (by decide)]; exact g5 4 (by omega)) (by rw [wC_ne _ _ (by decide)]; exact g5 5 (by omega)) (by omega) (by omega)
        rw [sg_X11_colder_43, hg, wC_ne _ _ (show (12 : Nat) ≠ 91 by decide)]
        simp only [pm_cl_some, Option.toList_some, Option.toList_none, List.cons_append, List.nil_append]
        have sX2 := sameX_w (sameX_w sX1 (c := 21) g21 ⟨rfl, rfl⟩ (by decide)) (c := 22) g22 ⟨rfl, rfl⟩ (by decide)
        have e91 : (pm_wC (pm_wC (pm_wC σ 91 (g_take (σ.1 4) (σ.1 (23 + 1)) (σ.1 91) l)) 21 g21) 22 g22).1 91 = g_take (σ.1 4) (σ.1 24) (σ.1 91) l := by rw [wC_ne _ _ (by decide), wC_ne _ _ (by decide), wC_at]
        generalize pm_wC (pm_wC (pm_wC σ 91 (g_take (σ.1 4) (σ.1 (23 + 1)) (σ.1 91) l)) 21 g21) 22 g22 = σ2 at sX2 e91 ⊢
        have e6 : σ2.1 91 6 + nI q = nI (F 2 - F (41 + l) + q) := by
          rw [e91]
          show (σ.1 24 2 - σ.1 24 (41 + l)) + nI q = _
          rw [g1, nI_add]
        rw [sg_X11_colder_55, e6, wI_wC, e91]
        have sX3 : sameX σ (pm_wC σ2 91 (upd (g_take (σ.1 4) (σ.1 24) (σ.1 91) l) 6 (nI (F 2 - F (41 + l) + q)))) := sameX_w sX2 _ ⟨rfl, rfl⟩ (by decide)
        have e4 : (pm_wC σ2 91 (upd (g_take (σ.1 4) (σ.1 24) (σ.1 91) l) 6 (nI (F 2 - F (41 + l) + q)))).1 4 = σ.1 4 := sX3.1.1 4 rfl
        have e12 : (pm_wC σ2 91 (upd (g_take (σ.1 4) (σ.1 24) (σ.1 91) l) 6 (nI (F 2 - F (41 + l) + q)))).1 12 = σ.1 12 := sX3.2.1.1 12 rfl
        obtain ⟨g21', g22', hg'⟩ := q_chM (d + 1) (u := 91) (l := l) (W := F (5 + l)) (can := if F 0 = 0 then T (l * 10 + 0) else T (l * 10 + 1)) (e := F (29 + l)) (g := F (35 + l)) (tr := F (11 + l)) (wt := F 2 - F (41 + l) + q) (D := T (l * 10 + 3)) (B := T (l * 10 + 2)) (a := T (l * 10 + 4)) (b := T (l * 10 + 5)) (σ := pm_wC σ2 91 (upd (g_take (σ.1 4) (σ.1 24) (σ.1 91) l) 6 (nI (F 2 - F (41 + l) + q)))) (CLw_X w.2.1 sX3) (by rw [e12]; exact w.2.2.2.2.2.2.1) mo_91 hl6 (by rw [wC_at]; rfl) (by rw [wC_at]; exact g3) (by rw [wC_at]; exact f1 _ (by omega) (by omega)) (by rw [wC_at]; exact f1 _ (by omega) (by omega)) (by rw [wC_at]; exact f1 _ (by omega) (by omega)) (by rw [wC_at, up_at]) (by rw [e4]; exact g5 3 (by omega)) (by rw [e4]; exact g5 2 (by omega)) (by rw [e4]; exact g5 4 (by omega)) (by rw [e4]; exact g5 5 (by omega)) (by omega) (by omega)
        rw [hg', e12]
        simp only [pm_cl_some, Option.toList_some, Option.toList_none, List.cons_append, List.nil_append]
        rw [sg_X11_colder_84]
        have sX := sameX_th (sameX_w (sameX_w sX3 (c := 21) g21' ⟨rfl, rfl⟩ (by decide)) (c := 22) g22' ⟨rfl, rfl⟩ (by decide))
        generalize pm_wC (pm_wC (pm_wC σ2 91 (upd (g_take (σ.1 4) (σ.1 24) (σ.1 91) l) 6 (nI (F 2 - F (41 + l) + q)))) 21 g21') 22 g22' = σ1 at sX ⊢
        obtain ⟨hB, hW'⟩ := sameX_R sX h w
        have e27 : (th0 σ1).1 133 27 = σ.1 12 6 := (hW'.2.2.2.2.2.1.1).trans (by rw [sX.2.1.1 12 rfl])
        have e142 := sX.1.1 142 rfl
        have e138 := sX.1.1 138 rfl
        obtain ⟨⟨w0, w1, w2, w3, w4⟩, wk⟩ := h8.2.2.1
        obtain ⟨⟨a0, a1, a2, a3, a4⟩, a5, a6, a7, a8, a9⟩ := wk l hl
        obtain ⟨n1, n2⟩ := nowX_N (a := T (l * 10 + 4)) (b := T (l * 10 + 5)) (c := if F 0 = 0 then T (l * 10 + 0) else T (l * 10 + 1)) (e := F (29 + l)) (g := F (35 + l)) (w := F 2 - F (41 + l) + q) (by omega) (by omega) g4 (by omega) (by omega) (by omega)
        obtain ⟨σ3, s1, s2, s3, s4⟩ := r_oddT d (σ := th0 σ1) (q := 142) (W := F (5 + l)) (f := σ.1 24) hW'.2.2.1 hW'.2.2.2.1 (by rw [e27]; exact w.2.2.2.2.2.2.1) hW'.2.2.2.2.1 rw_now h3 (show k ≤ 5000 by omega) hT (fun l hl j hj => by rw [e138]; exact h6 l hl j hj) (by rw [e142]; exact h8.2.2.1) f1 f2 hl b2
        have hE3 := EnM_Q (EnM_X (EnM_of h w) sX) (rO_Q s2)
        obtain ⟨σ4, v1, v2, v3, v4⟩ := r_oddsBy (d + 1) (σ := σ3) (l := l) (W := F (5 + l)) (I := nowI (T (l * 10 + 4)) (T (l * 10 + 5)) (if F 0 = 0 then T (l * 10 + 0) else T (l * 10 + 1)) (F (29 + l)) (F (35 + l)) (F 2 - F (41 + l) + q)) (D := T (l * 10 + 3)) (T := F (11 + l)) (C := F 2 - F (41 + l) + q) (B := T (l * 10 + 2)) hE3.2.2.2.1 s3 (by rw [hE3.2.2.2.2.1.1]; exact w.2.2.2.2.2.2.1) s4 hl6 (by rw [hE3.2.1 l hl 3 (by omega)]; exact g5 3 (by omega)) (by rw [hE3.2.1 l hl 2 (by omega)]; exact g5 2 (by omega)) ⟨b2, n2, u6, b3, by omega, u4⟩
        refine ⟨_, σ1, σ4, rfl, ?_, PostW_Q hB hW' (sameQ_tr (rO_Q s2) (rO_Q v2)) v3 v4⟩
        rw [hrf σ1 sX, sg_X12_colder_22, if_neg bt0, r_rng_y _ _ (L := 0) (H := 30) (a := 0) (b := 30) (by decide) (by decide) (by omega) hq (by omega)]
        simp only [pm_cl_some, Option.toList_some, Option.toList_none, List.cons_append, List.nil_append]
        rw [sg_X12_colder_34, if_neg n10, r_waitedOf (d + 33) _ rw_now hl6, e142, w2, a8, g1]
        simp only [pm_cl_some, Option.toList_some, Option.toList_none, List.cons_append, List.nil_append]
        rw [sg_X12_colder_55, r_canOf (d + 33) _ rw_now hl6, nI_add, show m_can ((th0 σ1).1 138) ((th0 σ1).1 142) l = nI (if F 0 = 0 then T (l * 10 + 0) else T (l * 10 + 1)) from by
          unfold m_can
          rw [e138, e142, w0, h6 l hl 0 (by omega), h6 l hl 1 (by omega)]
          exact g3]
        simp only [pm_cl_some, Option.toList_some, Option.toList_none, List.cons_append, List.nil_append]
        rw [sg_X12_colder_70, pk_mul, nI_add, nI_add, ck_n _ (by omega) (by omega), ck_n _ (by omega) (by omega), nI_clamp (by omega), nI_clamp (by omega), e142, a7, a9, f1 (29 + l) (by omega) (by omega), f1 (35 + l) (by omega) (by omega), r_nowBy (d + 33) _ hl6, e138, h6 l hl 4 (by omega), h6 l hl 5 (by omega), g5 4 (by omega), g5 5 (by omega), n1]
        simp only [pm_cl_some, Option.toList_some, Option.toList_none, List.cons_append, List.nil_append]
        rw [sg_X12_colder_93, nI_add, ck_n _ (by omega) (by omega), nI_clamp (by omega), e142, a0, h5', s1]
        simp only [pm_cl_some, Option.toList_some, Option.toList_none, List.cons_append, List.nil_append]
        have e142' : σ3.1 142 = σ.1 142 := (s2.1 142 (by decide) (by decide) (by decide)).trans e142
        rw [sg_X12_colder_112, nI_add, nI_add, ck_n _ (by omega) (by omega), ck_n _ (by omega) (by omega), nI_clamp (by omega), nI_clamp (by omega), e142', a0, a1, h5', f1 (11 + l) (by omega) (by omega), v1]
        simp only [pm_cl_some, Option.toList_some, Option.toList_none, List.cons_append, List.nil_append]
        rw [sg_X12_colder_137, e27, hE3.2.2.2.2.1.1]
        rfl

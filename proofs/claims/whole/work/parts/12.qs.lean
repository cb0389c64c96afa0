/-! ===== acts that are no lifts ===== -/
/-- the class's state behind keepPast and a change of the Stand; the reference's behind it -/
def x_act (σ : pm_H) (a e : Nat) (f : Nat → Int32) : pm_H := pm_wC (x_past σ a e) 24 f
def m_act (σ : pm_H) (a e : Nat) (f w : Nat → Int32) : pm_H := pm_wC (m_past (th0 (x_act σ a e f)) a) 142 w
theorem xa_ne (σ : pm_H) {a e c : Nat} (f : Nat → Int32) (h0 : c ≠ 0) (he : c ≠ 93 + e) (h24 : c ≠ 24) : (x_act σ a e f).1 c = σ.1 c := by
  unfold x_act
  rw [wC_ne _ _ h24, past_ne _ h0 he]
theorem act_post {k sz n a e : Nat} {T R : Nat → Nat} {σ : pm_H} (h : RelB k sz T R n a e σ) (f w : Nat → Int32) (hM : relM (k + 1) sz (σ.1 5) (R 1) f (lgs σ 28) w n) : PostB k sz T R σ (m_act σ a e f w) := by
  have h11 : e < 40 := h.2.2.1.1.2.1
  have h3 : sz ≤ 6 := h.1.2.2.1
  unfold m_act
  have e133 : (x_act σ a e f).1 133 = σ.1 133 := xa_ne σ f (by omega) (by omega) (by omega)
  have e142 : (x_act σ a e f).1 142 = σ.1 142 := xa_ne σ f (by omega) (by omega) (by omega)
  have e146 : (x_act σ a e f).1 146 = σ.1 146 := xa_ne σ f (by omega) (by omega) (by omega)
  have cc : ∀ c, c ≠ 0 → c ≠ 93 + e → c ≠ 24 → c ≠ 133 → c ≠ 146 → c ≠ 142 → (pm_wC (m_past (th0 (x_act σ a e f)) a) 142 w).1 c = σ.1 c := fun c a1 a2 a3 a4 a5 a6 => by
    rw [wC_ne _ _ a6, mp_ne _ a4 a5, th_ne _ a4, xa_ne σ f a1 a2 a3]
  have qf : ∀ j, j ≠ 0 → j ≠ 33 → (pm_wC (m_past (th0 (x_act σ a e f)) a) 142 w).1 133 j = σ.1 133 j := fun j j0 j3 => by rw [wC_ne _ _ (by decide), mp_133, up_ne _ _ j3, th_f _ j0, e133]
  have cl : ∀ q, q < 5 → lgs (pm_wC (m_past (th0 (x_act σ a e f)) a) 142 w) 28 q = lgs σ 28 q := fun q hq => by
    unfold lgs
    rw [cc _ (by omega) (by omega) (by omega) (by omega) (by omega) (by omega)]
  refine ⟨⟨n, _, _, RelB_act h (Nat.le_succ k) (Nat.le_refl n) ?_ ⟨?_, ?_⟩ ?_ ?_ ?_ ?_ ?_ ?_ ?_⟩, ⟨?_, ?_, ?_⟩, ?_, ?_⟩
  · rw [wC_ne _ _ (by decide), mp_ne _ (by decide) (by decide), th_ne _ (by decide)]
    unfold x_act
    rw [wC_ne _ _ (by decide), xp_0]
  · exact fun j hj => qf j (by omega) (by omega)
  · rw [wC_ne _ _ (by decide), mp_133, up_at]
  · exact fun c hc => cc c (by omega) (by omega) (by omega) (by omega) (by omega) (by omega)
  · exact fun i hi hie => cc _ (by omega) (by omega) (by omega) (by omega) (by omega) (by omega)
  · intro j hj
    rw [wC_ne _ _ (by omega), mp_ne _ (by omega) (by omega), th_ne _ (by omega)]
    unfold x_act
    rw [wC_ne _ _ (by omega), xp_e _ _ _ hj]
  · rw [wC_ne _ _ (by decide), mp_146, th_ne _ (by decide), th_ne _ (by decide), e142, e146]
  · rw [wC_at, wC_ne _ _ (by decide), mp_ne _ (by decide) (by decide), th_ne _ (by decide)]
    unfold x_act
    rw [wC_at]
    exact relM_ext h3 (fun _ _ => rfl) (fun _ _ => rfl) (fun q i hq hi => congrFun (cl q hq) i) hM
  · exact fun q i hq hi => congrFun (cl q hq) i
  · rw [cc 27 (by omega) (by omega) (by omega) (by omega) (by omega) (by omega)]
    exact h.2.1.2
  · intro c hc
    unfold kpL at hc
    simp only [decide_eq_true_eq] at hc
    exact cc c (by omega) (by omega) (by omega) (by omega) (by omega) (by omega)
  · rw [cc 1 (by omega) (by omega) (by omega) (by omega) (by omega) (by omega)]
  · exact fun j hj => qf j (by omega) (by omega)
  · rfl
  · exact cc 145 (by omega) (by omega) (by omega) (by omega) (by omega) (by omega)
/-- what the reference reads behind the class's act -/
theorem ma_c (σ : pm_H) {a e : Nat} (f : Nat → Int32) (he : e < 40) : (m_past (th0 (x_act σ a e f)) a).1 142 = σ.1 142 ∧ (m_past (th0 (x_act σ a e f)) a).1 138 = σ.1 138 ∧ (m_past (th0 (x_act σ a e f)) a).1 140 = σ.1 140 ∧ ∀ j, j ≠ 0 → j ≠ 33 → (m_past (th0 (x_act σ a e f)) a).1 133 j = σ.1 133 j := by
  refine ⟨?_, ?_, ?_, fun j j0 j3 => ?_⟩
  · rw [mp_ne _ (by decide) (by decide), th_ne _ (by decide), xa_ne σ f (by omega) (by omega) (by omega)]
  · rw [mp_ne _ (by decide) (by decide), th_ne _ (by decide), xa_ne σ f (by omega) (by omega) (by omega)]
  · rw [mp_ne _ (by decide) (by decide), th_ne _ (by decide), xa_ne σ f (by omega) (by omega) (by omega)]
  · rw [mp_133, up_ne _ _ j3, th_f _ j0, xa_ne σ f (by omega) (by omega) (by omega)]
theorem up_cm (f : Nat → Int32) {a b : Nat} (u v : Int32) (h : a ≠ b) : upd (upd f a u) b v = upd (upd f b v) a u := by
  funext j
  by_cases c : j = a
  · subst c; rw [up_ne _ _ h, up_at, up_at]
  · by_cases c2 : j = b
    · subst c2; rw [up_at, up_ne _ _ c, up_at]
    · rw [up_ne _ _ c2, up_ne _ _ c, up_ne _ _ c, up_ne _ _ c2]
theorem b_home (d : Nat) {k sz n a e : Nat} {T R : Nat → Nat} {σ : pm_H} (h : RelB k sz T R n a e σ) (x : Int32) : Both (d + 6) (d + 4) 190 193 [.int x] σ (PostB k sz T R σ) := by
  have hh := h
  obtain ⟨⟨h1, h2, h3, h4, h5, h6, h7⟩, ⟨h8, h9⟩, ⟨⟨h10, h11, h12, h13, h14⟩, h15⟩, -⟩ := hh
  unfold Both
  rw [en_X11_home, sg_X11_home_0]
  rcases ix_cases x h3 with hx | ⟨l, hl, rfl⟩
  · refine ⟨.int (-1), σ, th0 σ, ?_, ?_, PostB_th h⟩
    · rw [q_in_n (d + 3) σ h1 hx]
      simp only [pm_cl_some, Option.toList_some, List.cons_append, List.nil_append]
      rw [sg_X11_home_5, if_pos n00]
    · rw [en_X12_home, sg_X12_home_0, show pm_wI σ 133 0 (nI 0) = th0 σ from rfl, r_isL_n (d + 2) (th0 σ) (by rw [th_f _ (by decide)]; exact h2) hx]
      simp only [pm_cl_some, Option.toList_some, List.cons_append, List.nil_append]
      rw [sg_X12_home_10, if_pos n00]
  · have hmon := relM_in (t := σ.1 4) (T := T) (h7 1 (by omega)) h8 hl
    rw [q_in_y (d + 2) σ h1 h3 hl]
    simp only [pm_cl_some, Option.toList_some, List.cons_append, List.nil_append]
    rw [sg_X11_home_5]
    have rr : ∀ s : pm_H, s.1 133 22 = nI sz → s.1 140 = σ.1 140 → s.1 142 = σ.1 142 → xe (d + 4) 193 [.ref 133, .int (nI l)] s = pm_run (xe (d + 3)) pg_X12_home (22, [.ref 133, .int (nI l)], [.int (b32 (s_in (σ.1 5) (σ.1 24) l))], th0 s) := by
      intro s e1 e2 e3
      rw [en_X12_home, sg_X12_home_0, show pm_wI s 133 0 (nI 0) = th0 s from rfl, r_isL_y (d + 2) (th0 s) (by rw [th_f _ (by decide)]; exact e1) h3 hl]
      simp only [pm_cl_some, Option.toList_some, List.cons_append, List.nil_append]
      rw [sg_X12_home_10, if_neg n10, r_isOn (d + 2) (th0 s) rw_now (by omega), th_ne _ (by decide), th_ne _ (by decide), e2, e3, hmon]
      simp only [pm_cl_some, Option.toList_some, List.cons_append, List.nil_append]
    cases hin : s_in (σ.1 5) (σ.1 24) l with
    | false =>
      rw [hin] at rr
      refine ⟨.int (-1), σ, th0 σ, ?_, ?_, PostB_th h⟩
      · rw [if_pos (by decide)]
      · rw [rr σ h2 rfl rfl, sg_X12_home_22, if_pos (by decide)]
    | true =>
      rw [hin] at rr
      obtain ⟨rd, hrd, h0, h66⟩ := relM_rd h8 hl hin
      have hM := relM_on (t' := σ.1 138) (r' := σ.1 140) h3 (h5 (by omega)) h6 h7 (relM_leave h3 h8 hl)
      rw [if_neg (by decide), q_keepPast (d + 4) σ h10 h11 h12 h13]
      simp only [pm_cl_some, Option.toList_none, List.nil_append]
      have p3 := past_ne σ (a := a) (e := e) (show 3 ≠ 0 by omega) (show 3 ≠ 93 + e by omega)
      have p4 := past_ne σ (a := a) (e := e) (show 4 ≠ 0 by omega) (show 4 ≠ 93 + e by omega)
      have p5 := past_ne σ (a := a) (e := e) (show 5 ≠ 0 by omega) (show 5 ≠ 93 + e by omega)
      have p24 := past_ne σ (a := a) (e := e) (show 24 ≠ 0 by omega) (show 24 ≠ 93 + e by omega)
      rw [sg_X11_home_14, w_leave d _ st_23 h3 (by rw [p3]; exact h1) (show l < 6 by omega)]
      simp only [pm_cl_some, Option.toList_none, List.nil_append, Nat.reduceAdd, p4, p5, p24]
      rw [show pm_wC (x_past σ a e) 24 (g_on sz (σ.1 4) (σ.1 5) (upd (σ.1 24) (47 + l) (nI 1))) = x_act σ a e (g_on sz (σ.1 4) (σ.1 5) (upd (σ.1 24) (47 + l) (nI 1))) from rfl]
      generalize hf : g_on sz (σ.1 4) (σ.1 5) (upd (σ.1 24) (47 + l) (nI 1)) = f at hM ⊢
      rw [sg_X11_home_22, q_howManyIn (d + 2) _ st_23 (by rw [xa_ne σ f (by omega) (by omega) (by omega)]; exact h1) h3]
      simp only [pm_cl_some, Option.toList_some, List.cons_append, List.nil_append, Nat.reduceAdd]
      rw [sg_X11_home_29, xa_ne σ f (show 5 ≠ 0 by omega) (by omega) (by omega), show (x_act σ a e f).1 24 = f from wC_at _ _ _]
      obtain ⟨q142, q138, q140, qf⟩ := ma_c σ (a := a) f h11
      refine ⟨_, _, m_act σ a e f (h_on sz (σ.1 138) (σ.1 140) (upd (σ.1 142) (11 * l + 6) (nI 1))), rfl, ?_, act_post h f _ (relM_mono hM (Nat.le_succ k))⟩
      rw [rr _ (by rw [xa_ne σ f (by omega) (by omega) (by omega)]; exact h2) (xa_ne σ f (by omega) (by omega) (by omega)) (xa_ne σ f (by omega) (by omega) (by omega)), sg_X12_home_22, if_neg (by decide), r_remember (d + 2) _ h10 (by rw [th_f _ (by decide), xa_ne σ f (by omega) (by omega) (by omega)]; exact h14)]
      simp only [pm_cl_some, Option.toList_none, List.nil_append]
      rw [sg_X12_home_31]
      simp (disch := omega) only [pk_mul, nI_add, ck_n, nI_clamp, wI_wC, q142]
      rw [r_goesOn d _ rw_now h3 (by rw [wC_ne _ _ (by decide), qf 22 (by decide) (by decide)]; exact h2) (by
        rw [wC_at, up_ne _ _ (by omega), h66]
        rcases (show rd = 0 ∨ rd = 1 by omega) with rfl | rfl
        · exact Or.inl rfl
        · exact Or.inr (Or.inl rfl))]
      simp only [pm_cl_some, Option.toList_none, List.nil_append, wC_at, wC_wC, wC_ne _ _ (show 138 ≠ 142 by decide), wC_ne _ _ (show 140 ≠ 142 by decide), q138, q140]
      rw [sg_X12_home_52, r_howMany (d + 1) _ rw_now (by rw [wC_ne _ _ (by decide), qf 22 (by decide) (by decide)]; exact h2) h3]
      simp only [pm_cl_some, Option.toList_some, List.cons_append, List.nil_append, wC_at, wC_ne _ _ (show 140 ≠ 142 by decide), q140]
      rw [sg_X12_home_60, cnt_eq (fun i hi => relM_in (t := σ.1 4) (T := T) (h7 1 (by omega)) hM hi) sz 0 (by omega)]
      rfl
theorem b_change (d : Nat) {k sz n a e : Nat} {T R : Nat → Nat} {σ : pm_H} (h : RelB k sz T R n a e σ) (x y : Int32) : Both (d + 6) (d + 4) 183 188 [.int x, .int y] σ (PostB k sz T R σ) := by
  have hh := h
  obtain ⟨⟨h1, h2, h3, h4, h5, h6, h7⟩, ⟨h8, h9⟩, ⟨⟨h10, h11, h12, h13, h14⟩, h15⟩, -⟩ := hh
  unfold Both
  rw [en_X11_change, sg_X11_change_0]
  rcases ix_cases x h3 with hx | ⟨l, hl, rfl⟩
  · refine ⟨.int (-1), σ, th0 σ, ?_, ?_, PostB_th h⟩
    · rw [q_in_n (d + 3) σ h1 hx]
      simp only [pm_cl_some, Option.toList_some, List.cons_append, List.nil_append]
      rw [sg_X11_change_5, if_pos n00]
    · rw [en_X12_change, sg_X12_change_0, show pm_wI σ 133 0 (nI 0) = th0 σ from rfl, r_isL_n (d + 2) (th0 σ) (by rw [th_f _ (by decide)]; exact h2) hx]
      simp only [pm_cl_some, Option.toList_some, List.cons_append, List.nil_append]
      rw [sg_X12_change_15, if_pos n00]
  · have hmon := relM_in (t := σ.1 4) (T := T) (h7 1 (by omega)) h8 hl
    have hle := least_eq h8.2.2.1 hl
    obtain ⟨⟨c0, -, -, -, -⟩, c5, -⟩ := h8.2.2.1.2 l hl
    obtain ⟨⟨F, f1, f2, f3⟩, -⟩ := h8
    have hL := f2.2.2.2.2 l hl
    unfold okL at hL
    have f23 := f1 (23 + l) (by omega) (by omega)
    have f5 := f1 (5 + l) (by omega) (by omega)
    obtain ⟨lo, hlo, hlo1⟩ : ∃ lo, s_least (σ.1 24) l = nI lo ∧ 1 ≤ lo ∧ lo ≤ 104 := by
      unfold s_least
      rw [f1 (17 + l) (by omega) (by omega), f1 1 (by omega) (by omega)]
      have := f2.2.1
      by_cases c : nI (F (17 + l)) < nI (F 1)
      · rw [if_pos c]
        have := (nI_ltI (by omega) (by omega)).mp c
        exact ⟨_, rfl, by omega, by omega⟩
      · rw [if_neg c]
        exact ⟨_, rfl, by omega, by omega⟩
    rw [q_in_y (d + 2) σ h1 h3 hl]
    simp only [pm_cl_some, Option.toList_some, List.cons_append, List.nil_append]
    rw [sg_X11_change_5]
    have rr : ∀ s : pm_H, s.1 133 22 = nI sz → s.1 140 = σ.1 140 → s.1 142 = σ.1 142 → xe (d + 4) 188 [.ref 133, .int (nI l), .int y] s = pm_run (xe (d + 3)) pg_X12_change (27, [.ref 133, .int (nI l), .int y, .int (nI (11 * l))], [.int (b32 (s_in (σ.1 5) (σ.1 24) l))], th0 s) := by
      intro s e1 e2 e3
      rw [en_X12_change, sg_X12_change_0, show pm_wI s 133 0 (nI 0) = th0 s from rfl, r_isL_y (d + 2) (th0 s) (by rw [th_f _ (by decide)]; exact e1) h3 hl]
      simp only [pm_cl_some, Option.toList_some, List.cons_append, List.nil_append, pk_mul]
      rw [sg_X12_change_15, if_neg n10, r_isOn (d + 2) (th0 s) rw_now (by omega), th_ne _ (by decide), th_ne _ (by decide), e2, e3, hmon]
      simp only [pm_cl_some, Option.toList_some, List.cons_append, List.nil_append]
    cases hin : s_in (σ.1 5) (σ.1 24) l with
    | false =>
      rw [hin] at rr
      refine ⟨.int (-1), σ, th0 σ, ?_, ?_, PostB_th h⟩
      · rw [if_pos (by decide)]
      · rw [rr σ h2 rfl rfl, sg_X12_change_27, if_pos (by decide)]
    | true =>
      rw [hin] at rr
      have rr2 : ∀ s : pm_H, s.1 133 22 = nI sz → s.1 140 = σ.1 140 → s.1 142 = σ.1 142 → xe (d + 4) 188 [.ref 133, .int (nI l), .int y] s = pm_cl (xe (d + 3) 69 [.long y.toInt64, .long (nI lo).toInt64, .long (99 : Int64)] (th0 s)) (fun r => pm_run (xe (d + 3)) pg_X12_change (48, [.ref 133, .int (nI l), .int y, .int (nI (11 * l))], r.1.toList ++ [], r.2)) := by
        intro s e1 e2 e3
        rw [rr s e1 e2 e3, sg_X12_change_27, if_neg (by decide), r_least (d + 2) (th0 s) rw_now (by omega), th_ne _ (by decide), e3, hle, hlo]
        simp only [pm_cl_some, Option.toList_some, List.cons_append, List.nil_append]
        rw [sg_X12_change_41]
      rw [if_neg (by decide)]
      rcases rng_cases y lo 99 (by omega) (by omega) with hy | ⟨j, hj1, hj2, rfl⟩
      · refine ⟨.int (-1), σ, th0 σ, ?_, ?_, PostB_th h⟩
        · by_cases c : nI 99 < y
          · rw [if_pos c]
          · have hy' := hy.resolve_right c
            rw [if_neg c, q_least (d + 4) σ st_23 (show l < 6 by omega)]
            simp only [pm_cl_some, Option.toList_some, List.cons_append, List.nil_append, Nat.reduceAdd, hlo]
            rw [sg_X11_change_23, if_pos hy']
        · rw [rr2 σ h2 rfl rfl, r_rng_n (d + 2) _ (a := lo) (H := 99) (b := 99) rfl (by decide) hy]
          simp only [pm_cl_some, Option.toList_some, List.cons_append, List.nil_append]
          rw [sg_X12_change_48, if_pos n00]
      · have rr3 : ∀ s : pm_H, s.1 133 22 = nI sz → s.1 140 = σ.1 140 → s.1 142 = σ.1 142 → xe (d + 4) 188 [.ref 133, .int (nI l), .int (nI j)] s = (if σ.1 24 (23 + l) = 0 then some (some (.int (-1)), th0 s) else (if σ.1 24 (5 + l) = nI j then some (some (.int (-1)), th0 s) else pm_cl (xe (d + 3) 178 [.ref 133] (th0 s)) (fun r => pm_run (xe (d + 3)) pg_X12_change (80, [.ref 133, .int (nI l), .int (nI j), .int (nI (11 * l))], r.1.toList ++ [], r.2)))) := by
          intro s e1 e2 e3
          rw [rr2 s e1 e2 e3, r_rng_y (d + 2) _ (a := lo) (H := 99) (b := 99) rfl (by decide) hj1 hj2 (by omega)]
          simp only [pm_cl_some, Option.toList_some, List.cons_append, List.nil_append]
          rw [sg_X12_change_48, if_neg n10]
          simp (disch := omega) only [nI_add, ck_n, nI_clamp, th_ne, e3, c0, c5]
        rw [if_neg (nI_nlt (by omega) (by omega)), q_least (d + 4) σ st_23 (show l < 6 by omega)]
        simp only [pm_cl_some, Option.toList_some, List.cons_append, List.nil_append, Nat.reduceAdd, hlo]
        rw [sg_X11_change_23, if_neg (nI_nlt (by omega) (by omega)), q_of (d + 4) σ st_23 (show 23 + l < 71 by omega)]
        simp only [pm_cl_some, Option.toList_some, List.cons_append, List.nil_append, Nat.reduceAdd]
        rw [sg_X11_change_36]
        by_cases c23 : F (23 + l) = 0
        · have z : σ.1 24 (23 + l) = 0 := by rw [f23, c23]; rfl
          refine ⟨.int (-1), σ, th0 σ, ?_, ?_, PostB_th h⟩
          · rw [z, if_neg (by decide)]
          · rw [rr3 σ h2 rfl rfl, if_pos z]
        · have zp : 0 < σ.1 24 (23 + l) := by rw [f23, ← nI_0]; exact nI_lt (by omega) (by omega)
          have z : ¬ σ.1 24 (23 + l) = 0 := fun z => by rw [z] at zp; exact Int32.lt_irrefl zp
          rw [if_pos zp, q_of (d + 4) σ st_23 (show 5 + l < 71 by omega)]
          simp only [pm_cl_some, Option.toList_some, List.cons_append, List.nil_append, Nat.reduceAdd]
          rw [sg_X11_change_49]
          by_cases c5' : σ.1 24 (5 + l) = nI j
          · refine ⟨.int (-1), σ, th0 σ, ?_, ?_, PostB_th h⟩
            · rw [if_pos c5'.symm]
            · rw [rr3 σ h2 rfl rfl, if_neg z, if_pos c5']
          · rw [if_neg (fun e => c5' e.symm), q_keepPast (d + 4) σ h10 h11 h12 h13]
            simp only [pm_cl_some, Option.toList_none, List.nil_append]
            have p24 := past_ne σ (a := a) (e := e) (show 24 ≠ 0 by omega) (show 24 ≠ 93 + e by omega)
            rw [sg_X11_change_58, w_ask (d + 4) _ st_23 (show l < 6 by omega)]
            simp only [pm_cl_some, Option.toList_none, List.nil_append, Nat.reduceAdd, p24]
            rw [sg_X11_change_67, w_takeChange (d + 4) _ st_23 (show l < 6 by omega)]
            simp only [pm_cl_some, Option.toList_some, List.cons_append, List.nil_append, Nat.reduceAdd, wC_at, wC_wC]
            rw [sg_X11_change_75]
            simp (disch := omega) only [up_ne]
            have ev : σ.1 24 (23 + l) - nI 1 = nI (F (23 + l) - 1) := by rw [f23, pk_sub (by omega)]
            rw [ev]
            have hM := relM_chg (v := F (23 + l) - 1) h3 (relM_ask (v := j) h3 h.2.1.1 hl (by omega) (by omega)) hl (by omega)
            rw [show pm_wC (x_past σ a e) 24 (upd (upd (σ.1 24) (5 + l) (nI j)) (23 + l) (nI (F (23 + l) - 1))) = x_act σ a e (upd (upd (σ.1 24) (5 + l) (nI j)) (23 + l) (nI (F (23 + l) - 1))) from rfl]
            generalize upd (upd (σ.1 24) (5 + l) (nI j)) (23 + l) (nI (F (23 + l) - 1)) = f at hM ⊢
            obtain ⟨q142, q138, q140, qf⟩ := ma_c σ (a := a) f h11
            refine ⟨_, _, m_act σ a e f (upd (upd (σ.1 142) (11 * l + 0) (nI j)) (11 * l + 5) (nI (F (23 + l) - 1))), rfl, ?_, act_post h f _ (relM_mono hM (Nat.le_succ k))⟩
            rw [rr3 _ (by rw [xa_ne σ f (by omega) (by omega) (by omega)]; exact h2) (xa_ne σ f (by omega) (by omega) (by omega)) (xa_ne σ f (by omega) (by omega) (by omega)), if_neg z, if_neg c5', r_remember (d + 2) _ h10 (by rw [th_f _ (by decide), xa_ne σ f (by omega) (by omega) (by omega)]; exact h14)]
            simp only [pm_cl_some, Option.toList_none, List.nil_append]
            rw [sg_X12_change_80]
            simp (disch := omega) only [nI_add, ck_n, nI_clamp, wI_wC, wC_at, wC_wC, up_ne, q142, c5, ev]
            rw [sg_X12_change_101]
            simp (disch := omega) only [nI_add, ck_n, nI_clamp, wC_at, up_at]
            rfl

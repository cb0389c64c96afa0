/-! ===== NOW ===== -/
def mo_ok (u : Nat) : Prop := pm_kd u = .inr (7, [6, 0, 0, 0, 0, 0, 0])
theorem mo_91 : mo_ok 91 := rfl
theorem mo_42 : mo_ok 42 := rfl
theorem mo_77 : mo_ok 77 := rfl
theorem mo_ne {u q : Nat} (hu : mo_ok u) (h : pm_kd q ≠ .inr (7, [6, 0, 0, 0, 0, 0, 0])) : q ≠ u := fun e => h (by rw [e]; exact hu)
theorem mo_4 {u : Nat} (hu : mo_ok u) : 4 ≠ u := mo_ne hu (by rw [kd_4]; exact fun h => by cases h)
theorem mo_st {u c : Nat} (hu : mo_ok u) (hc : st_ok c) : c + 1 ≠ u := mo_ne hu (by rw [hc.2]; exact fun h => by cases h)
def g_take (t f g : Nat → Int32) (l : Nat) : Nat → Int32 :=
  upd (upd (upd (upd (upd (upd g 1 (nI l)) 2 (if f 0 = 0 then t (l * 10 + 0) else t (l * 10 + 1))) 3 (f (29 + l))) 4 (f (35 + l))) 5 (f (11 + l))) 6 (f 2 - f (41 + l))
theorem w_take (d : Nat) (σ : pm_H) {u c l : Nat} (hu : mo_ok u) (hc : st_ok c) (hl : l < 6) : xe (d + 2) 128 [.ref u, .ref c, .int (nI l)] σ = some (none, pm_wC σ u (g_take (σ.1 4) (σ.1 (c + 1)) (σ.1 u) l)) := by
  have n4 := mo_4 hu
  have nc := mo_st hu hc
  rw [en_X7_take, sg_X7_take_0 hu hc.1 hc.2, q_round d _ hc, wI_wC, wC_ne _ _ nc]
  simp only [pm_cl_some, Option.toList_some, List.cons_append, List.nil_append]
  rw [sg_X7_take_14 hu hc.1 hc.2]
  unfold g_take
  have step : ∀ v : Int32, pm_run (xe (d + 1)) pg_X7_take (26, [.ref u, .ref c, .int (nI l)], [.int v, .ref u], pm_wC σ u (upd (σ.1 u) 1 (nI l))) = some (none, pm_wC σ u (upd (upd (upd (upd (upd (upd (σ.1 u) 1 (nI l)) 2 v) 3 (σ.1 (c + 1) (29 + l))) 4 (σ.1 (c + 1) (35 + l))) 5 (σ.1 (c + 1) (11 + l))) 6 (σ.1 (c + 1) 2 - σ.1 (c + 1) (41 + l)))) := by
    intro v
    rw [sg_X7_take_26 hu hc.1 hc.2, q_of d _ hc (show 29 + l < 71 by omega)]
    simp only [pm_cl_some, Option.toList_some, List.cons_append, List.nil_append, wI_wC, wC_at, wC_wC, wC_ne _ _ nc]
    rw [sg_X7_take_37 hu hc.1 hc.2, q_of d _ hc (show 35 + l < 71 by omega)]
    simp only [pm_cl_some, Option.toList_some, List.cons_append, List.nil_append, wI_wC, wC_at, wC_wC, wC_ne _ _ nc]
    rw [sg_X7_take_48 hu hc.1 hc.2, q_of d _ hc (show 11 + l < 71 by omega)]
    simp only [pm_cl_some, Option.toList_some, List.cons_append, List.nil_append, wI_wC, wC_at, wC_wC, wC_ne _ _ nc]
    rw [sg_X7_take_59 hu hc.1 hc.2, q_waited d _ hc hl]
    simp only [pm_cl_some, Option.toList_some, List.cons_append, List.nil_append, wI_wC, wC_at, wC_wC, wC_ne _ _ nc]
    rw [sg_X7_take_68 hu hc.1 hc.2]
    simp only [wI_wC, wC_at, wC_wC]
  by_cases c0 : σ.1 (c + 1) 0 = 0
  · rw [if_pos c0, if_pos c0, q_hof d _ (by omega) hl, wC_ne _ _ n4]
    simp only [pm_cl_some, Option.toList_some, List.cons_append, List.nil_append]
    exact step _
  · rw [if_neg c0, if_neg c0, q_hof d _ (by omega) hl, wC_ne _ _ n4]
    simp only [pm_cl_some, Option.toList_some, List.cons_append, List.nil_append]
    exact step _
def nowX (ti co can warm lifts waited : Int32) : Int32 :=
  ((can + (if warm < nI 5 then warm else nI 5)) - ti * lifts) - co * (if nI 0 < waited - nI 2 then waited - nI 2 else nI 0)
theorem q_strength (d : Nat) (σ : pm_H) {u l : Nat} (hu : mo_ok u) (hl : l < 6) (h1 : σ.1 u 1 = nI l) : xe (d + 2) 130 [.ref u] σ = some (some (.int (nowX (σ.1 4 (l * 10 + 4)) (σ.1 4 (l * 10 + 5)) (σ.1 u 2) (σ.1 u 3) (σ.1 u 4) (σ.1 u 6))), σ) := by
  rw [en_X7_strength, sg_X7_strength_0 hu, h1, q_hof d σ (by omega) hl]
  simp only [pm_cl_some, Option.toList_some, List.cons_append, List.nil_append]
  rw [sg_X7_strength_25 hu, h1, q_hof d σ (by omega) hl]
  simp only [pm_cl_some, Option.toList_some, List.cons_append, List.nil_append]
  rw [sg_X7_strength_43 hu]
  rfl
def s_now (t f : Nat → Int32) (l : Nat) : Int32 := nowX (t (l * 10 + 4)) (t (l * 10 + 5)) (if f 0 = 0 then t (l * 10 + 0) else t (l * 10 + 1)) (f (29 + l)) (f (35 + l)) (f 2 - f (41 + l))
theorem q_nowOf (d : Nat) (σ : pm_H) {l : Nat} (hl : l < 6) : xe (d + 3) 127 [.ref 0, .int (nI l)] σ = some (some (.int (s_now (σ.1 4) (σ.1 24) l)), pm_wC σ 91 (g_take (σ.1 4) (σ.1 24) (σ.1 91) l)) := by
  rw [en_X11_nowOf, sg_X11_nowOf_0, w_take d σ mo_91 st_23 hl]
  simp only [pm_cl_some, Option.toList_none, List.nil_append, Nat.reduceAdd]
  rw [sg_X11_nowOf_12, q_strength d _ mo_91 hl (by rw [wC_at]; unfold g_take; simp (disch := omega) only [up_ne, up_at])]
  simp only [pm_cl_some, Option.toList_some, List.cons_append, List.nil_append, wC_at]
  rw [sg_X11_nowOf_19, wC_ne _ _ (by decide)]
  unfold g_take s_now
  simp (disch := omega) only [up_ne, up_at]
/-! ===== the reference's ===== -/
theorem r_nowBy (d : Nat) (σ : pm_H) {l : Nat} (hl : l < 6) (a b c e : Int32) : xe (d + 1) 140 [.ref 133, .int (nI l), .int a, .int b, .int c, .int e] σ = some (some (.int (nowX (σ.1 138 (10 * l + 4)) (σ.1 138 (10 * l + 5)) a b c e)), σ) := by
  rw [en_X12_nowBy, sg_X12_nowBy_0]
  simp (disch := omega) only [pk_mul, nI_add, ck_n, nI_clamp]
  rfl
def m_can (t w : Nat → Int32) (l : Nat) : Int32 := if w 66 = 0 then t (10 * l + 0) else t (10 * l + 1)
theorem r_canOf (d : Nat) (σ : pm_H) {q l : Nat} (hq : rw_ok q) (hl : l < 6) : xe (d + 1) 139 [.ref 133, .ref q, .int (nI l)] σ = some (some (.int (m_can (σ.1 138) (σ.1 q) l)), σ) := by
  rw [en_X12_canOf, sg_X12_canOf_0 hq]
  simp (disch := omega) only [pk_mul, nI_add, ck_n, nI_clamp]
  unfold m_can
  by_cases c : σ.1 q 66 = 0 <;> simp only [c, if_true, if_false]
theorem r_waitedOf (d : Nat) (σ : pm_H) {q l : Nat} (hq : rw_ok q) (hl : l < 6) : xe (d + 1) 137 [.ref 133, .ref q, .int (nI l)] σ = some (some (.int (σ.1 q 68 - σ.1 q (11 * l + 8))), σ) := by
  rw [en_X12_waitedOf, sg_X12_waitedOf_0 hq]
  simp (disch := omega) only [pk_mul, nI_add, ck_n, nI_clamp]
def m_now (t w : Nat → Int32) (l : Nat) : Int32 := nowX (t (10 * l + 4)) (t (10 * l + 5)) (m_can t w l) (w (11 * l + 7)) (w (11 * l + 9)) (w 68 - w (11 * l + 8))
theorem r_nowOf (d : Nat) (σ : pm_H) {q l : Nat} (hq : rw_ok q) (hl : l < 6) : xe (d + 2) 138 [.ref 133, .ref q, .int (nI l)] σ = some (some (.int (m_now (σ.1 138) (σ.1 q) l)), σ) := by
  rw [en_X12_nowOf, sg_X12_nowOf_0 hq, r_canOf d σ hq hl]
  simp only [pm_cl_some, Option.toList_some, List.cons_append, List.nil_append]
  rw [sg_X12_nowOf_8 hq, r_waitedOf d σ hq hl]
  simp (disch := omega) only [pm_cl_some, Option.toList_some, List.cons_append, List.nil_append, pk_mul, nI_add, ck_n, nI_clamp]
  rw [sg_X12_nowOf_32 hq, r_nowBy d σ hl]
  simp only [pm_cl_some, Option.toList_some, List.cons_append, List.nil_append]
  rw [sg_X12_nowOf_35 hq]
  rfl
theorem now_eq {sz : Nat} {t t' f w : Nat → Int32} (hr : relW sz f w) {l : Nat} (hl : l < sz) (ht : ∀ l, l < sz → ∀ j, j < 10 → t' (10 * l + j) = t (l * 10 + j)) : m_now t' w l = s_now t f l := by
  unfold m_now s_now m_can
  obtain ⟨⟨c0, c1, c2, c3, c4⟩, c5, c6, c7, c8, c9⟩ := hr.2 l hl
  rw [ht l hl 4 (by omega), ht l hl 5 (by omega), ht l hl 0 (by omega), ht l hl 1 (by omega), hr.1.1, hr.1.2.2.1, c7, c8, c9]
/-! ===== warm ===== -/
theorem wC_sameB (σ : pm_H) {c : Nat} (f : Nat → Int32) (h : kpB c = false) (h1 : c ≠ 133) : sameB σ (pm_wC σ c f) := sameB_w σ f h h1
theorem b_warm (d : Nat) {k sz n a e : Nat} {T R : Nat → Nat} {σ : pm_H} (h : RelB k sz T R n a e σ) (x : Int32) : Both (d + 4) (d + 3) 194 196 [.int x] σ (PostB k sz T R σ) := by
  have hh := h
  obtain ⟨⟨h1, h2, h3, h4, h5, h6, h7⟩, ⟨h8, h9⟩, ⟨⟨h10, h11, h12, h13, h14⟩, h15⟩, -⟩ := hh
  unfold Both
  rw [en_X11_warm, sg_X11_warm_0]
  rcases ix_cases x h3 with hx | ⟨l, hl, rfl⟩
  · refine ⟨.int (-1), σ, th0 σ, ?_, ?_, PostB_th h⟩
    · rw [q_in_n (d + 1) σ h1 hx]
      simp only [pm_cl_some, Option.toList_some, List.cons_append, List.nil_append]
      rw [sg_X11_warm_5, if_pos n00]
    · rw [en_X12_warm, sg_X12_warm_0, show pm_wI σ 133 0 (nI 0) = th0 σ from rfl, r_isL_n (d + 1) (th0 σ) (by rw [th_f _ (by decide)]; exact h2) hx]
      simp only [pm_cl_some, Option.toList_some, List.cons_append, List.nil_append]
      rw [sg_X12_warm_10, if_pos n00]
  · have hmon := relM_in (t := σ.1 4) (T := T) (h7 1 (by omega)) h8 hl
    rw [q_in_y d σ h1 h3 hl]
    simp only [pm_cl_some, Option.toList_some, List.cons_append, List.nil_append]
    rw [sg_X11_warm_5]
    have rr : ∀ s : pm_H, s.1 133 22 = nI sz → s.1 140 = σ.1 140 → s.1 142 = σ.1 142 → xe (d + 3) 196 [.ref 133, .int (nI l)] s = pm_run (xe (d + 2)) pg_X12_warm (22, [.ref 133, .int (nI l)], [.int (b32 (s_in (σ.1 5) (σ.1 24) l))], th0 s) := by
      intro s e1 e2 e3
      rw [en_X12_warm, sg_X12_warm_0, show pm_wI s 133 0 (nI 0) = th0 s from rfl, r_isL_y (d + 1) (th0 s) (by rw [th_f _ (by decide)]; exact e1) h3 hl]
      simp only [pm_cl_some, Option.toList_some, List.cons_append, List.nil_append]
      rw [sg_X12_warm_10, if_neg n10, r_isOn (d + 1) (th0 s) rw_now (by omega), th_ne _ (by decide), th_ne _ (by decide), e2, e3, hmon]
      simp only [pm_cl_some, Option.toList_some, List.cons_append, List.nil_append]
    cases hin : s_in (σ.1 5) (σ.1 24) l with
    | false =>
      rw [hin] at rr
      refine ⟨.int (-1), σ, th0 σ, ?_, ?_, PostB_th h⟩
      · rw [if_pos bf0]
      · rw [rr σ h2 rfl rfl, sg_X12_warm_22, if_pos bf0]
    | true =>
      rw [hin] at rr
      have hM := relM_warm h3 h8 hl
      rw [if_neg bt0, q_keepPast (d + 2) σ h10 h11 h12 h13]
      simp only [pm_cl_some, Option.toList_none, List.nil_append]
      have p4 := past_ne σ (a := a) (e := e) (show 4 ≠ 0 by omega) (show 4 ≠ 93 + e by omega)
      have p24 := past_ne σ (a := a) (e := e) (show 24 ≠ 0 by omega) (show 24 ≠ 93 + e by omega)
      rw [sg_X11_warm_14, w_warmUp (d + 2) _ st_23 (show l < 6 by omega)]
      simp only [pm_cl_some, Option.toList_none, List.nil_append, Nat.reduceAdd, p24]
      rw [show pm_wC (x_past σ a e) 24 (g_warm (σ.1 24) l) = x_act σ a e (g_warm (σ.1 24) l) from rfl]
      rw [sg_X11_warm_22, q_nowOf d _ (show l < 6 by omega)]
      simp only [pm_cl_some, Option.toList_some, List.cons_append, List.nil_append]
      rw [sg_X11_warm_27, xa_ne σ _ (show 4 ≠ 0 by omega) (by omega) (by omega), show (x_act σ a e (g_warm (σ.1 24) l)).1 24 = g_warm (σ.1 24) l from wC_at _ _ _]
      have hnow := now_eq (t := σ.1 4) (t' := σ.1 138) hM.2.2.1 hl h6
      generalize hf : g_warm (σ.1 24) l = f at hM hnow ⊢
      obtain ⟨q142, q138, q140, qf⟩ := ma_c σ (a := a) f h11
      generalize hg : g_take (σ.1 4) f ((x_act σ a e f).1 91) l = g
      have n91 : (91 : Nat) ≠ 133 := by decide
      -- the reference over the class's state, its moment apart
      have hcm : ∀ s : pm_H, m_past (th0 (pm_wC s 91 g)) a = pm_wC (m_past (th0 s) a) 91 g := by
        intro s
        unfold m_past th0
        simp (disch := omega) only [wI_wC, wC_ne, wC_at]
        rw [wC_cm s _ _ (show 91 ≠ 133 by decide), wC_cm _ _ _ (show 91 ≠ 146 by decide), wC_cm _ _ _ (show 91 ≠ 133 by decide)]
      have hpost := act_post h f (h_warm (σ.1 142) l) hM
      refine ⟨_, _, pm_wC (m_act σ a e f (h_warm (σ.1 142) l)) 91 g, rfl, ?_, ?_⟩
      · rw [rr _ (by rw [wC_ne _ _ (by decide), xa_ne σ f (by omega) (by omega) (by omega)]; exact h2) (by rw [wC_ne _ _ (by decide), xa_ne σ f (by omega) (by omega) (by omega)]) (by rw [wC_ne _ _ (by decide), xa_ne σ f (by omega) (by omega) (by omega)]), sg_X12_warm_22, if_neg bt0, r_remember (d + 1) _ h10 (by rw [th_f _ (by decide), wC_ne _ _ (by decide), xa_ne σ f (by omega) (by omega) (by omega)]; exact h14), hcm]
        simp only [pm_cl_some, Option.toList_none, List.nil_append]
        rw [sg_X12_warm_31]
        simp (disch := omega) only [pk_mul, nI_add, ck_n, nI_clamp, wI_wC, wC_at, wC_wC, up_ne, wC_ne _ _ (show 142 ≠ 91 by decide), q142]
        rw [sg_X12_warm_73]
        simp (disch := omega) only [pk_mul, nI_add, ck_n, nI_clamp, wI_wC, wC_at, wC_wC, up_at]
        rw [r_nowOf d _ rw_now (by omega)]
        simp only [pm_cl_some, Option.toList_some, List.cons_append, List.nil_append, wC_at, wC_ne _ _ (show 138 ≠ 142 by decide), wC_ne _ _ (show 138 ≠ 91 by decide), q138]
        rw [sg_X12_warm_101]
        have hw : upd (upd (upd (σ.1 142) (11 * l + 7) (if σ.1 142 (11 * l + 7) + nI 1 < nI 9 then σ.1 142 (11 * l + 7) + nI 1 else nI 9)) 68 (σ.1 142 68 + nI 1)) (11 * l + 8) (σ.1 142 68 + nI 1) = h_warm (σ.1 142) l := rfl
        rw [hw, hnow, wC_cm _ _ _ (show 91 ≠ 142 by decide)]
        rfl
      · obtain ⟨⟨n', a', e', hr⟩, hl', ho'⟩ := hpost
        exact ⟨⟨n', a', e', RelB_same hr (sameB_w _ g (by decide) (by decide))⟩, sameL_tr hl' (sameL_w _ g (by decide) (by decide) (by decide)), sameO_tr ho' (sameO_w _ g (by decide))⟩

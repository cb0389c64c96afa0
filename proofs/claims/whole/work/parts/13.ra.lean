/-! ===== yields, waits, needs ===== -/
theorem PostB_q {k sz n a e : Nat} {T R : Nat → Nat} {σ σ' : pm_H} (h : RelB k sz T R n a e σ) (s : sameB σ σ') (sL : sameL σ σ') (sO : sameO σ σ') : PostB k sz T R σ σ' :=
  ⟨⟨n, a, e, RelB_mono (RelB_same h s) (Nat.le_succ k)⟩, sL, sO⟩
/-- the class's trial and the reference's have changed, nothing else -/
theorem PostB_tr {k sz n a e : Nat} {T R : Nat → Nat} {σ : pm_H} (h : RelB k sz T R n a e σ) (f g : Nat → Int32) : PostB k sz T R σ (pm_wC (th0 (pm_wC σ 26 f)) 143 g) :=
  PostB_q h (sameB_tr (sameB_tr (sameB_w σ f (by decide) (by decide)) (th0_B _)) (sameB_w _ g (by decide) (by decide)))
    (sameL_tr (sameL_tr (sameL_w σ f (by decide) (by decide) (by decide)) (th0_L _)) (sameL_w _ g (by decide) (by decide) (by decide)))
    (sameO_tr (sameO_tr (sameO_w σ f (by decide)) (th0_O _)) (sameO_w _ g (by decide)))
theorem PostB_t1 {k sz n a e : Nat} {T R : Nat → Nat} {σ : pm_H} (h : RelB k sz T R n a e σ) (f : Nat → Int32) : PostB k sz T R σ (th0 (pm_wC σ 26 f)) :=
  PostB_q h (sameB_tr (sameB_w σ f (by decide) (by decide)) (th0_B _)) (sameL_tr (sameL_w σ f (by decide) (by decide) (by decide)) (th0_L _)) (sameO_tr (sameO_w σ f (by decide)) (th0_O _))
/-- what the reference reads -/
def RR (σ σ' : pm_H) : Prop := σ'.1 133 22 = σ.1 133 22 ∧ σ'.1 138 = σ.1 138 ∧ σ'.1 140 = σ.1 140 ∧ σ'.1 142 = σ.1 142
theorem RR_t {σ : pm_H} (f : Nat → Int32) : RR σ (th0 (pm_wC σ 26 f)) := ⟨by rw [th_f _ (by decide), wC_ne _ _ (by decide)], by rw [th_ne _ (by decide), wC_ne _ _ (by decide)], by rw [th_ne _ (by decide), wC_ne _ _ (by decide)], by rw [th_ne _ (by decide), wC_ne _ _ (by decide)]⟩
theorem s_ah_ext {f f' : Nat → Int32} {i j : Nat} (hi : i < 6) (hj : j < 6) (h : ∀ j, j < 71 → f' j = f j) : s_ah f' i j = s_ah f i j := by
  unfold s_ah
  rw [h (5 + i) (by omega), h (5 + j) (by omega), h (11 + i) (by omega), h (11 + j) (by omega)]
theorem m_ah_ext {f f' : Nat → Int32} {i j : Nat} (hi : i < 6) (hj : j < 6) (h : ∀ j, j < 71 → f' j = f j) : m_ah f' i j = m_ah f i j := by
  unfold m_ah
  rw [h (11 * i + 0) (by omega), h (11 * j + 0) (by omega), h (11 * i + 1) (by omega), h (11 * j + 1) (by omega)]
theorem lp_yields (dx d : Nat) {k sz n a e : Nat} {T R : Nat → Nat} {σ : pm_H} (h : RelB k sz T R n a e σ) {l o : Nat} (hl : l < sz) (ho : o < sz) : ∀ (m w : Nat) (f g : Nat → Int32), w + m = 100 → 1 ≤ w → (∀ j, j < 71 → j ≠ 5 + l → f j = σ.1 24 j) → ∃ v f' g', pm_run (xe (dx + 1)) pg_X11_yields (43, [.ref 0, .int (nI l), .int (nI o), .int (nI w)], [], pm_wC σ 26 f) = some (some (.int v), pm_wC σ 26 f') ∧ ∀ σ', RR σ σ' → pm_run (xe (d + 1)) pg_X12_yields (62, [.ref 133, .int (nI l), .int (nI o), .int (nI w)], [], pm_wC σ' 143 g) = some (some (.int v), pm_wC σ' 143 g')
  | 0, w, f, g, hm, hw, hf => by
    refine ⟨-1, f, g, ?_, fun σ' hR => ?_⟩
    · rw [sg_X11_yields_43, if_pos (nI_lt (by omega) (by omega))]
    · rw [sg_X12_yields_62, if_pos (nI_lt (by omega) (by omega))]
  | m + 1, w, f, g, hm, hw, hf => by
    have h8 := h.2.1.1
    have h3 := h.1.2.2.1
    have h4 := h.1.2.2.2.1
    obtain ⟨hn36, -, hw70⟩ := relM_n h3 h4 h8
    have hM := relM_ask (v := w) h3 h8 hl hw (by omega)
    have hf2 : ∀ j, j < 71 → upd f (5 + l) (nI w) j = upd (σ.1 24) (5 + l) (nI w) j := fun j hj => by
      by_cases c : j = 5 + l
      · subst c; rw [up_at, up_at]
      · rw [up_ne _ _ c, up_ne _ _ c, hf j hj c]
    have hg2 : ∀ j, j < 71 → upd (u_copy (σ.1 142) g n) (11 * l + 0) (nI w) j = upd (σ.1 142) (11 * l + 0) (nI w) j := fun j hj => by
      by_cases c : j = 11 * l + 0
      · subst c; rw [up_at, up_at]
      · rw [up_ne _ _ c, up_ne _ _ c]
        unfold u_copy
        rw [if_pos (by omega)]
    have hsm := relM_sm h3 h4 hM
    have hsm' : ∀ i, i < sz → m_sm (upd (u_copy (σ.1 142) g n) (11 * l + 0) (nI w)) i := fun i hi => by
      have := hsm i hi
      unfold m_sm at this ⊢
      rw [hg2 _ (by omega), hg2 _ (by omega)]
      exact this
    obtain ⟨v, f', g', ih1, ih2⟩ := lp_yields dx d h hl ho m (w + 1) (upd f (5 + l) (nI w)) (upd (u_copy (σ.1 142) g n) (11 * l + 0) (nI w)) (by omega) (by omega) (fun j hj hne => by rw [up_ne _ _ hne]; exact hf j hj hne)
    have eah : m_ah (upd (u_copy (σ.1 142) g n) (11 * l + 0) (nI w)) o l = s_ah (upd f (5 + l) (nI w)) o l := by
      rw [m_ah_ext (by omega) (by omega) hg2, s_ah_ext (by omega) (by omega) hf2, ah_ah hM.2.2.1 ho hl]
    have cls : pm_run (xe (dx + 1)) pg_X11_yields (43, [.ref 0, .int (nI l), .int (nI o), .int (nI w)], [], pm_wC σ 26 f) = if b32 (s_ah (upd f (5 + l) (nI w)) o l) = 0 then pm_run (xe (dx + 1)) pg_X11_yields (43, [.ref 0, .int (nI l), .int (nI o), .int (nI (w + 1))], [], pm_wC σ 26 (upd f (5 + l) (nI w))) else some (some (.int (nI w)), pm_wC σ 26 (upd f (5 + l) (nI w))) := by
      rw [sg_X11_yields_43, if_neg (nI_nlt (by omega) (by omega)), w_ask dx _ st_25 (by omega)]
      simp only [pm_cl_some, Option.toList_none, List.nil_append, Nat.reduceAdd, wC_at, wC_wC]
      rw [sg_X11_yields_58, q_isAhead dx _ st_25 (by omega) (by omega)]
      simp only [pm_cl_some, Option.toList_some, List.cons_append, List.nil_append, Nat.reduceAdd, wC_at]
      rw [sg_X11_yields_67, nI_add]
    have ref : ∀ σ', RR σ σ' → pm_run (xe (d + 1)) pg_X12_yields (62, [.ref 133, .int (nI l), .int (nI o), .int (nI w)], [], pm_wC σ' 143 g) = if b32 (s_ah (upd f (5 + l) (nI w)) o l) = 0 then pm_run (xe (d + 1)) pg_X12_yields (62, [.ref 133, .int (nI l), .int (nI o), .int (nI (w + 1))], [], pm_wC σ' 143 (upd (u_copy (σ.1 142) g n) (11 * l + 0) (nI w))) else some (some (.int (nI w)), pm_wC σ' 143 (upd (u_copy (σ.1 142) g n) (11 * l + 0) (nI w))) := by
      intro σ' hR
      rw [sg_X12_yields_62, if_neg (nI_nlt (by omega) (by omega)), r_copy d _ rw_now rw_trial (by decide) hn36 (by rw [wC_ne _ _ (by decide), hR.2.2.2]; exact hw70), wC_ne _ _ (by decide), wC_at, wC_wC, hR.2.2.2]
      simp only [pm_cl_some, Option.toList_none, List.nil_append]
      rw [sg_X12_yields_79]
      simp (disch := omega) only [pk_mul, nI_add, ck_n, nI_clamp, wI_wC, wC_at, wC_wC]
      rw [r_isAheadOf d _ rw_trial (by omega) (by omega) (by rw [wC_at]; exact hsm' o ho) (by rw [wC_at]; exact hsm' l hl)]
      simp only [pm_cl_some, Option.toList_some, List.cons_append, List.nil_append, wC_at, eah]
      rw [sg_X12_yields_101, nI_add]
    cases hc : s_ah (upd f (5 + l) (nI w)) o l
    · simp only [hc, if_pos bf0] at cls ref
      exact ⟨v, f', g', by rw [cls]; exact ih1, fun σ' hR => by rw [ref σ' hR]; exact ih2 σ' hR⟩
    · simp only [hc, if_neg bt0] at cls ref
      exact ⟨_, _, _, cls, ref⟩
theorem rel_lo {k sz n R1 : Nat} {r f w : Nat → Int32} {lg : Nat → Nat → Int32} (hs : sz ≤ 6) (h : relM k sz r R1 f lg w n) {l : Nat} (hl : l < sz) : ∃ lo, s_least f l = nI lo ∧ 1 ≤ lo ∧ lo ≤ 104 := by
  obtain ⟨⟨F, f1, f2, f3⟩, -⟩ := h
  have hL := f2.2.2.2.2 l hl
  unfold okL at hL
  unfold s_least
  rw [f1 (17 + l) (by omega) (by omega), f1 1 (by omega) (by omega)]
  have := f2.2.1
  by_cases c : nI (F (17 + l)) < nI (F 1)
  · rw [if_pos c]
    have := (nI_ltI (by omega) (by omega)).mp c
    exact ⟨_, rfl, by omega, by omega⟩
  · rw [if_neg c]
    exact ⟨_, rfl, by omega, by omega⟩
/-- who is in asks for no less than 1, no more than 99 -/
theorem rel_lo99 {k sz n : Nat} {t r f w : Nat → Int32} {T R : Nat → Nat} {lg : Nat → Nat → Int32} (hs : sz ≤ 6) (ht : okT sz t r T R) (h : relM k sz r (R 1) f lg w n) {l : Nat} (hl : l < sz) (hin : s_in r f l = true) : ∃ lo, s_least f l = nI lo ∧ 1 ≤ lo ∧ lo ≤ 99 := by
  obtain ⟨⟨F, f1, f2, f3⟩, -⟩ := h
  have hL := f2.2.2.2.2 l hl
  obtain ⟨-, -, n3⟩ := (in_N hs ht f1 f2 hl).mp hin
  unfold okL at hL
  unfold s_least
  rw [f1 (17 + l) (by omega) (by omega), f1 1 (by omega) (by omega)]
  have := f2.2.1
  by_cases c : nI (F (17 + l)) < nI (F 1)
  · rw [if_pos c]
    have := (nI_ltI (by omega) (by omega)).mp c
    exact ⟨_, rfl, by omega, by omega⟩
  · rw [if_neg c]
    exact ⟨_, rfl, by omega, by omega⟩
theorem b_yields (d : Nat) {k sz n a e : Nat} {T R : Nat → Nat} {σ : pm_H} (h : RelB k sz T R n a e σ) (x y : Int32) : Both (d + 4) (d + 2) 302 303 [.int x, .int y] σ (PostB k sz T R σ) := by
  have hh := h
  obtain ⟨⟨h1, h2, h3, h4, h5, h6, h7⟩, ⟨h8, h9⟩, -⟩ := hh
  have hz : ∀ f, (th0 (pm_wC σ 26 f)).1 133 22 = nI sz := fun f => by rw [th_f _ (by decide), wC_ne _ _ (by decide)]; exact h2
  unfold Both
  rw [en_X11_yields, sg_X11_yields_0]
  have s0 : σ = pm_wC σ 26 (σ.1 26) := (wC_self σ 26).symm
  have rr0 : ∀ f, xe (d + 2) 303 [.ref 133, .int x, .int y] (pm_wC σ 26 f) = pm_cl (xe (d + 1) 132 [.ref 133, .int x] (th0 (pm_wC σ 26 f))) (fun r => pm_run (xe (d + 1)) pg_X12_yields (10, [.ref 133, .int x, .int y, .null], r.1.toList ++ [], r.2)) := fun f => by
    rw [en_X12_yields, sg_X12_yields_0]
    rfl
  have fin : ∀ v f, xe (d + 2) 303 [.ref 133, .int x, .int y] (pm_wC σ 26 f) = some (some v, th0 (pm_wC σ 26 f)) → f = σ.1 26 → ∃ σ2, xe (d + 2) 303 [.ref 133, .int x, .int y] σ = some (some v, σ2) ∧ PostB k sz T R σ σ2 := fun v f hv hf => by
    subst hf
    rw [wC_self] at hv
    exact ⟨_, hv, PostB_th h⟩
  rcases ix_cases x h3 with hx | ⟨l, hl, rfl⟩
  · obtain ⟨σ2, e1, e2⟩ := fin (.int (-1)) (σ.1 26) (by
      rw [rr0, r_isL_n d _ (hz _) hx]
      simp only [pm_cl_some, Option.toList_some, List.cons_append, List.nil_append]
      rw [sg_X12_yields_10, if_pos n00]) rfl
    refine ⟨.int (-1), σ, σ2, ?_, e1, e2⟩
    rw [q_in_n (d + 1) σ h1 hx]
    simp only [pm_cl_some, Option.toList_some, List.cons_append, List.nil_append]
    rw [sg_X11_yields_5, if_pos n00]
  · rw [q_in_y d σ h1 h3 hl]
    simp only [pm_cl_some, Option.toList_some, List.cons_append, List.nil_append]
    rw [sg_X11_yields_5]
    have rr1 : ∀ f, xe (d + 2) 303 [.ref 133, .int (nI l), .int y] (pm_wC σ 26 f) = pm_cl (xe (d + 1) 132 [.ref 133, .int y] (th0 (pm_wC σ 26 f))) (fun r => pm_run (xe (d + 1)) pg_X12_yields (18, [.ref 133, .int (nI l), .int y, .null], r.1.toList ++ [], r.2)) := fun f => by
      rw [rr0 f, r_isL_y d _ (hz f) h3 hl]
      simp only [pm_cl_some, Option.toList_some, List.cons_append, List.nil_append]
      rw [sg_X12_yields_10, if_neg n10]
    rcases ix_cases y h3 with hy | ⟨o, ho, rfl⟩
    · obtain ⟨σ2, e1, e2⟩ := fin (.int (-1)) (σ.1 26) (by
        rw [rr1, r_isL_n d _ (hz _) hy]
        simp only [pm_cl_some, Option.toList_some, List.cons_append, List.nil_append]
        rw [sg_X12_yields_18, if_pos n00]) rfl
      refine ⟨.int (-1), σ, σ2, ?_, e1, e2⟩
      cases s_in (σ.1 5) (σ.1 24) l
      · rw [if_pos bf0]
      · rw [if_neg bt0, q_in_n (d + 1) σ h1 hy]
        simp only [pm_cl_some, Option.toList_some, List.cons_append, List.nil_append]
        rw [sg_X11_yields_13, if_pos n00]
    · have rr2 : ∀ f, xe (d + 2) 303 [.ref 133, .int (nI l), .int (nI o)] (pm_wC σ 26 f) = (if nI l = nI o then some (some (.int (-1)), th0 (pm_wC σ 26 f)) else pm_cl (xe (d + 1) 133 [.ref 133, .ref 142, .int (nI l)] (th0 (pm_wC σ 26 f))) (fun r => pm_run (xe (d + 1)) pg_X12_yields (35, [.ref 133, .int (nI l), .int (nI o), .null], r.1.toList ++ [], r.2))) := fun f => by
        rw [rr1 f, r_isL_y d _ (hz f) h3 ho]
        simp only [pm_cl_some, Option.toList_some, List.cons_append, List.nil_append]
        rw [sg_X12_yields_18, if_neg n10]
      have hml := relM_in (t := σ.1 4) (T := T) (h7 1 (by omega)) h8 hl
      have hmo := relM_in (t := σ.1 4) (T := T) (h7 1 (by omega)) h8 ho
      by_cases clo : l = o
      · obtain ⟨σ2, e1, e2⟩ := fin (.int (-1)) (σ.1 26) (by rw [rr2, if_pos (by rw [clo])]) rfl
        refine ⟨.int (-1), σ, σ2, ?_, e1, e2⟩
        cases s_in (σ.1 5) (σ.1 24) l
        · rw [if_pos bf0]
        · rw [if_neg bt0, q_in_y d σ h1 h3 ho]
          simp only [pm_cl_some, Option.toList_some, List.cons_append, List.nil_append]
          rw [sg_X11_yields_13]
          cases s_in (σ.1 5) (σ.1 24) o
          · rw [if_pos bf0]
          · rw [if_neg bt0, if_pos (by rw [clo])]
      · have hne : ¬ nI l = nI o := fun e => clo ((nI_eq (by omega) (by omega)).mp e)
        have rr3 : ∀ f, xe (d + 2) 303 [.ref 133, .int (nI l), .int (nI o)] (pm_wC σ 26 f) = pm_run (xe (d + 1)) pg_X12_yields (35, [.ref 133, .int (nI l), .int (nI o), .null], [.int (b32 (s_in (σ.1 5) (σ.1 24) l))], th0 (pm_wC σ 26 f)) := fun f => by
          rw [rr2 f, if_neg hne, r_isOn d _ rw_now (by omega), (RR_t (σ := σ) f).2.2.1, (RR_t (σ := σ) f).2.2.2, hml]
          simp only [pm_cl_some, Option.toList_some, List.cons_append, List.nil_append]
        cases hil : s_in (σ.1 5) (σ.1 24) l
        · obtain ⟨σ2, e1, e2⟩ := fin (.int (-1)) (σ.1 26) (by rw [rr3, hil, sg_X12_yields_35, if_pos bf0]) rfl
          rw [if_pos bf0]
          exact ⟨_, _, σ2, rfl, e1, e2⟩
        · have rr4 : ∀ f, xe (d + 2) 303 [.ref 133, .int (nI l), .int (nI o)] (pm_wC σ 26 f) = pm_run (xe (d + 1)) pg_X12_yields (47, [.ref 133, .int (nI l), .int (nI o), .null], [.int (b32 (s_in (σ.1 5) (σ.1 24) o))], th0 (pm_wC σ 26 f)) := fun f => by
            rw [rr3 f, hil, sg_X12_yields_35, if_neg bt0, r_isOn d _ rw_now (by omega), (RR_t (σ := σ) f).2.2.1, (RR_t (σ := σ) f).2.2.2, hmo]
            simp only [pm_cl_some, Option.toList_some, List.cons_append, List.nil_append]
          rw [if_neg bt0, q_in_y d σ h1 h3 ho]
          simp only [pm_cl_some, Option.toList_some, List.cons_append, List.nil_append]
          rw [sg_X11_yields_13]
          cases hio : s_in (σ.1 5) (σ.1 24) o
          · obtain ⟨σ2, e1, e2⟩ := fin (.int (-1)) (σ.1 26) (by rw [rr4, hio, sg_X12_yields_47, if_pos bf0]) rfl
            rw [if_pos bf0]
            exact ⟨_, _, σ2, rfl, e1, e2⟩
          · obtain ⟨lo, hlo, hlo1, hlo2⟩ := rel_lo99 h3 (h5 (by omega)) h8 hl hil
            rw [if_neg bt0, if_neg hne, q_become (d + 2) σ st_25 st_23]
            simp only [pm_cl_some, Option.toList_none, List.nil_append, Nat.reduceAdd]
            rw [sg_X11_yields_34, q_least (d + 2) _ st_23 (by omega)]
            simp only [pm_cl_some, Option.toList_some, List.cons_append, List.nil_append, Nat.reduceAdd, wC_ne _ _ (show 24 ≠ 26 by decide), hlo]
            rw [sg_X11_yields_42]
            obtain ⟨v, f', g', v1, v2⟩ := lp_yields (d + 2) d h hl ho (100 - lo) lo (va_cpy (σ.1 24) (σ.1 26) 0 0 71) (σ.1 143) (by omega) hlo1 (fun j hj _ => cpy71 _ _ hj)
            refine ⟨.int v, _, _, v1, ?_, PostB_tr h f' g'⟩
            have hR := RR_t (σ := σ) f'
            rw [rr4, hio, sg_X12_yields_47, if_neg bt0, r_least d _ rw_now (by omega), hR.2.2.2, least_eq h8.2.2.1 hl, hlo]
            simp only [pm_cl_some, Option.toList_some, List.cons_append, List.nil_append]
            rw [sg_X12_yields_61]
            have := v2 _ hR
            rw [show σ.1 143 = (th0 (pm_wC σ 26 f')).1 143 by rw [th_ne _ (by decide), wC_ne _ _ (by decide)], wC_self] at this
            exact this

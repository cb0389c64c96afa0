/-! ===== calls on both ===== -/
theorem n00 : nI 0 = 0 := by decide
theorem n10 : ¬ nI 1 = 0 := by decide
def Both (dx dm μx μm : Nat) (as : List Value) (σ : pm_H) (P : pm_H → Prop) : Prop :=
  ∃ v σ1 σ2, xe dx μx (.ref 0 :: as) σ = some (some v, σ1) ∧ xe dm μm (.ref 133 :: as) σ1 = some (some v, σ2) ∧ P σ2
def PostB (k sz : Nat) (T R : Nat → Nat) (σ σ' : pm_H) : Prop := (∃ n a e, RelB (k + 1) sz T R n a e σ') ∧ sameL σ σ' ∧ sameO σ σ'
theorem PostB_th {k sz n a e : Nat} {T R : Nat → Nat} {σ : pm_H} (h : RelB k sz T R n a e σ) : PostB k sz T R σ (th0 σ) :=
  ⟨⟨n, a, e, RelB_mono (RelB_same h (th0_B σ)) (Nat.le_succ k)⟩, th0_L σ, th0_O σ⟩
theorem th_ne (σ : pm_H) {c : Nat} (h : c ≠ 133) : (th0 σ).1 c = σ.1 c := by unfold th0; rw [wI_wC, wC_ne _ _ h]
theorem th_f (σ : pm_H) {k : Nat} (h : k ≠ 0) : (th0 σ).1 133 k = σ.1 133 k := by unfold th0; rw [wI_wC, wC_at, up_ne _ _ h]
theorem mp_ne (σ : pm_H) {a c : Nat} (h : c ≠ 133) (h' : c ≠ 146) : (m_past σ a).1 c = σ.1 c := by unfold m_past; rw [wC_ne _ _ h, wC_ne _ _ h']
theorem mp_146 (σ : pm_H) (a : Nat) : (m_past σ a).1 146 = if a = 40 then u_put (σ.1 142) (u_sh (σ.1 146)) 39 else u_put (σ.1 142) (σ.1 146) a := by unfold m_past; rw [wC_ne _ _ (by decide), wC_at]
theorem mp_133 (σ : pm_H) (a : Nat) : (m_past σ a).1 133 = upd (σ.1 133) 33 (nI (if a = 40 then 40 else a + 1)) := by unfold m_past; rw [wC_at]
theorem xp_0 (σ : pm_H) (a e : Nat) : (x_past σ a e).1 0 = upd (upd (σ.1 0) 15 (nI ((e + 1) % 40))) 16 (nI (if a = 40 then 40 else a + 1)) := by unfold x_past; rw [wC_at]
theorem xp_e (σ : pm_H) (a e : Nat) {j : Nat} (hj : j < 71) : (x_past σ a e).1 (93 + e) j = σ.1 24 j := by
  unfold x_past
  rw [wC_ne _ _ (by omega), wC_at, pk_cpy_in (by omega) (by omega)]
  simp only [Nat.zero_add, Nat.sub_zero]
theorem xl_log (σ : pm_H) (n : Nat) (v : Nat → Int32) : (∀ c, c < 27 ∨ 32 < c → (x_log σ n v).1 c = σ.1 c) ∧ (x_log σ n v).1 27 5 = nI (n + 1) ∧ ∀ q i, q < 5 → lgs (x_log σ n v) 28 q i = lg_add (lgs σ 28) n v q i := by
  refine ⟨fun c hc => ?_, ?_, fun q i hq => ?_⟩
  · unfold x_log
    simp (disch := omega) only [wC_ne]
  · unfold x_log
    rw [wC_at, up_at]
  · unfold lgs lg_add x_log
    rcases (show q = 0 ∨ q = 1 ∨ q = 2 ∨ q = 3 ∨ q = 4 by omega) with rfl | rfl | rfl | rfl | rfl <;> simp (disch := omega) only [Nat.reduceAdd, wC_ne, wC_at]
/-- what both states have in common behind an act -/
theorem act_c {σ σ1 : pm_H} {a e : Nat} (f w : Nat → Int32) (c : Nat) (h : c ≠ 0 ∧ c ≠ 93 + e ∧ c ≠ 24 ∧ c ≠ 133 ∧ c ≠ 146 ∧ c ≠ 142) (h1 : σ1 = pm_wC (x_past σ a e) 24 f) : (pm_wC (m_past (th0 σ1) a) 142 w).1 c = σ.1 c := by
  rw [wC_ne _ _ h.2.2.2.2.2, mp_ne _ h.2.2.2.1 h.2.2.2.2.1, th_ne _ h.2.2.2.1, h1, wC_ne _ _ h.2.2.1, past_ne _ h.1 h.2.1]
theorem b_lift (d : Nat) {k sz n a e : Nat} {T R : Nat → Nat} {σ : pm_H} (h : RelB k sz T R n a e σ) (x : Int32) : Both (d + 7) (d + 6) 166 177 [.int x] σ (PostB k sz T R σ) := by
  have hh := h
  obtain ⟨⟨h1, h2, h3, h4, h5, h6, h7⟩, ⟨h8, h9⟩, ⟨⟨h10, h11, h12, h13, h14⟩, h15⟩, -⟩ := hh
  have hn := relM_next (h7 1 (by omega)) h8
  have hsm := relM_sm h3 h4 h8
  unfold Both
  rw [en_X11_lift, sg_X11_lift_0, q_called (d + 3) σ st_23 h1 h3]
  simp only [pm_cl_some, Option.toList_some, List.cons_append, List.nil_append, Nat.reduceAdd]
  rw [sg_X11_lift_7]
  have rr : ∀ s : pm_H, s.1 133 22 = nI sz → s.1 140 = σ.1 140 → s.1 142 = σ.1 142 → xe (d + 6) 177 [.ref 133, .int x] s = pm_run (xe (d + 5)) pg_X12_lift (13, [.ref 133, .int x, .null], [.int (oi (nx1 (s_in (σ.1 5) (σ.1 24)) (s_ah (σ.1 24)) 0 sz none))], th0 s) := by
    intro s e1 e2 e3
    rw [en_X12_lift, sg_X12_lift_0, show pm_wI s 133 0 (nI 0) = th0 s from rfl, r_nextOf (d + 3) (th0 s) rw_now (by rw [th_f _ (by decide)]; exact e1) h3 (by rw [th_ne _ (by decide), e3]; exact hsm), th_ne _ (by decide), th_ne _ (by decide), e2, e3, hn]
    simp only [pm_cl_some, Option.toList_some, List.cons_append, List.nil_append]
  cases hb : nx1 (s_in (σ.1 5) (σ.1 24)) (s_ah (σ.1 24)) 0 sz none with
  | none =>
    rw [hb] at rr
    rw [if_pos (show oi none = -1 from rfl)]
    refine ⟨_, _, _, rfl, ?_, PostB_th h⟩
    rw [rr σ h2 rfl rfl, sg_X12_lift_13, if_pos (show oi none = -1 from rfl)]
  | some who =>
    rw [hb] at rr
    obtain ⟨hw, hin⟩ := nx1_in _ _ sz 0 none (fun j e => by cases e) who hb
    rw [Nat.zero_add] at hw
    have hne : ¬ oi (some who) = -1 := nI_nm1 (show who < 2 ^ 31 by omega)
    rw [if_neg hne]
    rcases rng_cases x 0 7 (by omega) (by omega) with hx | ⟨li, -, hli, rfl⟩
    · refine ⟨.int (-1), σ, th0 σ, ?_, ?_, PostB_th h⟩
      · rcases hx with hx | hx
        · rw [if_pos (show x < 0 from hx)]
        · by_cases c : x < 0
          · rw [if_pos c]
          · rw [if_neg c, if_pos hx]
      · rw [rr σ h2 rfl rfl, sg_X12_lift_13, if_neg hne, r_rng_n (d + 4) _ (L := 0) (H := 7) (a := 0) (b := 7) (by decide) (by decide) hx]
        simp only [pm_cl_some, Option.toList_some, List.cons_append, List.nil_append]
        rw [sg_X12_lift_28, if_pos n00]
    · obtain ⟨rd, hrd, h0, h66⟩ := relM_rd h8 hw hin
      obtain ⟨hn36, hM⟩ := relM_lift (t' := σ.1 138) (r' := σ.1 140) h3 (h5 (by omega)) h6 h7 h8 hw hin (show li < 8 by omega) h0 hrd
      have hwn : σ.1 142 70 = nI n := (relM_n h3 h4 h8).2.2
      rw [if_neg (nI_pos (by omega)), if_neg (nI_nlt (by omega) (by omega)), show oi (some who) = nI who from rfl, q_liftBy d σ h1 h3 h10 h11 h12 h13 (by omega) (by omega) hn36 h9]
      simp only [pm_cl_some, Option.toList_none, List.nil_append]
      rw [sg_X11_lift_31, q_isGood (d + 4) _ (by omega)]
      simp only [pm_cl_some, Option.toList_some, List.cons_append, List.nil_append]
      rw [sg_X11_lift_35]
      -- the reference
      generalize hσ1 : x_lift σ sz n a e who li = σ1
      have hs1 : σ1 = x_log (pm_wC (x_past σ a e) 24 (g_on sz (σ.1 4) (σ.1 5) (g_made (σ.1 4) (σ.1 5) (σ.1 24) who (gd li)))) n (v_lift (σ.1 24) who li) := hσ1.symm
      obtain ⟨l1, l2, l3⟩ := xl_log (pm_wC (x_past σ a e) 24 (g_on sz (σ.1 4) (σ.1 5) (g_made (σ.1 4) (σ.1 5) (σ.1 24) who (gd li)))) n (v_lift (σ.1 24) who li)
      rw [← hs1] at l1 l2 l3
      have c1 : ∀ c, c ≠ 0 → c ≠ 93 + e → c ≠ 24 → (c < 27 ∨ 32 < c) → σ1.1 c = σ.1 c := fun c h0 he h24 hc => by rw [l1 c hc, wC_ne _ _ h24, past_ne _ h0 he]
      have e133 : σ1.1 133 = σ.1 133 := c1 133 (by omega) (by omega) (by omega) (by omega)
      have e142 : σ1.1 142 = σ.1 142 := c1 142 (by omega) (by omega) (by omega) (by omega)
      have e138 : σ1.1 138 = σ.1 138 := c1 138 (by omega) (by omega) (by omega) (by omega)
      have e140 : σ1.1 140 = σ.1 140 := c1 140 (by omega) (by omega) (by omega) (by omega)
      have e146 : σ1.1 146 = σ.1 146 := c1 146 (by omega) (by omega) (by omega) (by omega)
      have q142 : (m_past (th0 σ1) a).1 142 = σ.1 142 := by rw [mp_ne _ (by decide) (by decide), th_ne _ (by decide), e142]
      have q138 : (m_past (th0 σ1) a).1 138 = σ.1 138 := by rw [mp_ne _ (by decide) (by decide), th_ne _ (by decide), e138]
      have q140 : (m_past (th0 σ1) a).1 140 = σ.1 140 := by rw [mp_ne _ (by decide) (by decide), th_ne _ (by decide), e140]
      have qf : ∀ j, j ≠ 0 → j ≠ 33 → (m_past (th0 σ1) a).1 133 j = σ.1 133 j := fun j j0 j3 => by rw [mp_133, up_ne _ _ j3, th_f _ j0, e133]
      refine ⟨.int (b32 (gd li)), σ1, pm_wC (m_past (th0 σ1) a) 142 (h_on sz (σ.1 138) (σ.1 140) (h_made (σ.1 138) (σ.1 140) (σ.1 142) n who (nI li) (gd li) rd)), ?_, ?_, ⟨n + 1, _, _, RelB_act h (Nat.le_succ k) (Nat.le_succ n) ?_ ⟨?_, ?_⟩ ?_ ?_ ?_ ?_ (relM_mono ?_ (Nat.le_succ k)) ?_ ?_⟩, ⟨?_, ?_, ?_⟩, ?_, ?_⟩
      · cases gd li <;> rfl
      · rw [rr σ1 (by rw [e133]; exact h2) e140 e142, sg_X12_lift_13, if_neg hne, r_rng_y (d + 4) _ (L := 0) (H := 7) (a := 0) (b := 7) (by decide) (by decide) (by omega) (by omega) (by omega)]
        simp only [pm_cl_some, Option.toList_some, List.cons_append, List.nil_append]
        rw [sg_X12_lift_28, if_neg (by decide), r_remember (d + 4) (th0 σ1) h10 (by rw [th_f _ (by decide), e133]; exact h14)]
        simp only [pm_cl_some, Option.toList_none, List.nil_append]
        rw [sg_X12_lift_37, show oi (some who) = nI who from rfl, r_lifts (d + 1) (m_past (th0 σ1) a) rw_now h3 (by rw [qf 22 (by decide) (by decide)]; exact h2) (by omega) (by omega) hn36 hrd (by rw [q142]; exact hwn) (by rw [q142]; exact h66), q142, q138, q140]
        simp only [pm_cl_some, Option.toList_none, List.nil_append]
        rw [sg_X12_lift_47, r_isGood (d + 3) _ (by omega)]
        simp only [pm_cl_some, Option.toList_some, List.cons_append, List.nil_append]
        rw [sg_X12_lift_51]
        cases gd li <;> rfl
      · rw [wC_ne _ _ (by decide), mp_ne _ (by decide) (by decide), th_ne _ (by decide), l1 0 (by omega), wC_ne _ _ (by decide), xp_0]
      · intro j hj
        rw [wC_ne _ _ (by decide), qf j (by omega) (by omega)]
      · rw [wC_ne _ _ (by decide), mp_133, up_at]
      · intro c hc
        rw [wC_ne _ _ (by omega), mp_ne _ (by omega) (by omega), th_ne _ (by omega), c1 c (by omega) (by omega) (by omega) (by omega)]
      · intro i hi hie
        rw [wC_ne _ _ (by omega), mp_ne _ (by omega) (by omega), th_ne _ (by omega), c1 _ (by omega) (by omega) (by omega) (by omega)]
      · intro j hj
        rw [wC_ne _ _ (by omega), mp_ne _ (by omega) (by omega), th_ne _ (by omega), l1 _ (by omega), wC_ne _ _ (by omega), xp_e _ _ _ hj]
      · rw [wC_ne _ _ (by decide), mp_146, th_ne _ (by decide), th_ne _ (by decide), e142, e146]
      · rw [wC_at, wC_ne _ _ (by decide), mp_ne _ (by decide) (by decide), th_ne _ (by decide), l1 24 (by omega), wC_at]
        refine relM_ext h3 (fun _ _ => rfl) (fun _ _ => rfl) (fun q i hq hi => ?_) hM
        show (pm_wC (m_past (th0 σ1) a) 142 _).1 (28 + q) i = _
        rw [wC_ne _ _ (by omega), mp_ne _ (by omega) (by omega), th_ne _ (by omega)]
        refine (l3 q i hq).trans ?_
        unfold lg_add
        have e28 : lgs (pm_wC (x_past σ a e) 24 (g_on sz (σ.1 4) (σ.1 5) (g_made (σ.1 4) (σ.1 5) (σ.1 24) who (gd li)))) 28 q = lgs σ 28 q := by
          unfold lgs
          rw [wC_ne _ _ (by omega), past_ne _ (by omega) (by omega)]
        rw [e28]
        unfold v_lift
        rw [h0]
      · intro q i hq hi
        show (pm_wC (m_past (th0 σ1) a) 142 _).1 (28 + q) i = _
        rw [wC_ne _ _ (by omega), mp_ne _ (by omega) (by omega), th_ne _ (by omega)]
        refine (l3 q i hq).trans ?_
        unfold lg_add
        rw [up_ne _ _ (by omega)]
        unfold lgs
        rw [wC_ne _ _ (by omega), past_ne _ (by omega) (by omega)]
      · rw [wC_ne _ _ (by decide), mp_ne _ (by decide) (by decide), th_ne _ (by decide)]
        exact l2
      · intro c hc
        unfold kpL at hc
        simp only [decide_eq_true_eq] at hc
        rw [wC_ne _ _ (by omega), mp_ne _ (by omega) (by omega), th_ne _ (by omega), c1 c (by omega) (by omega) (by omega) (by omega)]
      · rw [wC_ne _ _ (by decide), mp_ne _ (by decide) (by decide), th_ne _ (by decide), c1 1 (by omega) (by omega) (by omega) (by omega)]
      · intro j hj
        rw [wC_ne _ _ (by decide), qf j (by omega) (by omega)]
      · rw [← hσ1]
        rfl
      · rw [wC_ne _ _ (by decide), mp_ne _ (by decide) (by decide), th_ne _ (by decide), c1 145 (by omega) (by omega) (by omega) (by omega)]

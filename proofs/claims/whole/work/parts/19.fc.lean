/-! ===== meet: the loop ===== -/
theorem oddN_c (V : Nat → LV → Int32) (o : Int32) (T F : Nat → Nat) (l W : Nat) : ∃ c, c ≤ 100 ∧ oddN V o T F l W = nI c := by
  unfold oddN oddv
  exact clm_r _
def nxw (sz : Nat) (s : pm_H) : Option Nat := nx1 (s_in (s.1 5) (s.1 24)) (s_ah (s.1 24)) 0 sz none
theorem mx_next {k sz n a e : Nat} {T R : Nat → Nat} {s t : pm_H} (h : RelB k sz T R n a e (mx s t)) : nx1 (m_on (t.1 140) (t.1 142)) (m_ah (t.1 142)) 0 sz none = nxw sz s ∧ ∀ l, l < sz → m_sm (t.1 142) l := by
  obtain ⟨⟨h1, h2, h3, h4, h5, h6, h7⟩, ⟨h8, h9⟩, -⟩ := h
  have a1 := relM_next (h7 1 (by omega)) h8
  have a2 := relM_sm h3 h4 h8
  exact ⟨a1, a2⟩
theorem lp_meet (dx dm : Nat) {k sz nl N : Nat} {T R : Nat → Nat} {V : Nat → LV → Int32} (hk : k ≤ 5000) (hN : N ≤ 36) : ∀ (m j n a e : Nat) (x : Int64) (s t : pm_H) (w2 w3 w5 w8 w9 w10 w11 u2 u3 u6 u7 u8 : Value), j + m = N → RelB k sz T R n a e (mx s t) → LW nl V (mx s t) → t.2 133 34 = x → ∃ v s' t', pm_run (xe (dx + 6)) pg_X11_meet (33, [.ref 0, .int (nI N), w2, w3, .long x, w5, .int (nI j), .int (nI j), w8, w9, w10, w11], [], s) = some (some (.int v), s') ∧ pm_run (xe (dm + 34)) pg_X12_meet (49, [.ref 133, .int (nI N), u2, u3, .int (nI j), .int (oi (nxw sz s)), u6, u7, u8], [], t) = some (some (.int v), t') ∧ ((∀ c, ¬ c < 133 → s'.1 c = s.1 c) ∧ s'.2 = s.2) ∧ (∀ c, c < 133 → t'.1 c = t.1 c) ∧ (∃ n a e, RelB k sz T R n a e (mx s' t')) ∧ LW nl V (mx s' t')
  | 0, j, n, a, e, x, s, t, w2, w3, w5, w8, w9, w10, w11, u2, u3, u6, u7, u8, ej, h, w, hx => by
    refine ⟨nI j, s, t, ?_, ?_, ⟨fun _ _ => rfl, rfl⟩, fun _ _ => rfl, ⟨n, a, e, h⟩, w⟩
    · rw [sg_X11_meet_33, if_neg (nI_nlt (by omega) (by omega))]
    · rw [sg_X12_meet_49, if_neg (nI_nlt (by omega) (by omega))]
  | m + 1, j, n, a, e, x, s, t, w2, w3, w5, w8, w9, w10, w11, u2, u3, u6, u7, u8, ej, h, w, hx => by
    have hh := h
    obtain ⟨⟨h1, h2, h3, h4, h5, h6, h7⟩, ⟨h8, h9⟩, ⟨⟨h10, h11, h12, h13, h14⟩, h15⟩, -, ⟨e1, er, e2, e3⟩⟩ := hh
    rw [mx_s s t (show 3 < 133 by decide)] at h1
    rw [mx_t s t (show ¬ 133 < 133 by decide)] at h2 h14 e1
    rw [mx_s s t (show 0 < 133 by decide)] at h12 h13 e3 e1
    rw [mx_s s t (show 27 < 133 by decide)] at h9
    rw [mx_s s t (show 5 < 133 by decide), mx_s s t (show 24 < 133 by decide), mx_t s t (show ¬ 142 < 133 by decide)] at h8
    rw [mx_s s t (show 5 < 133 by decide), mx_s s t (show 4 < 133 by decide)] at h5
    rw [mx_s s t (show 4 < 133 by decide), mx_t s t (show ¬ 138 < 133 by decide)] at h6
    rw [mx_s s t (show 5 < 133 by decide), mx_t s t (show ¬ 140 < 133 by decide)] at h7
    have h29 : t.1 133 29 = nI er := e1.trans e3
    rw [sg_X11_meet_33, if_pos (nI_lt (by omega) (by omega)), q_called (dx + 3) s st_23 h1 h3, show nx1 (s_in (s.1 5) (s.1 (23 + 1))) (s_ah (s.1 (23 + 1))) 0 sz none = nxw sz s from rfl]
    simp only [pm_cl_some, Option.toList_some, Option.toList_none, List.cons_append, List.nil_append]
    rw [sg_X11_meet_46, sg_X12_meet_49, if_pos (nI_lt (by omega) (by omega))]
    cases hb : nxw sz s with
    | none =>
      exact ⟨nI j, s, t, by rw [if_pos (show oi none = -1 from rfl)], by rw [if_pos (show oi none = -1 from rfl)], ⟨fun _ _ => rfl, rfl⟩, fun _ _ => rfl, ⟨n, a, e, h⟩, w⟩
    | some who =>
      obtain ⟨hw, hin⟩ := nx1_in _ _ sz 0 none (fun j e => by cases e) who hb
      rw [Nat.zero_add] at hw
      have hne : ¬ oi (some who) = -1 := nI_nm1 (show who < 2 ^ 31 by omega)
      have hw6 : who < 6 := by omega
      have hT := h5 (by omega)
      obtain ⟨rd, hrd, h0, h66⟩ := relM_rd h8 hw hin
      obtain ⟨F, f1, f2, f3⟩ := h8.1
      have hW : F (5 + who) ≤ 99 := (f2.2.2.2.2 who hw).1.2.1
      have hA : s.1 24 (5 + who) = nI (F (5 + who)) := f1 _ (by omega) (by omega)
      have hwn : t.1 142 70 = nI n := (relM_n h3 h4 h8).2.2
      have hC : CLw nl V s := by
        obtain ⟨c1, c2, c3⟩ := w.2.1
        refine ⟨c1, by rw [mx_s s t (by decide)] at c2; exact c2, fun j hj => ?_⟩
        obtain ⟨cc, a1, a2, a3, a4⟩ := c3 j hj
        rw [mx_s s t (by decide)] at a1
        rw [mx_s s t (by omega)] at a3
        exact ⟨cc, a1, a2, a3, a4⟩
      have hML : MLw nl V t := by
        obtain ⟨m1, m2, m3⟩ := w.2.2.1
        rw [mx_t s t (by decide)] at m2
        refine ⟨m1, m2, fun j hj => ?_⟩
        obtain ⟨b', n', c', v', q', a1, a2, a3, a4, a5⟩ := m3 j hj
        rw [mx_t s t (by decide)] at a4
        exact ⟨b', n', c', v', q', a1, a2, a3, a4, fun i hi => by have := a5 i hi; rw [mx_t s t (by decide)] at this; exact this⟩
      have hMO : MOw nl V t := fun p hp => by
        have := w.2.2.2.1 p hp
        rw [mx_t s t (by decide)] at this
        exact this
      have hLM : bdL (LM t) := by
        have := w.2.2.2.2.1
        rw [LM_same (σ := t) (mx_t s t (by decide))] at this
        exact this
      have e27 : t.1 133 27 = s.1 12 6 := by
        have := w.2.2.2.2.2.1.1
        rw [mx_t s t (by decide), mx_s s t (by decide)] at this
        exact this
      have ho : lawok nl (s.1 12 6) := by
        have := w.2.2.2.2.2.2.1
        rw [mx_s s t (by decide)] at this
        exact this
      obtain ⟨cc, hc1, hc2⟩ := oddN_c V (s.1 12 6) T F who (F (5 + who))
      obtain ⟨g21, g22, hg⟩ := q_oddT (dx + 2) (u := 91) (c := 23) (W := F (5 + who)) (l := who) hC ho mo_91 st_23 h3 hk hT f1 f2 hw hW
      obtain ⟨L, hL8, hLe⟩ := lgt_8 (decide (rr (dr x) < cc)) er (dr x)
      rw [if_neg hne, if_neg hne, q_drawn, show oi (some who) = nI who from rfl]
      simp only [pm_cl_some, Option.toList_some, Option.toList_none, List.cons_append, List.nil_append]
      rw [sg_X11_meet_62, w_take (dx + 4) s mo_91 st_23 hw6]
      simp only [pm_cl_some, Option.toList_some, Option.toList_none, List.cons_append, List.nil_append]
      rw [sg_X11_meet_77, q_of (dx + 5) _ st_23 (show 5 + who < 71 by omega), wC_ne _ _ (show 23 + 1 ≠ 91 by decide), show s.1 (23 + 1) (5 + who) = nI (F (5 + who)) from hA]
      simp only [pm_cl_some, Option.toList_some, Option.toList_none, List.cons_append, List.nil_append]
      rw [sg_X11_meet_97, hg, hc2]
      simp only [pm_cl_some, Option.toList_some, Option.toList_none, List.cons_append, List.nil_append]
      rw [sg_X11_meet_100, q_below (dx + 5) (dr x) hc1]
      simp only [pm_cl_some, Option.toList_some, Option.toList_none, List.cons_append, List.nil_append]
      have hs2 : ∀ c, c ≠ 91 → c ≠ 21 → c ≠ 22 → (pm_wC (pm_wC (pm_wC s 91 (g_take (s.1 4) (s.1 (23 + 1)) (s.1 91) who)) 21 g21) 22 g22).1 c = s.1 c := fun c k1 k2 k3 => by rw [wC_ne _ _ k3, wC_ne _ _ k2, wC_ne _ _ k1]
      have hs2' : (pm_wC (pm_wC (pm_wC s 91 (g_take (s.1 4) (s.1 (23 + 1)) (s.1 91) who)) 21 g21) 22 g22).2 = s.2 := rfl
      generalize pm_wC (pm_wC (pm_wC s 91 (g_take (s.1 4) (s.1 (23 + 1)) (s.1 91) who)) 21 g21) 22 g22 = s2 at hs2 hs2' ⊢
      -- the reference
      obtain ⟨t1, i1, i2⟩ := r_draw (dm + 33) hx
      rw [i1]
      simp only [pm_cl_some, Option.toList_some, Option.toList_none, List.cons_append, List.nil_append]
      have i21 := i2.1
      obtain ⟨t2, v1, v2, v3, v4⟩ := r_oddT dm (σ := t1) (q := 142) (W := F (5 + who)) (l := who) (f := s.1 24) (t := s.1 4) (r := s.1 5) (by unfold MLw; rw [i21]; exact hML) (fun p hp => by rw [i21, i2.2.1 144 (by decide)]; exact hMO p hp) (by rw [i21, e27]; exact ho) (by rw [LM_same (σ := t) (by rw [i21])]; exact hLM) rw_now h3 hk hT (by rw [i21]; exact h6) (by rw [i21]; exact h8.2.2.1) f1 f2 hw hW
      have hA' : t1.1 142 (11 * who + 0) = nI (F (5 + who)) := by
        rw [i21, (h8.2.2.1.2 who hw).1.1]
        exact hA
      rw [sg_X12_meet_67, pk_mul, nI_add, ck_n _ (by omega) (by omega), nI_clamp (by omega), hA', v1, i21, e27, hc2]
      simp only [pm_cl_some, Option.toList_some, Option.toList_none, List.cons_append, List.nil_append]
      have j29 : t2.1 133 29 = nI er := (v2.2.2 29 rfl).trans (by rw [i21]; exact h29)
      have jx : t2.2 133 34 = dr x := (by rw [v2.2.1 133 (by decide)]; exact i2.2.2)
      obtain ⟨t3, y1, y2⟩ := r_lgt (dm + 33) (g := decide (rr (dr x) < cc)) (N := nI N) (a4 := nI j) (a5 := nI who) e2 3 0 (dr x) (nI 0) t2 (by omega) j29 jx
      rw [hLe] at y1
      have hif : (if nI (rr (dr x)) < nI cc then pm_run (xe (dm + 34)) pg_X12_meet (105, [.ref 133, .int (nI N), .null, .null, .int (nI j), .int (nI who), .int (nI 1), .int (nI 0), .int (nI 0)], [], t2) else pm_run (xe (dm + 34)) pg_X12_meet (105, [.ref 133, .int (nI N), .null, .null, .int (nI j), .int (nI who), .int (nI 0), .int (nI 0), .int (nI 0)], [], t2)) = pm_run (xe (dm + 34)) pg_X12_meet (105, [.ref 133, .int (nI N), .null, .null, .int (nI j), .int (nI who), .int (b32 (decide (rr (dr x) < cc))), .int (nI 0), .int (nI 0)], [], t2) := by
        have r1 := (rr_d (dr x)).1
        by_cases c : rr (dr x) < cc
        · rw [if_pos (nI_lt c (by omega)), decide_eq_true c]
          rfl
        · rw [if_neg (nI_nlt (by omega) (by omega)), decide_eq_false c]
          rfl
      have ht3 : ∀ c, c ≠ 133 → c ≠ 137 → c ≠ 145 → t3.1 c = t.1 c := fun c k1 k2 k3 => by rw [y2.1, v2.1 c k1 k2 k3, i21]
      have hj3 : ∀ j, gk j = true → t3.1 133 j = t.1 133 j := fun j hj => by rw [y2.1, v2.2.2 j hj, i21]
      obtain ⟨hn36, hR⟩ := mx_lift h hw hin hL8 h0 hrd hs2 ht3 hj3
      rw [sg_X12_meet_89, hif, y1, sg_X12_meet_105, if_neg (nI_nlt (by omega) (by omega)), r_remember (dm + 33) t3 h10 (by rw [hj3 33 rfl]; exact h14)]
      simp only [pm_cl_some, Option.toList_some, Option.toList_none, List.cons_append, List.nil_append]
      have q142 : (m_past t3 a).1 142 = t.1 142 := by rw [mp_ne _ (by decide) (by decide), ht3 142 (by decide) (by decide) (by decide)]
      have q138 : (m_past t3 a).1 138 = t.1 138 := by rw [mp_ne _ (by decide) (by decide), ht3 138 (by decide) (by decide) (by decide)]
      have q140 : (m_past t3 a).1 140 = t.1 140 := by rw [mp_ne _ (by decide) (by decide), ht3 140 (by decide) (by decide) (by decide)]
      rw [sg_X12_meet_157, r_lifts (dm + 30) (m_past t3 a) rw_now h3 (by rw [mp_133, up_ne _ _ (by decide), hj3 22 rfl]; exact h2) hw6 hL8 hn36 hrd (by rw [q142]; exact hwn) (by rw [q142]; exact h66), q142, q138, q140]
      simp only [pm_cl_some, Option.toList_some, Option.toList_none, List.cons_append, List.nil_append]
      -- the class
      rw [sg_X11_meet_103, q_lgt (dx + 5) e2 (by rw [hs2 0 (by decide) (by decide) (by decide)]; exact e3) 3 0 (dr x) (nI 0) (by omega), hLe, sg_X11_meet_111, if_neg (nI_nlt (by omega) (by omega)), q_liftBy dx s2 (by rw [hs2 3 (by decide) (by decide) (by decide)]; exact h1) h3 h10 h11 (by rw [hs2 0 (by decide) (by decide) (by decide)]; exact h12) (by rw [hs2 0 (by decide) (by decide) (by decide)]; exact h13) hw6 hL8 hn36 (by rw [hs2 27 (by decide) (by decide) (by decide)]; exact h9)]
      simp only [pm_cl_some, Option.toList_some, Option.toList_none, List.cons_append, List.nil_append]
      rw [sg_X11_meet_165, nI_add]
      generalize hx3 : (lgt (decide (rr (dr x) < cc)) er 3 0 (dr x) (nI 0)).1 = x3 at y2 ⊢
      obtain ⟨xf1, xf2⟩ := xl_fr s2 sz n a e who L h11
      have hkp : ∀ c, kpL c = true → c ≠ 137 → (mx (x_lift s2 sz n a e who L) (pm_wC (m_past t3 a) 142 (h_on sz (t.1 138) (t.1 140) (h_made (t.1 138) (t.1 140) (t.1 142) n who (nI L) (gd L) rd)))).1 c = (mx s t).1 c := fun c hc hn => by
        unfold kpL at hc
        simp only [decide_eq_true_eq] at hc
        by_cases c3 : c < 133
        · rw [mx_s _ _ c3, mx_s _ _ c3, xf1 c (by omega), hs2 c (by omega) (by omega) (by omega)]
        · rw [mx_t _ _ c3, mx_t _ _ c3, wC_ne _ _ (by omega), mp_ne _ (by omega) (by omega), ht3 c (by omega) (by omega) (by omega)]
      have hw' : LW nl V (mx (x_lift s2 sz n a e who L) (pm_wC (m_past t3 a) 142 (h_on sz (t.1 138) (t.1 140) (h_made (t.1 138) (t.1 140) (t.1 142) n who (nI L) (gd L) rd)))) := by
        refine LW_K w ⟨hkp, ?_, fun j hj => ?_⟩ (fun p hp => ?_) ?_
        · rw [mx_s _ _ (by decide), mx_s _ _ (by decide), xf1 1 (by omega), hs2 1 (by decide) (by decide) (by decide)]
        · rw [mx_t _ _ (by decide), mx_t _ _ (by decide), wC_ne _ _ (by decide), mp_133, up_ne _ _ (by omega), hj3 j (by rcases hj with rfl | rfl | rfl | rfl <;> rfl)]
        · rw [mx_t _ _ (by decide), wC_ne _ _ (by decide), mp_ne _ (by decide) (by decide), y2.1]
          show t3.2 144 p = 0 ∨ ∃ W I D T C B j, rgN W I D T C B ∧ j < nl ∧ t3.2 144 p = _ ∧ _
          rw [y2.2.1 144 (by decide)]
          exact v3 p hp
        · rw [LM_same (σ := t2) (by rw [mx_t _ _ (by decide), wC_ne _ _ (by decide), mp_ne _ (by decide) (by decide), y2.1])]
          exact v4
      have hxx : (pm_wC (m_past t3 a) 142 (h_on sz (t.1 138) (t.1 140) (h_made (t.1 138) (t.1 140) (t.1 142) n who (nI L) (gd L) rd))).2 133 34 = x3 := y2.2.2
      have ht4 : ∀ c, c < 133 → (pm_wC (m_past t3 a) 142 (h_on sz (t.1 138) (t.1 140) (h_made (t.1 138) (t.1 140) (t.1 142) n who (nI L) (gd L) rd))).1 c = t.1 c := fun c hc => by rw [wC_ne _ _ (by omega), mp_ne _ (by omega) (by omega), ht3 c (by omega) (by omega) (by omega)]
      have h22 : (pm_wC (m_past t3 a) 142 (h_on sz (t.1 138) (t.1 140) (h_made (t.1 138) (t.1 140) (t.1 142) n who (nI L) (gd L) rd))).1 133 22 = nI sz := by rw [wC_ne _ _ (by decide), mp_133, up_ne _ _ (by decide), hj3 22 rfl]; exact h2
      generalize pm_wC (m_past t3 a) 142 (h_on sz (t.1 138) (t.1 140) (h_made (t.1 138) (t.1 140) (t.1 142) n who (nI L) (gd L) rd)) = t4 at hR hw' hxx ht4 h22 ⊢
      have hs3 : ∀ c, ¬ c < 133 → (x_lift s2 sz n a e who L).1 c = s.1 c := fun c hc => by rw [xf1 c (by omega), hs2 c (by omega) (by omega) (by omega)]
      have hs3' : (x_lift s2 sz n a e who L).2 = s.2 := xf2.trans hs2'
      generalize x_lift s2 sz n a e who L = s3 at hR hw' hs3 hs3' ⊢
      obtain ⟨nx1', nx2'⟩ := mx_next hR
      rw [sg_X12_meet_169, r_nextOf (dm + 32) t4 rw_now h22 h3 nx2', nx1', nI_add]
      simp only [pm_cl_some, Option.toList_some, Option.toList_none, List.cons_append, List.nil_append]
      rw [sg_X12_meet_180]
      obtain ⟨v, s', t', o1, o2, o3, o4, o5, o6⟩ := lp_meet dx dm hk hN m (j + 1) (n + 1) _ _ x3 s3 t4 .null .null .null (.int (nI who)) (.int (b32 (decide (rr (dr x) < cc)))) (.int (nI L)) (.int (nI 3)) .null .null (.int (b32 (decide (rr (dr x) < cc)))) (.int (nI L)) (.int (nI 3)) (by omega) hR hw' hxx
      exact ⟨v, s', t', o1, o2, ⟨fun c hc => (o3.1 c hc).trans (hs3 c hc), o3.2.trans hs3'⟩, fun c hc => (o4 c hc).trans (ht4 c hc), o5, o6⟩
theorem mx_all {s t : pm_H} (h : ∀ c, c < 133 → s.1 c = t.1 c) : mx s t = t := by
  refine Prod.ext (funext fun c => ?_) rfl
  by_cases c3 : c < 133
  · exact (mx_s s t c3).trans (h c c3)
  · exact mx_t s t c3
theorem b_meet (d : Nat) {k sz n a e nl : Nat} {T R : Nat → Nat} {V : Nat → LV → Int32} {σ : pm_H} (hk : k ≤ 5000) (h : RelB k sz T R n a e σ) (w : LW nl V σ) (x : Int32) (y : Int64) : Both (d + 7) (d + 35) 197 200 [.int x, .long y] σ (PostW k sz T R nl V) := by
  have hh := h
  obtain ⟨⟨h1, h2, h3, h4, h5, h6, h7⟩, ⟨h8, h9⟩, -⟩ := hh
  have hn := relM_next (h7 1 (by omega)) h8
  have hsm := relM_sm h3 h4 h8
  unfold Both
  rw [en_X11_meet, sg_X11_meet_0]
  rcases rng_cases x 1 36 (by omega) (by omega) with hx | ⟨N, hN1, hN, rfl⟩
  · refine ⟨.int (-1), σ, th0 σ, ?_, ?_, PostW_B (PostB_th h) w⟩
    · rcases hx with hx | hx
      · rw [if_pos hx]
      · rw [if_pos hx]
        exact ite_self _
    · rw [en_X12_meet, sg_X12_meet_0, show pm_wI σ 133 0 (nI 0) = th0 σ from rfl, r_rng_n _ _ (L := 1) (H := 36) (a := 1) (b := 36) (by decide) (by decide) hx]
      simp only [pm_cl_some, Option.toList_some, Option.toList_none, List.cons_append, List.nil_append]
      rw [sg_X12_meet_14, if_pos n00]
  · rw [if_neg (nI_nlt hN1 (by omega)), if_neg (nI_nlt hN (by omega)), q_called (d + 3) σ st_23 h1 h3]
    simp only [pm_cl_some, Option.toList_some, Option.toList_none, List.cons_append, List.nil_append]
    rw [sg_X11_meet_18]
    have hr : ∀ σ1 : pm_H, (∀ c, ¬ c < 133 → σ1.1 c = σ.1 c) → xe (d + 35) 200 [.ref 133, .int (nI N), .long y] σ1 = pm_run (xe (d + 34)) pg_X12_meet (25, [.ref 133, .int (nI N), .long y, .null, .null, .null, .null, .null, .null], [.int (oi (nxw sz σ))], th0 σ1) := by
      intro σ1 hs
      rw [en_X12_meet, sg_X12_meet_0, show pm_wI σ1 133 0 (nI 0) = th0 σ1 from rfl, r_rng_y _ _ (L := 1) (H := 36) (a := 1) (b := 36) (by decide) (by decide) hN1 hN (by omega)]
      simp only [pm_cl_some, Option.toList_some, Option.toList_none, List.cons_append, List.nil_append]
      rw [sg_X12_meet_14, if_neg n10, r_nextOf (d + 32) (th0 σ1) rw_now (by rw [th_f _ (by decide), hs 133 (by decide)]; exact h2) h3 (by rw [th_ne _ (by decide), hs 142 (by decide)]; exact hsm), th_ne _ (by decide), th_ne _ (by decide), hs 140 (by decide), hs 142 (by decide), hn]
      simp only [pm_cl_some, Option.toList_some, Option.toList_none, List.cons_append, List.nil_append]
      rfl
    show ∃ v σ1 σ2, (if oi (nxw sz σ) = -1 then _ else _) = _ ∧ _
    by_cases c : oi (nxw sz σ) = -1
    · refine ⟨.int (-1), σ, th0 σ, by rw [if_pos c], ?_, PostW_B (PostB_th h) w⟩
      rw [hr σ (fun _ _ => rfl), sg_X12_meet_25, if_pos c]
    · rw [if_neg c]
      have hst : ∀ σ1 : pm_H, (∀ c, ¬ c < 133 → σ1.1 c = σ.1 c) → σ1.2 = σ.2 → RelB k sz T R n a e (mx σ (pm_wJ (th0 σ1) 133 34 y)) ∧ LW nl V (mx σ (pm_wJ (th0 σ1) 133 34 y)) ∧ (pm_wJ (th0 σ1) 133 34 y).2 133 34 = y := by
        intro σ1 hs hs'
        have s0 : sameX σ (mx σ (pm_wJ (th0 σ1) 133 34 y)) := by
          have hc : ∀ c, c ≠ 133 → (mx σ (pm_wJ (th0 σ1) 133 34 y)).1 c = σ.1 c := fun c hc => by
            by_cases c3 : c < 133
            · rw [mx_s _ _ c3]
            · rw [mx_t _ _ c3]
              show (th0 σ1).1 c = _
              rw [th_ne _ hc, hs c c3]
          have hf : ∀ j, j ≠ 0 → (mx σ (pm_wJ (th0 σ1) 133 34 y)).1 133 j = σ.1 133 j := fun j hj => by
            rw [mx_t _ _ (by decide)]
            show (th0 σ1).1 133 j = _
            rw [th_f _ hj, hs 133 (by decide)]
          refine ⟨⟨fun c hk => hc c (kpB_ne hk).1, fun j hj => hf j (by omega)⟩, ⟨fun c hk => hc c (kpL_ne hk).1, by rw [hc 1 (by decide)], fun j hj => hf j (by omega)⟩, ?_, hc 145 (by decide)⟩
          show (pm_wJ (th0 σ1) 133 34 y).2 144 = _
          rw [(pm_wJ_ne (th0 σ1) 34 y (show (144 : Nat) ≠ 133 by decide)).2]
          show σ1.2 144 = _
          rw [hs']
        obtain ⟨a1, a2⟩ := sameX_R s0 h w
        refine ⟨a1, a2, ?_⟩
        unfold pm_wJ vp_updL
        simp
      obtain ⟨p1, p2, p3⟩ := hst σ (fun _ _ => rfl) rfl
      obtain ⟨v, s', t', o1, -, o3, -, -, -⟩ := lp_meet d d hk hN N 0 n a e y σ _ (.long y) .null .null .null .null .null .null (.long y) .null .null .null .null (by omega) p1 p2 p3
      obtain ⟨p1, p2, p3⟩ := hst s' o3.1 o3.2
      obtain ⟨v', s'', t'', o1', o2', o3', o4', ⟨n', a', e', o5'⟩, o6'⟩ := lp_meet d d hk hN N 0 n a e y σ _ (.long y) .null .null .null .null .null .null (.long y) .null .null .null .null (by omega) p1 p2 p3
      rw [o1] at o1'
      obtain ⟨rfl, rfl⟩ : v = v' ∧ s' = s'' := by
        injection o1' with q
        injection q with q1 q2
        injection q1 with q1
        injection q1 with q1
        exact ⟨q1, q2⟩
      have hm : mx s' t'' = t'' := mx_all (fun c hc => by
        rw [o4' c hc]
        show s'.1 c = (th0 s').1 c
        rw [th_ne _ (by omega)])
      rw [hm] at o5' o6'
      refine ⟨.int v, s', t'', o1, ?_, ⟨n', a', e', RelB_mono o5' (Nat.le_succ k)⟩, o6'⟩
      rw [hr s' o3.1, sg_X12_meet_25, if_neg c, r_nextOf (d + 32) (pm_wJ (th0 s') 133 34 y) rw_now (by show (th0 s').1 133 22 = _; rw [th_f _ (by decide), o3.1 133 (by decide)]; exact h2) h3 (by show ∀ l, l < sz → m_sm ((th0 s').1 142) l; rw [th_ne _ (by decide), o3.1 142 (by decide)]; exact hsm)]
      simp only [pm_cl_some, Option.toList_some, Option.toList_none, List.cons_append, List.nil_append]
      rw [sg_X12_meet_47]
      rw [show nx1 (m_on ((pm_wJ (th0 s') 133 34 y).1 140) ((pm_wJ (th0 s') 133 34 y).1 142)) (m_ah ((pm_wJ (th0 s') 133 34 y).1 142)) 0 sz none = nxw sz σ by
        show nx1 (m_on ((th0 s').1 140) ((th0 s').1 142)) (m_ah ((th0 s').1 142)) 0 sz none = _
        rw [th_ne _ (by decide), th_ne _ (by decide), o3.1 140 (by decide), o3.1 142 (by decide), hn]
        rfl]
      exact o2'

/-! ===== places in a meet ===== -/
theorem sm_sum {f : Nat → Int32} {l a b : Nat} (ha : a ≤ 99) (hb : b ≤ 99) (h1 : f (53 + l) = nI a) (h2 : f (59 + l) = nI b) : sm (s_sum f l) 1000 := by
  unfold s_sum
  rw [h1, h2]
  by_cases c : nI a = 0
  · rw [if_pos c]
    exact ⟨0, by omega, rfl⟩
  · rw [if_neg c]
    by_cases c2 : nI b = 0
    · rw [if_pos c2]
      exact ⟨0, by omega, rfl⟩
    · rw [if_neg c2, nI_add]
      exact ⟨a + b, by omega, rfl⟩
theorem relM_sums {k sz n R1 : Nat} {r f w : Nat → Int32} {lg : Nat → Nat → Int32} (hs : sz ≤ 6) (h : relM k sz r R1 f lg w n) : ∀ l, l < sz → sm (s_sum f l) 1000 := by
  intro l hl
  obtain ⟨⟨F, h1, h2, h3⟩, -⟩ := h
  have hL := h2.2.2.2.2 l hl
  unfold okL at hL
  exact sm_sum (a := F (53 + l)) (b := F (59 + l)) (by omega) (by omega) (h1 _ (by omega) (by omega)) (h1 _ (by omega) (by omega))
theorem okP_of {sz : Nat} {t t' f w : Nat → Int32} {T : Nat → Nat} (ht : ∀ l, l < sz → t' (10 * l + 2) = t (l * 10 + 2)) (hT : ∀ l, l < sz → t (l * 10 + 2) = nI (T (l * 10 + 2)) ∧ T (l * 10 + 2) ≤ 99) (hr : relW sz f w) (hS : relS sz f w) (hp : ∀ l, l < sz → sm (s_sum f l) 1000) (h65 : ∀ l, l < sz → sm (f (65 + l)) 36) : okP sz t' w := by
  intro l hl
  refine ⟨by rw [sum_eq hr hl]; exact hp l hl, ⟨_, ?_, by rw [ht l hl]; exact (hT l hl).1⟩, fun c => ?_⟩
  · have := (hT l hl).2
    omega
  · rw [sum_eq hr hl] at c
    obtain ⟨c1, c2⟩ := sum_ne c
    rw [hS l hl c1 c2]
    obtain ⟨a, ha, e⟩ := h65 l hl
    exact ⟨a, by omega, e⟩
theorem okT_2 {sz : Nat} {t r : Nat → Int32} {T R : Nat → Nat} (ht : okT sz t r T R) : ∀ l, l < sz → t (l * 10 + 2) = nI (T (l * 10 + 2)) ∧ T (l * 10 + 2) ≤ 99 := fun l hl =>
  ⟨ht.1 l hl 2 (by omega), (ht.2.2.2 l hl).1.2.2.2.1⟩
theorem relM_okP {k sz n : Nat} {t r t' f w : Nat → Int32} {T R : Nat → Nat} {lg : Nat → Nat → Int32} (hs : sz ≤ 6) (ht : okT sz t r T R) (htt : ∀ l, l < sz → ∀ j, j < 10 → t' (10 * l + j) = t (l * 10 + j)) (h : relM k sz r (R 1) f lg w n) : okP sz t' w :=
  okP_of (fun l hl => htt l hl 2 (by omega)) (okT_2 ht) h.2.2.1 h.2.2.2.1 (relM_sums hs h) (fun l hl => (h.2.2.2.2.1 l hl).1)
theorem relM_place {k sz n l : Nat} {t r t' r' f w : Nat → Int32} {T R : Nat → Nat} {lg : Nat → Nat → Int32} (hs : sz ≤ 6) (htt : ∀ l, l < sz → ∀ j, j < 10 → t' (10 * l + j) = t (l * 10 + j)) (hrr : ∀ j, j < 4 → r' j = r j) (h : relM k sz r (R 1) f lg w n) (hl : l < sz) : m_place sz t' r' w l = s_place sz t r f l :=
  place_eq h.2.2.1 h.2.2.2.1 hl (fun l hl => htt l hl 2 (by omega)) (hrr 3 (by omega)) (relM_sums hs h)
theorem s_sum_ext {f f' : Nat → Int32} {l : Nat} (h1 : f' (53 + l) = f (53 + l)) (h2 : f' (59 + l) = f (59 + l)) : s_sum f' l = s_sum f l := by
  unfold s_sum
  rw [h1, h2]
theorem s_place_ext {sz l : Nat} {t r f f' : Nat → Int32} (hl : l < sz) (h : ∀ i, i < sz → f' (53 + i) = f (53 + i) ∧ f' (59 + i) = f (59 + i) ∧ f' (65 + i) = f (65 + i)) : s_place sz t r f' l = s_place sz t r f l := by
  have e : ∀ i, i < sz → s_sum f' i = s_sum f i := fun i hi => s_sum_ext (h i hi).1 (h i hi).2.1
  unfold s_place
  rw [e l hl, cnt_eq (p := s_bet t r f' l) (p' := s_bet t r f l) (sz := sz) (fun i hi => ?_) sz 0 (by omega)]
  unfold s_bet s_bev
  rw [e l hl, e i hi, (h l hl).2.2, (h i hi).2.2]
/-- a place is a small number; without a sum it is 0 -/
theorem s_place_n {sz l : Nat} {t r f : Nat → Int32} : ∃ p, p ≤ sz + 1 ∧ s_place sz t r f l = nI p ∧ (p = 0 ↔ s_sum f l = 0) := by
  unfold s_place
  by_cases c : s_sum f l = 0
  · rw [if_pos c]
    exact ⟨0, by omega, rfl, by simp [c]⟩
  · rw [if_neg c]
    obtain ⟨n, h1, h2, -⟩ := cnt_le (s_bet t r f l) sz 0
    rw [h2, nI_add]
    exact ⟨1 + n, by omega, rfl, by simp [c]⟩
/-! ===== needs ===== -/
theorem relW_10 {sz l : Nat} {f w : Nat → Int32} (u v : Int32) (hs : sz ≤ 6) (hl : l < 6) (hr : relW sz f w) : relW sz (upd f (65 + l) u) (upd w (11 * l + 10) v) := by
  obtain ⟨⟨a0, a1, a2, a3, a4⟩, hk⟩ := hr
  refine ⟨⟨?_, ?_, ?_, ?_, ?_⟩, fun i hi => ?_⟩
  · simp (disch := omega) only [up_ne, a0]
  · simp (disch := omega) only [up_ne, a1]
  · simp (disch := omega) only [up_ne, a2]
  · simp (disch := omega) only [up_ne, a3]
  · simp (disch := omega) only [up_ne, a4]
  · obtain ⟨⟨c0, c1, c2, c3, c4⟩, c5, c6, c7, c8, c9⟩ := hk i hi
    refine ⟨⟨?_, ?_, ?_, ?_, ?_⟩, ?_, ?_, ?_, ?_, ?_⟩ <;> simp (disch := omega) only [up_ne, c0, c1, c2, c3, c4, c5, c6, c7, c8, c9]
def f_need (f : Nat → Int32) (l w : Nat) : Nat → Int32 := upd (upd f (59 + l) (nI w)) (65 + l) (f 4)
theorem need_okP {k sz n l w : Nat} {t r t' r' f g u : Nat → Int32} {T R : Nat → Nat} {lg : Nat → Nat → Int32} (hs : sz ≤ 6) (ht : okT sz t r T R) (htt : ∀ l, l < sz → ∀ j, j < 10 → t' (10 * l + j) = t (l * 10 + j)) (hrr : ∀ j, j < 4 → r' j = r j) (h : relM k sz r (R 1) f lg g n) (hl : l < sz) (hw : w ≤ 99) :
    okP sz t' (upd (upd (u_copy g u n) (11 * l + 3) (nI w)) (11 * l + 10) (g 70)) ∧ m_place sz t' r' (upd (upd (u_copy g u n) (11 * l + 3) (nI w)) (11 * l + 10) (g 70)) l = s_place sz t r (f_need f l w) l := by
  obtain ⟨hn36, h4, h70⟩ := relM_n hs ht.2.2.1.2.1 h
  have hM := relM_ext (f' := f) (w' := u_copy g u n) (lg' := lg) hs (fun _ _ => rfl) (fun j hj => if_pos hj) (fun _ _ _ _ => rfl) h
  have hW : relW sz (f_need f l w) (upd (upd (u_copy g u n) (11 * l + 3) (nI w)) (11 * l + 10) (g 70)) := relW_10 _ _ hs (by omega) (rel_upl _ hs hM.2.2.1 hl (by omega))
  have hS : relS sz (f_need f l w) (upd (upd (u_copy g u n) (11 * l + 3) (nI w)) (11 * l + 10) (g 70)) := by
    intro i hi e1 e2
    unfold f_need at e1 e2 ⊢
    by_cases c : i = l
    · subst c
      rw [up_at, up_at, h70, h4]
    · simp (disch := omega) only [up_ne] at e1 e2 ⊢
      exact hM.2.2.2.1 i hi e1 e2
  have hp : ∀ i, i < sz → sm (s_sum (f_need f l w) i) 1000 := by
    intro i hi
    obtain ⟨⟨F, h1, h2, h3⟩, -⟩ := h
    have hL := h2.2.2.2.2 i hi
    unfold okL at hL
    unfold f_need
    by_cases c : i = l
    · subst c
      exact sm_sum (a := F (53 + i)) (b := w) (by omega) hw (by simp (disch := omega) only [up_ne]; exact h1 _ (by omega) (by omega)) (by simp (disch := omega) only [up_ne, up_at])
    · exact sm_sum (a := F (53 + i)) (b := F (59 + i)) (by omega) (by omega) (by simp (disch := omega) only [up_ne]; exact h1 _ (by omega) (by omega)) (by simp (disch := omega) only [up_ne]; exact h1 _ (by omega) (by omega))
  have h65 : ∀ i, i < sz → sm (f_need f l w (65 + i)) 36 := by
    intro i hi
    unfold f_need
    by_cases c : i = l
    · subst c
      rw [up_at, h4]
      exact ⟨n, hn36, rfl⟩
    · simp (disch := omega) only [up_ne]
      exact (h.2.2.2.2.1 i hi).1
  exact ⟨okP_of (fun l hl => htt l hl 2 (by omega)) (okT_2 ht) hW hS hp h65, place_eq hW hS hl (fun l hl => htt l hl 2 (by omega)) (hrr 3 (by omega)) hp⟩
theorem need_cls {sz l w : Nat} {t r f u : Nat → Int32} (hs : sz ≤ 6) (hl : l < sz) (h0 : ¬ f 0 = 0) : s_place sz t r (g_on sz t r (g_made t r (upd (va_cpy f u 0 0 71) (5 + l) (nI w)) l true)) l = s_place sz t r (f_need f l w) l := by
  refine s_place_ext hl (fun i hi => ?_)
  rw [g_on_hi hs _ _ _ (by omega), g_on_hi hs _ _ _ (by omega), g_on_hi hs _ _ _ (by omega)]
  obtain ⟨a0, a65, a59, a53⟩ := g_made_at (t := t) (r := r) (f := upd (va_cpy f u 0 0 71) (5 + l) (nI w)) (who := l) (l := i) (by omega) (by omega) true
  rw [a65, a59, a53]
  simp (disch := omega) only [up_ne, up_at, true_and, h0, not_false_eq_true, and_true, and_false, if_false]
  unfold f_need
  by_cases c : i = l
  · subst c
    simp (disch := omega) only [up_ne, up_at, if_true, cpy71, h0, not_false_eq_true, and_false, if_false, and_true]
    try simp
  · simp (disch := omega) only [up_ne, c, false_and, if_false, cpy71]
    try simp
theorem f_need_pos {k sz n l w R1 : Nat} {r t f g : Nat → Int32} {lg : Nat → Nat → Int32} (hs : sz ≤ 6) (h : relM k sz r R1 f lg g n) (hl : l < sz) (h0 : ¬ f 0 = 0) (h47 : f (47 + l) = 0) (hw1 : 1 ≤ w) (hw : w ≤ 99) : ∃ p, 1 ≤ p ∧ p ≤ 7 ∧ s_place sz t r (f_need f l w) l = nI p := by
  obtain ⟨p, p1, p2, p3⟩ := s_place_n (sz := sz) (l := l) (t := t) (r := r) (f := f_need f l w)
  refine ⟨p, ?_, by omega, p2⟩
  by_cases c : p = 0
  · exfalso
    have hsum := p3.mp c
    have h53 := (h.2.2.2.2.1 l hl).2.2 h0 h47
    obtain ⟨⟨F, f1, f2, f3⟩, -⟩ := h
    have hL := f2.2.2.2.2 l hl
    unfold okL at hL
    unfold s_sum f_need at hsum
    simp (disch := omega) only [up_ne, up_at] at hsum
    rw [if_neg h53, if_neg (nI_ne0 (by omega) (by omega)), f1 (53 + l) (by omega) (by omega), nI_add] at hsum
    exact absurd hsum (nI_ne0 (by omega) (by omega))
  · omega
theorem lp_needs (dx dm : Nat) {k sz n a e : Nat} {T R : Nat → Nat} {σ : pm_H} (h : RelB k sz T R n a e σ) {l p : Nat} (hl : l < sz) (hp : p ≤ 6) (h01 : σ.1 24 0 = nI 1) (hin : s_in (σ.1 5) (σ.1 24) l = true) : ∀ (m w : Nat) (f g : Nat → Int32) (v4 : Value), w + m = 100 → 1 ≤ w → ∃ v f' g', pm_run (xe (dx + 5)) pg_X11_needs (41, [.ref 0, .int (nI l), .int (nI p), .int (nI w)], [], pm_wC σ 26 f) = some (some (.int v), pm_wC σ 26 f') ∧ ∀ σ', RR σ σ' → pm_run (xe (dm + 3)) pg_X12_needs (60, [.ref 133, .int (nI l), .int (nI p), .int (nI w), v4], [], pm_wC σ' 143 g) = some (some (.int v), pm_wC σ' 143 g')
  | 0, w, f, g, v4, hm, hw => by
    refine ⟨-1, f, g, ?_, fun σ' hR => ?_⟩
    · rw [sg_X11_needs_41, if_pos (nI_lt (by omega) (by omega))]
    · rw [sg_X12_needs_60, if_pos (nI_lt (by omega) (by omega))]
  | m + 1, w, f, g, v4, hm, hw => by
    have h1 := h.1.1
    have h2 := h.1.2.1
    have h3 := h.1.2.2.1
    have h4 := h.1.2.2.2.1
    have h5 := h.1.2.2.2.2.1 (by omega)
    have h6 := h.1.2.2.2.2.2.1
    have h7 := h.1.2.2.2.2.2.2
    have h8 := h.2.1.1
    obtain ⟨hn36, -, hw70⟩ := relM_n h3 h4 h8
    have h00 : ¬ σ.1 24 0 = 0 := by rw [h01]; decide
    have h47 : σ.1 24 (47 + l) = 0 := by
      unfold s_in at hin
      simp only [Bool.and_eq_true, decide_eq_true_eq] at hin
      exact hin.1
    obtain ⟨q, q1, q2, q3⟩ := f_need_pos (t := σ.1 4) h3 h8 hl h00 h47 hw (show w ≤ 99 by omega)
    obtain ⟨n1, n2⟩ := need_okP (u := g) (t' := σ.1 138) (r' := σ.1 140) h3 h5 h6 h7 h8 hl (show w ≤ 99 by omega)
    have n3 := need_cls (t := σ.1 4) (r := σ.1 5) (f := σ.1 24) (u := f) (w := w) h3 hl h00
    rw [q3] at n2 n3
    obtain ⟨v, f', g', ih1, ih2⟩ := lp_needs dx dm h hl hp h01 hin m (w + 1) (g_on sz (σ.1 4) (σ.1 5) (g_made (σ.1 4) (σ.1 5) (upd (va_cpy (σ.1 24) f 0 0 71) (5 + l) (nI w)) l true)) (upd (upd (u_copy (σ.1 142) g n) (11 * l + 3) (nI w)) (11 * l + 10) (σ.1 142 70)) (.int (nI q)) (by omega) (by omega)
    have cls : pm_run (xe (dx + 5)) pg_X11_needs (41, [.ref 0, .int (nI l), .int (nI p), .int (nI w)], [], pm_wC σ 26 f) = if nI p < nI q then pm_run (xe (dx + 5)) pg_X11_needs (41, [.ref 0, .int (nI l), .int (nI p), .int (nI (w + 1))], [], pm_wC σ 26 (g_on sz (σ.1 4) (σ.1 5) (g_made (σ.1 4) (σ.1 5) (upd (va_cpy (σ.1 24) f 0 0 71) (5 + l) (nI w)) l true))) else some (some (.int (nI w)), pm_wC σ 26 (g_on sz (σ.1 4) (σ.1 5) (g_made (σ.1 4) (σ.1 5) (upd (va_cpy (σ.1 24) f 0 0 71) (5 + l) (nI w)) l true))) := by
      have hmk := w_make dx (pm_wC σ 26 (upd (va_cpy (σ.1 24) f 0 0 71) (5 + l) (nI w))) (c := 25) (who := l) true st_25 h3 (by rw [wC_ne _ _ (by decide)]; exact h1) (by omega)
      simp only [Nat.reduceAdd, wC_at, wC_wC, wC_ne _ _ (show 4 ≠ 26 by decide), wC_ne _ _ (show 5 ≠ 26 by decide), show b32 true = nI 1 from rfl] at hmk
      have hpl := q_place (dx + 2) (pm_wC σ 26 (g_on sz (σ.1 4) (σ.1 5) (g_made (σ.1 4) (σ.1 5) (upd (va_cpy (σ.1 24) f 0 0 71) (5 + l) (nI w)) l true))) (c := 25) (l := l) st_25 (by rw [wC_ne _ _ (by decide)]; exact h1) h3 (by omega)
      simp only [Nat.reduceAdd, wC_at, wC_ne _ _ (show 4 ≠ 26 by decide), wC_ne _ _ (show 5 ≠ 26 by decide), n3] at hpl
      rw [sg_X11_needs_41, if_neg (nI_nlt (by omega) (by omega)), q_become (dx + 4) _ st_25 st_23]
      simp only [pm_cl_some, Option.toList_none, List.nil_append, Nat.reduceAdd, wC_at, wC_wC, wC_ne _ _ (show 24 ≠ 26 by decide)]
      rw [sg_X11_needs_58, w_ask (dx + 4) _ st_25 (by omega)]
      simp only [pm_cl_some, Option.toList_none, List.nil_append, Nat.reduceAdd, wC_at, wC_wC]
      rw [sg_X11_needs_67, hmk]
      simp only [pm_cl_some, Option.toList_some, List.cons_append, List.nil_append]
      rw [sg_X11_needs_76, hpl]
      simp only [pm_cl_some, Option.toList_some, List.cons_append, List.nil_append]
      rw [sg_X11_needs_85, nI_add]
    have ref : ∀ σ', RR σ σ' → pm_run (xe (dm + 3)) pg_X12_needs (60, [.ref 133, .int (nI l), .int (nI p), .int (nI w), v4], [], pm_wC σ' 143 g) = if nI p < nI q then pm_run (xe (dm + 3)) pg_X12_needs (60, [.ref 133, .int (nI l), .int (nI p), .int (nI (w + 1)), .int (nI q)], [], pm_wC σ' 143 (upd (upd (u_copy (σ.1 142) g n) (11 * l + 3) (nI w)) (11 * l + 10) (σ.1 142 70))) else some (some (.int (nI w)), pm_wC σ' 143 (upd (upd (u_copy (σ.1 142) g n) (11 * l + 3) (nI w)) (11 * l + 10) (σ.1 142 70))) := by
      intro σ' hR
      have hpl := r_placeOf dm (pm_wC σ' 143 (upd (upd (u_copy (σ.1 142) g n) (11 * l + 3) (nI w)) (11 * l + 10) (σ.1 142 70))) (q := 143) (l := l) rw_trial (by rw [wC_ne _ _ (by decide), hR.1]; exact h2) h3 hl (by rw [wC_at, wC_ne _ _ (by decide), hR.2.1]; exact n1)
      simp only [wC_at, wC_ne _ _ (show 138 ≠ 143 by decide), wC_ne _ _ (show 140 ≠ 143 by decide), hR.2.1, hR.2.2.1, n2] at hpl
      rw [sg_X12_needs_60, if_neg (nI_nlt (by omega) (by omega)), r_copy (dm + 2) _ rw_now rw_trial (by decide) hn36 (by rw [wC_ne _ _ (by decide), hR.2.2.2]; exact hw70), wC_ne _ _ (by decide), wC_at, wC_wC, hR.2.2.2]
      simp only [pm_cl_some, Option.toList_none, List.nil_append]
      rw [sg_X12_needs_77]
      simp (disch := omega) only [pk_mul, nI_add, ck_n, nI_clamp, wI_wC, wC_at, wC_wC, wC_ne, hR.2.2.2]
      simp only [Nat.add_assoc, Nat.reduceAdd]
      rw [sg_X12_needs_110, hpl]
      simp only [pm_cl_some, Option.toList_some, List.cons_append, List.nil_append]
      rw [sg_X12_needs_119, if_pos (by rw [← nI_0]; exact nI_lt (by omega) (by omega)), nI_add]
    by_cases c : nI p < nI q
    · simp only [if_pos c] at cls ref
      exact ⟨v, f', g', by rw [cls]; exact ih1, fun σ' hR => by rw [ref σ' hR]; exact ih2 σ' hR⟩
    · simp only [if_neg c] at cls ref
      exact ⟨_, _, _, cls, ref⟩
theorem b_needs (d : Nat) {k sz n a e : Nat} {T R : Nat → Nat} {σ : pm_H} (h : RelB k sz T R n a e σ) (x y : Int32) : Both (d + 6) (d + 4) 262 263 [.int x, .int y] σ (PostB k sz T R σ) := by
  have hh := h
  obtain ⟨⟨h1, h2, h3, h4, h5, h6, h7⟩, ⟨h8, h9⟩, -⟩ := hh
  have hz : ∀ f, (th0 (pm_wC σ 26 f)).1 133 22 = nI sz := fun f => by rw [th_f _ (by decide), wC_ne _ _ (by decide)]; exact h2
  unfold Both
  rw [en_X11_needs, sg_X11_needs_0]
  have rr0 : ∀ f, xe (d + 4) 263 [.ref 133, .int x, .int y] (pm_wC σ 26 f) = pm_cl (xe (d + 3) 132 [.ref 133, .int x] (th0 (pm_wC σ 26 f))) (fun r => pm_run (xe (d + 3)) pg_X12_needs (10, [.ref 133, .int x, .int y, .null, .null], r.1.toList ++ [], r.2)) := fun f => by
    rw [en_X12_needs, sg_X12_needs_0]
    rfl
  have fin : ∀ v f, xe (d + 4) 263 [.ref 133, .int x, .int y] (pm_wC σ 26 f) = some (some v, th0 (pm_wC σ 26 f)) → f = σ.1 26 → ∃ σ2, xe (d + 4) 263 [.ref 133, .int x, .int y] σ = some (some v, σ2) ∧ PostB k sz T R σ σ2 := fun v f hv hf => by
    subst hf
    rw [wC_self] at hv
    exact ⟨_, hv, PostB_th h⟩
  rcases ix_cases x h3 with hx | ⟨l, hl, rfl⟩
  · obtain ⟨σ2, e1, e2⟩ := fin (.int (-1)) (σ.1 26) (by
      rw [rr0, r_isL_n (d + 2) _ (hz _) hx]
      simp only [pm_cl_some, Option.toList_some, List.cons_append, List.nil_append]
      rw [sg_X12_needs_10, if_pos n00]) rfl
    refine ⟨.int (-1), σ, σ2, ?_, e1, e2⟩
    rw [q_in_n (d + 3) σ h1 hx]
    simp only [pm_cl_some, Option.toList_some, List.cons_append, List.nil_append]
    rw [sg_X11_needs_5, if_pos n00]
  · rw [q_in_y (d + 2) σ h1 h3 hl]
    simp only [pm_cl_some, Option.toList_some, List.cons_append, List.nil_append]
    rw [sg_X11_needs_5]
    have hml := relM_in (t := σ.1 4) (T := T) (h7 1 (by omega)) h8 hl
    have rr1 : ∀ f, xe (d + 4) 263 [.ref 133, .int (nI l), .int y] (pm_wC σ 26 f) = pm_run (xe (d + 3)) pg_X12_needs (22, [.ref 133, .int (nI l), .int y, .null, .null], [.int (b32 (s_in (σ.1 5) (σ.1 24) l))], th0 (pm_wC σ 26 f)) := fun f => by
      rw [rr0 f, r_isL_y (d + 2) _ (hz f) h3 hl]
      simp only [pm_cl_some, Option.toList_some, List.cons_append, List.nil_append]
      rw [sg_X12_needs_10, if_neg n10, r_isOn (d + 2) _ rw_now (by omega), (RR_t (σ := σ) f).2.2.1, (RR_t (σ := σ) f).2.2.2, hml]
      simp only [pm_cl_some, Option.toList_some, List.cons_append, List.nil_append]
    cases hil : s_in (σ.1 5) (σ.1 24) l
    · obtain ⟨σ2, e1, e2⟩ := fin (.int (-1)) (σ.1 26) (by rw [rr1, hil, sg_X12_needs_22, if_pos bf0]) rfl
      rw [if_pos bf0]
      exact ⟨_, _, σ2, rfl, e1, e2⟩
    · have rr2 : ∀ f, xe (d + 4) 263 [.ref 133, .int (nI l), .int y] (pm_wC σ 26 f) = (if σ.1 24 0 = nI 1 then pm_cl (xe (d + 3) 69 [.long y.toInt64, .long (1 : Int64), .long (6 : Int64)] (th0 (pm_wC σ 26 f))) (fun r => pm_run (xe (d + 3)) pg_X12_needs (45, [.ref 133, .int (nI l), .int y, .null, .null], r.1.toList ++ [], r.2)) else some (some (.int (-1)), th0 (pm_wC σ 26 f))) := fun f => by
        rw [rr1 f, hil, sg_X12_needs_22, if_neg bt0, ck_n _ (by omega) (by omega), nI_clamp (by omega), (RR_t (σ := σ) f).2.2.2, h8.2.2.1.1.1]
      rw [if_neg bt0, q_round (d + 4) σ st_23]
      simp only [pm_cl_some, Option.toList_some, List.cons_append, List.nil_append, Nat.reduceAdd]
      rw [sg_X11_needs_15]
      by_cases c1 : σ.1 24 0 = nI 1
      · rw [if_pos c1]
        rcases rng_cases y 1 6 (by omega) (by omega) with hy | ⟨p, hp1, hp2, rfl⟩
        · obtain ⟨σ2, e1, e2⟩ := fin (.int (-1)) (σ.1 26) (by
            rw [rr2, if_pos c1, r_rng_n (d + 2) _ (a := 1) (b := 6) (by decide) (by decide) hy]
            simp only [pm_cl_some, Option.toList_some, List.cons_append, List.nil_append]
            rw [sg_X12_needs_45, if_pos n00]) rfl
          refine ⟨.int (-1), σ, σ2, ?_, e1, e2⟩
          rcases hy with hy | hy
          · rw [if_pos hy]
          · by_cases hy2 : y < nI 1
            · rw [if_pos hy2]
            · rw [if_neg hy2, if_pos hy]
        · obtain ⟨lo, hlo, hlo1, hlo2⟩ := rel_lo99 h3 (h5 (by omega)) h8 hl hil
          rw [if_neg (nI_nlt hp1 (by omega)), if_neg (nI_nlt hp2 (by omega)), q_least (d + 4) _ st_23 (by omega)]
          simp only [pm_cl_some, Option.toList_some, List.cons_append, List.nil_append, Nat.reduceAdd, hlo]
          rw [sg_X11_needs_40]
          obtain ⟨v, f', g', v1, v2⟩ := lp_needs d d h hl hp2 c1 hil (100 - lo) lo (σ.1 26) (σ.1 143) .null (by omega) hlo1
          rw [wC_self] at v1
          refine ⟨.int v, _, _, v1, ?_, PostB_tr h f' g'⟩
          have hR := RR_t (σ := σ) f'
          have e143 : (th0 (pm_wC σ 26 f')).1 143 = σ.1 143 := by rw [th_ne _ (by decide), wC_ne _ _ (by decide)]
          rw [rr2, if_pos c1, r_rng_y (d + 2) _ (a := 1) (b := 6) (by decide) (by decide) hp1 hp2 (by decide)]
          simp only [pm_cl_some, Option.toList_some, List.cons_append, List.nil_append]
          rw [sg_X12_needs_45, if_neg n10, r_least (d + 2) _ rw_now (by omega), hR.2.2.2, least_eq h8.2.2.1 hl, hlo]
          simp only [pm_cl_some, Option.toList_some, List.cons_append, List.nil_append]
          rw [sg_X12_needs_59]
          have := v2 _ hR
          rw [← e143, wC_self] at this
          exact this
      · obtain ⟨σ2, e1, e2⟩ := fin (.int (-1)) (σ.1 26) (by rw [rr2, if_neg c1]) rfl
        rw [if_neg c1]
        exact ⟨_, _, σ2, rfl, e1, e2⟩

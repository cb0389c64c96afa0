/-! ===== ranges, lifters ===== -/
theorem i64_lt (a b : Int32) : a.toInt64 < b.toInt64 ↔ a < b := by
  rw [Int64.lt_iff_toInt_lt, Int32.lt_iff_toInt_lt, Int32.toInt_toInt64, Int32.toInt_toInt64]
theorem r_rng (d : Nat) (σ : pm_H) (x lo hi : Int32) {L H : Int64} (hL : L = lo.toInt64) (hH : H = hi.toInt64) : xe (d + 1) 69 [.long x.toInt64, .long L, .long H] σ = some (some (.int (b32 (!decide (x < lo) && !decide (hi < x)))), σ) := by
  subst hL hH
  rw [en_X12_isIn, sg_X12_isIn_0]
  have h1 : (lg_cmp x.toInt64 lo.toInt64 < 0) = (x < lo) := propext ((lg_cmp_lt _ _).trans (i64_lt _ _))
  have h2 : (0 < lg_cmp x.toInt64 hi.toInt64) = (hi < x) := propext ((lg_cmp_gt _ _).trans (i64_lt _ _))
  simp only [h1, h2]
  by_cases c1 : x < lo
  · simp only [c1, if_true, decide_true, Bool.not_true, Bool.false_and, b32, cond_false]
  · by_cases c2 : hi < x
    · simp only [c1, c2, if_true, if_false, decide_true, decide_false, Bool.not_true, Bool.and_false, b32, cond_false]
    · simp only [c1, c2, if_false, decide_false, Bool.not_false, Bool.and_self, b32, cond_true]
theorem r_rng_y (d : Nat) (σ : pm_H) {a b j : Nat} {L H : Int64} (hL : L = (nI a).toInt64) (hH : H = (nI b).toInt64) (h1 : a ≤ j) (h2 : j ≤ b) (hb : b < 2 ^ 31) : xe (d + 1) 69 [.long (nI j).toInt64, .long L, .long H] σ = some (some (.int (nI 1)), σ) := by
  rw [r_rng d σ (nI j) (nI a) (nI b) hL hH, decide_eq_false (nI_nlt h1 (by omega)), decide_eq_false (nI_nlt h2 (by omega))]
  rfl
theorem r_rng_n (d : Nat) (σ : pm_H) {a b : Nat} {x : Int32} {L H : Int64} (hL : L = (nI a).toInt64) (hH : H = (nI b).toInt64) (h : x < nI a ∨ nI b < x) : xe (d + 1) 69 [.long x.toInt64, .long L, .long H] σ = some (some (.int (nI 0)), σ) := by
  rw [r_rng d σ x (nI a) (nI b) hL hH]
  rcases h with h | h
  · rw [decide_eq_true h]
    rfl
  · rw [decide_eq_true h, Bool.not_true, Bool.and_false]
    rfl
theorem rng_cases (x : Int32) (a b : Nat) (ha : a < 2 ^ 31) (hb : b + 1 < 2 ^ 31) : (x < nI a ∨ nI b < x) ∨ ∃ j, a ≤ j ∧ j ≤ b ∧ x = nI j := by
  by_cases c1 : x < nI a
  · exact Or.inl (Or.inl c1)
  · by_cases c2 : nI b < x
    · exact Or.inl (Or.inr c2)
    · rcases pk_ix x (n := b + 1) hb with h | h | ⟨j, hj, e⟩
      · refine absurd (Int32.lt_of_lt_of_le h ?_) c1
        rw [← nI_0]
        exact nI_le (Nat.zero_le _) ha
      · exact absurd (Int32.lt_of_lt_of_le (nI_lt (Nat.lt_succ_self b) hb) h) c2
      · by_cases ca : a ≤ j
        · exact Or.inr ⟨j, ca, by omega, e⟩
        · exact absurd (by rw [e]; exact nI_lt (by omega) (by omega)) c1
theorem ix_cases (x : Int32) {sz : Nat} (hs : sz ≤ 6) : (x < 0 ∨ ¬ x < nI sz) ∨ ∃ j, j < sz ∧ x = nI j := by
  rcases pk_ix x (n := sz) (by omega) with h | h | ⟨j, hj, e⟩
  · exact Or.inl (Or.inl h)
  · exact Or.inl (Or.inr (Int32.not_lt.mpr h))
  · exact Or.inr ⟨j, hj, e⟩
theorem q_isL_y (d : Nat) (σ : pm_H) {sz j : Nat} (hz : σ.1 3 2 = nI sz) (hs : sz ≤ 6) (hj : j < sz) : xe (d + 1) 117 [.ref 0, .int (nI j)] σ = some (some (.int (nI 1)), σ) := by
  rw [en_X11_isLifter, sg_X11_isLifter_0, hz, if_neg (nI_pos (by omega)), if_pos (nI_lt hj (by omega))]
theorem q_isL_n (d : Nat) (σ : pm_H) {sz : Nat} {x : Int32} (hz : σ.1 3 2 = nI sz) (h : x < 0 ∨ ¬ x < nI sz) : xe (d + 1) 117 [.ref 0, .int x] σ = some (some (.int (nI 0)), σ) := by
  rw [en_X11_isLifter, sg_X11_isLifter_0, hz]
  rcases h with h | h
  · rw [if_pos h]
  · rw [if_neg h]
    exact ite_self _
theorem r_isL_y (d : Nat) (σ : pm_H) {sz j : Nat} (hz : σ.1 133 22 = nI sz) (hs : sz ≤ 6) (hj : j < sz) : xe (d + 1) 132 [.ref 133, .int (nI j)] σ = some (some (.int (nI 1)), σ) := by
  rw [en_X12_isLifter, sg_X12_isLifter_0, hz, if_neg (nI_pos (by omega)), if_pos (nI_lt hj (by omega))]
theorem r_isL_n (d : Nat) (σ : pm_H) {sz : Nat} {x : Int32} (hz : σ.1 133 22 = nI sz) (h : x < 0 ∨ ¬ x < nI sz) : xe (d + 1) 132 [.ref 133, .int x] σ = some (some (.int (nI 0)), σ) := by
  rw [en_X12_isLifter, sg_X12_isLifter_0, hz]
  rcases h with h | h
  · rw [if_pos h]
  · rw [if_neg h]
    exact ite_self _
theorem q_in_y (d : Nat) (σ : pm_H) {sz j : Nat} (hz : σ.1 3 2 = nI sz) (hs : sz ≤ 6) (hj : j < sz) : xe (d + 3) 184 [.ref 0, .int (nI j)] σ = some (some (.int (b32 (s_in (σ.1 5) (σ.1 24) j))), σ) := by
  rw [en_X11_isIn, sg_X11_isIn_0, q_isL_y (d + 1) σ hz hs hj]
  simp only [pm_cl_some, Option.toList_some, List.cons_append, List.nil_append]
  rw [sg_X11_isIn_5, if_neg (by decide), q_isIn d σ st_23 (by omega)]
  simp only [pm_cl_some, Option.toList_some, List.cons_append, List.nil_append]
  rw [sg_X11_isIn_16]
  cases s_in (σ.1 5) (σ.1 24) j <;> rfl
theorem q_in_n (d : Nat) (σ : pm_H) {sz : Nat} {x : Int32} (hz : σ.1 3 2 = nI sz) (h : x < 0 ∨ ¬ x < nI sz) : xe (d + 2) 184 [.ref 0, .int x] σ = some (some (.int (nI 0)), σ) := by
  rw [en_X11_isIn, sg_X11_isIn_0, q_isL_n d σ hz h]
  simp only [pm_cl_some, Option.toList_some, List.cons_append, List.nil_append]
  rw [sg_X11_isIn_5, if_pos (by decide)]
theorem q_round (d : Nat) (σ : pm_H) {c : Nat} (hc : st_ok c) : xe (d + 1) 129 [.ref c] σ = some (some (.int (σ.1 (c + 1) 0)), σ) := by
  rw [en_X9_round, sg_X9_round_0 hc.1 hc.2]
  simp (disch := omega) only [ck_n, nI_clamp]
theorem q_made (d : Nat) (σ : pm_H) {c : Nat} (hc : st_ok c) : xe (d + 1) 203 [.ref c] σ = some (some (.int (σ.1 (c + 1) 4)), σ) := by
  rw [en_X9_made, sg_X9_made_0 hc.1 hc.2]
  simp (disch := omega) only [ck_n, nI_clamp]
def m_least (w : Nat → Int32) (l : Nat) : Int32 := if w (11 * l + 4) < w 67 then w 67 else w (11 * l + 4)
theorem r_least (d : Nat) (σ : pm_H) {q l : Nat} (hq : rw_ok q) (hl : l < 6) : xe (d + 1) 189 [.ref 133, .ref q, .int (nI l)] σ = some (some (.int (m_least (σ.1 q) l)), σ) := by
  rw [en_X12_leastOf_, sg_X12_leastOf__0 hq]
  simp (disch := omega) only [pk_mul, nI_add, ck_n, nI_clamp, m_least]
theorem least_eq {sz : Nat} {f w : Nat → Int32} (hr : relW sz f w) {l : Nat} (hl : l < sz) : m_least w l = s_least f l := by
  unfold m_least s_least
  rw [hr.1.2.1, (hr.2 l hl).1.2.2.2.2]
theorem q_isGood (d : Nat) (σ : pm_H) {n : Nat} (hn : n < 8) : xe (d + 2) 169 [.int (nI n)] σ = some (some (.int (b32 (gd n))), σ) := by
  rw [en_X6_isGood, sg_X6_isGood_0]
  have : nI n &&& nI 7 = nI n := by
    rcases (show n = 0 ∨ n = 1 ∨ n = 2 ∨ n = 3 ∨ n = 4 ∨ n = 5 ∨ n = 6 ∨ n = 7 by omega) with rfl | rfl | rfl | rfl | rfl | rfl | rfl | rfl <;> decide
  rw [this, q_bit d σ hn]
  simp only [pm_cl_some, Option.toList_some, List.cons_append, List.nil_append]
  rw [sg_X6_isGood_7]
  rcases (show n = 0 ∨ n = 1 ∨ n = 2 ∨ n = 3 ∨ n = 4 ∨ n = 5 ∨ n = 6 ∨ n = 7 by omega) with rfl | rfl | rfl | rfl | rfl | rfl | rfl | rfl <;> rfl
/-! ===== the log ===== -/
def x_log (σ : pm_H) (n : Nat) (v : Nat → Int32) : pm_H :=
  pm_wC (pm_wC (pm_wC (pm_wC (pm_wC (pm_wC σ 28 (upd (σ.1 28) n (v 0))) 29 (upd (σ.1 29) n (v 1))) 30 (upd (σ.1 30) n (v 2))) 31 (upd (σ.1 31) n (v 3))) 32 (upd (σ.1 32) n (v 4))) 27 (upd (σ.1 27) 5 (nI (n + 1)))
theorem q_logAdd (d : Nat) (σ : pm_H) {n : Nat} (hn : n < 36) (h : σ.1 27 5 = nI n) (v : Nat → Int32) : xe (d + 1) 176 [.ref 27, .int (v 0), .int (v 1), .int (v 2), .int (v 4), .int (v 3)] σ = some (none, x_log σ n v) := by
  rw [en_X6_add, sg_X6_add_0, h, if_pos (nI_lt hn (by omega))]
  simp (disch := omega) only [ck_n, nI_clamp, wI_wC, wC_ne, h]
  rw [sg_X6_add_29]
  simp (disch := omega) only [ck_n, nI_clamp, wI_wC, wC_ne, h]
  rw [sg_X6_add_50]
  simp (disch := omega) only [ck_n, nI_clamp, wI_wC, wC_ne, h, nI_add]
  rfl
/-- a lift by one -/
def v_lift (f : Nat → Int32) (who li : Nat) : Nat → Int32 := fun q => if q = 0 then nI who else if q = 1 then f (5 + who) else if q = 2 then nI li else if q = 3 then f 2 + (if f 3 = nI who then nI 2 else nI 1) else f 0
def x_lift (σ : pm_H) (sz n a e who li : Nat) : pm_H :=
  x_log (pm_wC (x_past σ a e) 24 (g_on sz (σ.1 4) (σ.1 5) (g_made (σ.1 4) (σ.1 5) (σ.1 24) who (gd li)))) n (v_lift (σ.1 24) who li)
theorem past_ne (σ : pm_H) {a e c : Nat} (h0 : c ≠ 0) (h : c ≠ 93 + e) : (x_past σ a e).1 c = σ.1 c := by
  unfold x_past
  rw [wC_ne _ _ h0, wC_ne _ _ h]
theorem q_liftBy (d : Nat) (σ : pm_H) {sz n a e who li : Nat} (hz : σ.1 3 2 = nI sz) (hs : sz ≤ 6) (ha : a ≤ 40) (he : e < 40) (ha' : σ.1 0 16 = nI a) (he' : σ.1 0 15 = nI e) (hw : who < 6) (hli : li < 8) (hn : n < 36) (h27 : σ.1 27 5 = nI n) : xe (d + 6) 167 [.ref 0, .int (nI who), .int (nI li)] σ = some (none, x_lift σ sz n a e who li) := by
  rw [en_X11_liftBy, sg_X11_liftBy_0, q_keepPast (d + 4) σ ha he ha' he']
  simp only [pm_cl_some, Option.toList_none, List.nil_append]
  have p3 := past_ne σ (a := a) (e := e) (show 3 ≠ 0 by omega) (show 3 ≠ 93 + e by omega)
  have p4 := past_ne σ (a := a) (e := e) (show 4 ≠ 0 by omega) (show 4 ≠ 93 + e by omega)
  have p5 := past_ne σ (a := a) (e := e) (show 5 ≠ 0 by omega) (show 5 ≠ 93 + e by omega)
  have p24 := past_ne σ (a := a) (e := e) (show 24 ≠ 0 by omega) (show 24 ≠ 93 + e by omega)
  have p27 := past_ne σ (a := a) (e := e) (show 27 ≠ 0 by omega) (show 27 ≠ 93 + e by omega)
  rw [sg_X11_liftBy_4, q_round (d + 4) _ st_23]
  simp only [pm_cl_some, Option.toList_some, List.cons_append, List.nil_append, Nat.reduceAdd, p24]
  rw [sg_X11_liftBy_11, q_of (d + 4) _ st_23 (show 5 + who < 71 by omega)]
  simp only [pm_cl_some, Option.toList_some, List.cons_append, List.nil_append, Nat.reduceAdd, p24]
  rw [sg_X11_liftBy_21, q_isGood (d + 3) _ hli]
  simp only [pm_cl_some, Option.toList_some, List.cons_append, List.nil_append]
  rw [sg_X11_liftBy_41, w_make d _ (gd li) st_23 hs (by rw [p3]; exact hz) hw]
  simp only [pm_cl_some, Option.toList_some, List.cons_append, List.nil_append, Nat.reduceAdd, p24, p4, p5]
  rw [sg_X11_liftBy_44]
  have hv := q_logAdd (d + 4) (pm_wC (x_past σ a e) 24 (g_on sz (σ.1 4) (σ.1 5) (g_made (σ.1 4) (σ.1 5) (σ.1 24) who (gd li)))) hn (by rw [wC_ne _ _ (by omega), p27]; exact h27) (v_lift (σ.1 24) who li)
  simp only [v_lift, if_true, if_false, show ¬ (1 = 0) by decide, show ¬ (2 = 0) by decide, show ¬ (2 = 1) by decide, show ¬ (3 = 0) by decide, show ¬ (3 = 1) by decide, show ¬ (3 = 2) by decide, show ¬ (4 = 0) by decide, show ¬ (4 = 1) by decide, show ¬ (4 = 2) by decide, show ¬ (4 = 3) by decide] at hv
  rw [hv]
  simp only [pm_cl_some, Option.toList_none, List.nil_append]
  rw [sg_X11_liftBy_47]
  rfl

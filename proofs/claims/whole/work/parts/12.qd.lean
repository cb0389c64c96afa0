/-! ===== Stand: a lift ===== -/
def g_mk2 (t r f : Nat → Int32) (who : Nat) (w : Int32) (good : Bool) : Nat → Int32 :=
  let f4 := upd (upd (upd (upd (upd f (41 + who) (f 2)) (11 + who) (f (11 + who) + nI 1)) (35 + who) (f (35 + who) + nI 1)) (23 + who) (r 0)) (17 + who) w
  if good then
    let more := if r 2 < t (who * 10 + 9) then t (who * 10 + 9) else r 2
    upd (upd (upd (upd (upd f4 (if f 0 = 0 then 53 + who else 59 + who) w) (65 + who) (f 4)) (17 + who) (w + r 2)) (5 + who) (if w + more < nI 99 then w + more else nI 99)) 4 (f 4 + nI 1)
  else upd f4 4 (f 4 + nI 1)
theorem w_make226 (d : Nat) (σ : pm_H) {c sz who : Nat} {a2 a3 : Int32} (hc : st_ok c) (hs : sz ≤ 6) (hz : σ.1 3 2 = nI sz) (F : Nat → Int32) (v : Value) (hv : v = .null ∨ ∃ x, v = .int x) : pm_run (xe (d + 4)) pg_X9_make (226, [.ref c, .int (nI who), .int a2, .int a3, v], [], pm_wC σ (c + 1) F) = some (some (.int (F 2)), pm_wC σ (c + 1) (g_on sz (σ.1 4) (σ.1 5) F)) := by
  have go := w_goOn d (pm_wC σ (c + 1) F) hc hs (by rw [wC_ne σ _ (st_3 hc)]; exact hz)
  rcases hv with rfl | ⟨x, rfl⟩
  · rw [sg_X9_make_226 hc.1 hc.2, go]
    simp (disch := omega) only [ck_n, nI_clamp, pm_cl_some, Option.toList_none, List.nil_append, wC_at, wC_wC, wC_ne _ _ (st_4 hc), wC_ne _ _ (st_5 hc)]
    rw [sg_X9_make_238 hc.1 hc.2]
  · rw [sg_X9_make_226_10 hc.1 hc.2, go]
    simp (disch := omega) only [ck_n, nI_clamp, pm_cl_some, Option.toList_none, List.nil_append, wC_at, wC_wC, wC_ne _ _ (st_4 hc), wC_ne _ _ (st_5 hc)]
    rw [sg_X9_make_238 hc.1 hc.2]
theorem w_make144 (d : Nat) (σ : pm_H) {c sz who : Nat} {a2 w : Int32} (hc : st_ok c) (hs : sz ≤ 6) (hz : σ.1 3 2 = nI sz) (hw : who < 6) (F : Nat → Int32) : pm_run (xe (d + 4)) pg_X9_make (144, [.ref c, .int (nI who), .int a2, .int w, .null], [], pm_wC σ (c + 1) F) = some (some (.int (F 2)), pm_wC σ (c + 1) (g_on sz (σ.1 4) (σ.1 5) (upd (upd (upd (upd F (65 + who) (F 4)) (17 + who) (w + σ.1 5 2)) (5 + who) (if w + (if σ.1 5 2 < σ.1 4 (who * 10 + 9) then σ.1 4 (who * 10 + 9) else σ.1 5 2) < nI 99 then w + (if σ.1 5 2 < σ.1 4 (who * 10 + 9) then σ.1 4 (who * 10 + 9) else σ.1 5 2) else nI 99)) 4 (F 4 + nI 1)))) := by
  rw [sg_X9_make_144 hc.1 hc.2]
  simp (disch := omega) only [nI_add, ck_n, nI_clamp, wI_wC, wC_at, wC_wC]
  rw [q_step]
  simp only [pm_cl_some, Option.toList_some, List.cons_append, List.nil_append]
  rw [sg_X9_make_175 hc.1 hc.2]
  simp (disch := omega) only [nI_add, ck_n, nI_clamp, wI_wC, wC_at, wC_wC, wC_ne _ _ (st_5 hc)]
  rw [q_step]
  simp only [pm_cl_some, Option.toList_some, List.cons_append, List.nil_append]
  rw [sg_X9_make_184 hc.1 hc.2, q_hof (d + 3) _ (by omega) hw]
  simp only [pm_cl_some, Option.toList_some, List.cons_append, List.nil_append]
  rw [sg_X9_make_194 hc.1 hc.2]
  simp (disch := omega) only [nI_add, ck_n, nI_clamp, wI_wC, wC_at, wC_wC, wC_ne _ _ (st_5 hc), wC_ne _ _ (st_4 hc), up_ne]
  rw [w_make226 d σ hc hs hz _ _ (Or.inr ⟨_, rfl⟩)]
  simp (disch := omega) only [up_ne]
theorem w_make47 (d : Nat) (σ : pm_H) {c sz who : Nat} {w : Int32} (good : Bool) (hc : st_ok c) (hs : sz ≤ 6) (hz : σ.1 3 2 = nI sz) (hw : who < 6) (F : Nat → Int32) : pm_run (xe (d + 4)) pg_X9_make (47, [.ref c, .int (nI who), .int (b32 good), .int w, .null], [], pm_wC σ (c + 1) F) = some (some (.int (F 2)), pm_wC σ (c + 1) (g_on sz (σ.1 4) (σ.1 5) (g_mk2 (σ.1 4) (σ.1 5) F who w good))) := by
  rw [sg_X9_make_47 hc.1 hc.2]
  simp (disch := omega) only [nI_add, ck_n, nI_clamp, wI_wC, wC_at, wC_wC, up_ne]
  rw [sg_X9_make_75 hc.1 hc.2]
  simp (disch := omega) only [nI_add, ck_n, nI_clamp, wI_wC, wC_at, wC_wC, up_ne]
  rw [q_changes]
  simp only [pm_cl_some, Option.toList_some, List.cons_append, List.nil_append]
  rw [sg_X9_make_103 hc.1 hc.2]
  simp (disch := omega) only [nI_add, ck_n, nI_clamp, wI_wC, wC_at, wC_wC, up_ne, wC_ne _ _ (st_5 hc), Nat.reduceAdd]
  cases good with
  | false =>
    rw [if_pos (by decide), w_make226 d σ hc hs hz _ _ (Or.inl rfl)]
    simp (disch := omega) only [up_ne, g_mk2, Bool.false_eq_true, if_false]
  | true =>
    rw [if_neg (by decide)]
    by_cases h0 : F 0 = 0
    · rw [if_pos h0, w_make144 d σ hc hs hz hw]
      simp (disch := omega) only [up_ne, g_mk2, if_true, h0]
    · rw [if_neg h0, w_make144 d σ hc hs hz hw]
      simp (disch := omega) only [up_ne, g_mk2, if_true, h0, if_false]
def g_made (t r f : Nat → Int32) (who : Nat) (good : Bool) : Nat → Int32 :=
  g_mk2 t r (upd (upd (upd f 2 (f 2 + (if f 3 = nI who then nI 2 else nI 1))) 1 (f (5 + who))) 3 (nI who)) who (f (5 + who)) good
theorem w_make (d : Nat) (σ : pm_H) {c sz who : Nat} (good : Bool) (hc : st_ok c) (hs : sz ≤ 6) (hz : σ.1 3 2 = nI sz) (hw : who < 6) : xe (d + 5) 171 [.ref c, .int (nI who), .int (b32 good)] σ = some (some (.int (σ.1 (c + 1) 2 + (if σ.1 (c + 1) 3 = nI who then nI 2 else nI 1))), pm_wC σ (c + 1) (g_on sz (σ.1 4) (σ.1 5) (g_made (σ.1 4) (σ.1 5) (σ.1 (c + 1)) who good))) := by
  rw [en_X9_make, sg_X9_make_0 hc.1 hc.2]
  simp (disch := omega) only [nI_add, ck_n, nI_clamp, wI_wC, wC_at, wC_wC]
  unfold g_made
  by_cases h : σ.1 (c + 1) 3 = nI who
  · rw [if_pos h, w_make47 d σ good hc hs hz hw]
    simp (disch := omega) only [up_ne, up_at, h, if_true]
  · rw [if_neg h, w_make47 d σ good hc hs hz hw]
    simp (disch := omega) only [up_ne, up_at, h, if_false]
theorem w_leave (d : Nat) (σ : pm_H) {c sz l : Nat} (hc : st_ok c) (hs : sz ≤ 6) (hz : σ.1 3 2 = nI sz) (hl : l < 6) : xe (d + 5) 191 [.ref c, .int (nI l)] σ = some (none, pm_wC σ (c + 1) (g_on sz (σ.1 4) (σ.1 5) (upd (σ.1 (c + 1)) (47 + l) (nI 1)))) := by
  rw [en_X9_leave, sg_X9_leave_0 hc.1 hc.2]
  simp (disch := omega) only [nI_add, ck_n, nI_clamp, wI_wC]
  rw [w_goOn d _ hc hs (by rw [wC_ne σ _ (st_3 hc)]; exact hz)]
  simp only [pm_cl_some, Option.toList_none, List.nil_append, wC_at, wC_wC, wC_ne _ _ (st_4 hc), wC_ne _ _ (st_5 hc)]
  rw [sg_X9_leave_14 hc.1 hc.2]
/-- SUM -/
def s_sum (f : Nat → Int32) (l : Nat) : Int32 := if f (53 + l) = 0 then nI 0 else if f (59 + l) = 0 then nI 0 else f (53 + l) + f (59 + l)
theorem q_sum (d : Nat) (σ : pm_H) {c l : Nat} (hc : st_ok c) (hl : l < 6) : xe (d + 2) 122 [.ref c, .int (nI l)] σ = some (some (.int (s_sum (σ.1 (c + 1)) l)), σ) := by
  rw [en_X9_sum, sg_X9_sum_0 hc.1 hc.2, q_best d σ hc (by omega) hl]
  simp only [pm_cl_some, Option.toList_some, List.cons_append, List.nil_append]
  rw [sg_X9_sum_6 hc.1 hc.2, q_best d σ hc (by omega) hl]
  simp only [pm_cl_some, Option.toList_some, List.cons_append, List.nil_append]
  rw [sg_X9_sum_13 hc.1 hc.2]
  simp only [Nat.zero_mul, Nat.add_zero, Nat.one_mul, Nat.reduceAdd]
  unfold s_sum
  by_cases h1 : σ.1 (c + 1) (53 + l) = 0
  · simp only [h1, if_true]
  · by_cases h2 : σ.1 (c + 1) (59 + l) = 0 <;> simp only [h1, h2, if_true, if_false]
theorem q_become (d : Nat) (σ : pm_H) {c e : Nat} (hc : st_ok c) (he : st_ok e) : xe (d + 1) 215 [.ref c, .ref e] σ = some (none, pm_wC σ (c + 1) (va_cpy (σ.1 (e + 1)) (σ.1 (c + 1)) 0 0 71)) := by
  rw [en_X9_become, sg_X9_become_0 hc.1 hc.2 he.1 he.2]
  have h : ∀ t : Option pm_R, pm_cpk (nI 0) (nI 0) (nI 71) 71 71 t = t := fun t => if_pos (by decide)
  rw [h]
  simp (disch := omega) only [nI_clamp]

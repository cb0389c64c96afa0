/-! ===== Stand: what is written ===== -/
theorem wI_wC (σ : pm_H) (c k : Nat) (v : Int32) : pm_wI σ c k v = pm_wC σ c (upd (σ.1 c) k v) := rfl
theorem wC_at (σ : pm_H) (c : Nat) (f : Nat → Int32) : (pm_wC σ c f).1 c = f := by simp [pm_wC]
theorem wC_ne (σ : pm_H) {c q : Nat} (f : Nat → Int32) (h : q ≠ c) : (pm_wC σ c f).1 q = σ.1 q := by simp [pm_wC, h]
theorem wC_2 (σ : pm_H) (c : Nat) (f : Nat → Int32) : (pm_wC σ c f).2 = σ.2 := rfl
theorem wC_wC (σ : pm_H) (c : Nat) (f g : Nat → Int32) : pm_wC (pm_wC σ c f) c g = pm_wC σ c g := by
  unfold pm_wC
  refine Prod.ext (funext fun q => ?_) rfl
  by_cases h : q = c <;> simp [h]
theorem wC_self (σ : pm_H) (c : Nat) : pm_wC σ c (σ.1 c) = σ := by
  unfold pm_wC
  refine Prod.ext (funext fun q => ?_) rfl
  by_cases h : q = c
  · subst h; simp
  · simp [h]
theorem up_at (f : Nat → Int32) (k : Nat) (v : Int32) : upd f k v k = v := by simp [upd]
theorem up_ne (f : Nat → Int32) {k j : Nat} (v : Int32) (h : j ≠ k) : upd f k v j = f j := by simp [upd, h]
theorem st_ne {c q : Nat} (hc : st_ok c) (h : pm_kd q ≠ .inl (0, 71, 0)) : q ≠ c + 1 := fun e => h (by rw [e]; exact hc.2)
theorem st_3 {c : Nat} (hc : st_ok c) : 3 ≠ c + 1 := st_ne hc (by rw [kd_3]; exact fun h => by cases h)
theorem st_4 {c : Nat} (hc : st_ok c) : 4 ≠ c + 1 := st_ne hc (by rw [kd_4]; exact fun h => by cases h)
theorem st_5 {c : Nat} (hc : st_ok c) : 5 ≠ c + 1 := st_ne hc (by rw [kd_5]; exact fun h => by cases h)
theorem w_ask (d : Nat) (σ : pm_H) {c l : Nat} {v : Int32} (hc : st_ok c) (hl : l < 6) : xe (d + 1) 186 [.ref c, .int (nI l), .int v] σ = some (none, pm_wC σ (c + 1) (upd (σ.1 (c + 1)) (5 + l) v)) := by
  rw [en_X9_ask, sg_X9_ask_0 hc.1 hc.2]
  simp (disch := omega) only [nI_add, ck_n, nI_clamp, wI_wC]
theorem w_takeChange (d : Nat) (σ : pm_H) {c l : Nat} (hc : st_ok c) (hl : l < 6) : xe (d + 1) 187 [.ref c, .int (nI l)] σ = some (some (.int (σ.1 (c + 1) (23 + l) - nI 1)), pm_wC σ (c + 1) (upd (σ.1 (c + 1)) (23 + l) (σ.1 (c + 1) (23 + l) - nI 1))) := by
  rw [en_X9_takeChange, sg_X9_takeChange_0 hc.1 hc.2]
  simp (disch := omega) only [nI_add, ck_n, nI_clamp, wI_wC, wC_at, up_at]
def g_warm (f : Nat → Int32) (l : Nat) : Nat → Int32 :=
  upd (upd (upd f (29 + l) (if f (29 + l) + nI 1 < nI 9 then f (29 + l) + nI 1 else nI 9)) 2 (f 2 + nI 1)) (41 + l) (f 2 + nI 1)
theorem w_warmUp (d : Nat) (σ : pm_H) {c l : Nat} (hc : st_ok c) (hl : l < 6) : xe (d + 1) 195 [.ref c, .int (nI l)] σ = some (none, pm_wC σ (c + 1) (g_warm (σ.1 (c + 1)) l)) := by
  rw [en_X9_warmUp, sg_X9_warmUp_0 hc.1 hc.2]
  simp (disch := omega) only [nI_add, ck_n, nI_clamp]
  rw [sg_X9_warmUp_35 hc.1 hc.2]
  simp (disch := omega) only [nI_add, ck_n, nI_clamp, wI_wC, wC_at, wC_wC, up_at, up_ne, g_warm]
def g_start (t r f : Nat → Int32) (l k : Nat) : Nat → Int32 := upd (upd (upd f (23 + l) (r 0)) (17 + l) (nI 1)) (5 + l) (t (l * 10 + k))
theorem w_startRound (d : Nat) (σ : pm_H) {c l k : Nat} (hc : st_ok c) (hl : l < 6) (hk : k < 10) : xe (d + 2) 112 [.ref c, .int (nI l), .int (nI k)] σ = some (none, pm_wC σ (c + 1) (g_start (σ.1 4) (σ.1 5) (σ.1 (c + 1)) l k)) := by
  rw [en_X9_startRound, sg_X9_startRound_0 hc.1 hc.2, q_changes]
  simp only [pm_cl_some, Option.toList_some, List.cons_append, List.nil_append, nI_add]
  rw [sg_X9_startRound_15 hc.1 hc.2]
  simp (disch := omega) only [nI_add, ck_n, nI_clamp]
  rw [q_hof d _ hk hl]
  simp only [pm_cl_some, Option.toList_some, List.cons_append, List.nil_append]
  rw [sg_X9_startRound_42 hc.1 hc.2]
  simp (disch := omega) only [ck_n, nI_clamp, wI_wC, wC_at, wC_wC, wC_ne _ _ (st_4 hc), g_start]
/-- one lifter at the beginning of the jerk -/
def g_jerk1 (t r f : Nat → Int32) (l : Nat) : Nat → Int32 :=
  let f1 := upd (upd f (11 + l) (nI 0)) (41 + l) (f 2)
  if 0 < f (53 + l) then (if f (47 + l) = 0 then g_start t r f1 l 8 else upd f1 (47 + l) (nI 1)) else upd f1 (47 + l) (nI 1)
def g_jerkL (t r : Nat → Int32) : Nat → Nat → (Nat → Int32) → (Nat → Int32)
  | _, 0, f => f
  | i, k + 1, f => g_jerkL t r (i + 1) k (g_jerk1 t r f i)
def g_jerk (sz : Nat) (t r f : Nat → Int32) : Nat → Int32 := g_jerkL t r 0 sz (upd (upd (upd f 0 (nI 1)) 1 (nI 0)) 3 (-1))
theorem w_beginJerk_l (d : Nat) {c sz : Nat} (hc : st_ok c) (hs : sz ≤ 6) (σ : pm_H) (hz : σ.1 3 2 = nI sz) : ∀ (k i : Nat) (f : Nat → Int32), i + k = sz → pm_run (xe (d + 2)) pg_X9_beginJerk (23, [.ref c, .int (nI i)], [], pm_wC σ (c + 1) f) = some (none, pm_wC σ (c + 1) (g_jerkL (σ.1 4) (σ.1 5) i k f))
  | 0, i, f, h => by
    rw [sg_X9_beginJerk_23 hc.1 hc.2, wC_ne σ f (st_3 hc), hz, if_neg (nI_nlt (by omega) (by omega))]
    rfl
  | k + 1, i, f, h => by
    rw [sg_X9_beginJerk_23 hc.1 hc.2, wC_ne σ f (st_3 hc), hz, if_pos (nI_lt (by omega) (by omega))]
    simp (disch := omega) only [nI_add, ck_n, nI_clamp, wI_wC, wC_at, wC_wC, up_ne]
    rw [sg_X9_beginJerk_59 hc.1 hc.2, q_best (d + 1) _ hc (by omega) (show i < 6 by omega)]
    simp only [pm_cl_some, Option.toList_some, List.cons_append, List.nil_append]
    rw [sg_X9_beginJerk_65 hc.1 hc.2]
    simp (disch := omega) only [nI_add, ck_n, nI_clamp, wI_wC, wC_at, wC_wC, up_ne, Nat.zero_mul, Nat.add_zero]
    unfold g_jerkL g_jerk1
    by_cases h1 : 0 < f (53 + i)
    · by_cases h2 : f (47 + i) = 0
      · simp only [h1, h2, if_true]
        rw [w_startRound d _ hc (show i < 6 by omega) (by omega)]
        simp only [pm_cl_some, Option.toList_none, List.nil_append]
        rw [sg_X9_beginJerk_87 hc.1 hc.2, nI_add]
        simp only [wC_at, wC_wC, wC_ne _ _ (st_4 hc), wC_ne _ _ (st_5 hc)]
        exact w_beginJerk_l d hc hs σ hz k (i + 1) _ (by omega)
      · simp only [h1, h2, if_true, if_false]
        exact w_beginJerk_l d hc hs σ hz k (i + 1) _ (by omega)
    · simp only [h1, if_false]
      exact w_beginJerk_l d hc hs σ hz k (i + 1) _ (by omega)
theorem w_beginJerk (d : Nat) (σ : pm_H) {c sz : Nat} (hc : st_ok c) (hs : sz ≤ 6) (hz : σ.1 3 2 = nI sz) : xe (d + 3) 175 [.ref c] σ = some (none, pm_wC σ (c + 1) (g_jerk sz (σ.1 4) (σ.1 5) (σ.1 (c + 1)))) := by
  rw [en_X9_beginJerk, sg_X9_beginJerk_0 hc.1 hc.2]
  simp (disch := omega) only [ck_n, nI_clamp, wI_wC, wC_at, wC_wC]
  rw [sg_X9_beginJerk_21 hc.1 hc.2]
  exact w_beginJerk_l d hc hs σ hz sz 0 _ (by omega)
/-- on to the jerk, or over, if nobody is in -/
def g_over (sz : Nat) (r f : Nat → Int32) : Nat → Int32 := if f 0 = nI 1 then (if non (s_in r f) 0 sz then upd f 0 (nI 2) else f) else f
def g_on (sz : Nat) (t r f : Nat → Int32) : Nat → Int32 := g_over sz r (if f 0 = 0 then (if non (s_in r f) 0 sz then g_jerk sz t r f else f) else f)
theorem w_over (d : Nat) (σ : pm_H) {c sz : Nat} (hc : st_ok c) (hs : sz ≤ 6) (hz : σ.1 3 2 = nI sz) : (if σ.1 (c + 1) 0 = nI 1 then pm_cl (xe (d + 3) 174 [.ref c] σ) (fun r => pm_run (xe (d + 3)) pg_X9_goOnIfNobodyIsIn (34, [.ref c], r.1.toList ++ [], r.2)) else some (none, σ)) = some (none, pm_wC σ (c + 1) (g_over sz (σ.1 5) (σ.1 (c + 1)))) := by
  unfold g_over
  by_cases h : σ.1 (c + 1) 0 = nI 1
  · rw [if_pos h, if_pos h, q_isNobodyIn d σ hc hz hs]
    simp only [pm_cl_some, Option.toList_some, List.cons_append, List.nil_append]
    rw [sg_X9_goOnIfNobodyIsIn_34 hc.1 hc.2]
    cases hn : non (s_in (σ.1 5) (σ.1 (c + 1))) 0 sz
    · rw [if_pos (by decide)]
      simp only [Bool.false_eq_true, if_false, wC_self]
    · rw [if_neg (by decide)]
      simp (disch := omega) only [if_true, ck_n, nI_clamp, wI_wC]
  · rw [if_neg h, if_neg h, wC_self]
theorem w_goOn (d : Nat) (σ : pm_H) {c sz : Nat} (hc : st_ok c) (hs : sz ≤ 6) (hz : σ.1 3 2 = nI sz) : xe (d + 4) 173 [.ref c] σ = some (none, pm_wC σ (c + 1) (g_on sz (σ.1 4) (σ.1 5) (σ.1 (c + 1)))) := by
  rw [en_X9_goOnIfNobodyIsIn, sg_X9_goOnIfNobodyIsIn_0 hc.1 hc.2]
  simp (disch := omega) only [ck_n, nI_clamp]
  unfold g_on
  by_cases h : σ.1 (c + 1) 0 = 0
  · rw [if_pos h, if_pos h, q_isNobodyIn d σ hc hz hs]
    simp only [pm_cl_some, Option.toList_some, List.cons_append, List.nil_append]
    rw [sg_X9_goOnIfNobodyIsIn_13 hc.1 hc.2]
    cases hn : non (s_in (σ.1 5) (σ.1 (c + 1))) 0 sz
    · rw [if_pos (by decide)]
      simp (disch := omega) only [Bool.false_eq_true, if_false, ck_n, nI_clamp]
      exact w_over d σ hc hs hz
    · rw [if_neg (by decide), w_beginJerk d σ hc hs hz]
      simp only [pm_cl_some, Option.toList_none, List.nil_append, if_true]
      rw [sg_X9_goOnIfNobodyIsIn_20 hc.1 hc.2]
      simp (disch := omega) only [ck_n, nI_clamp]
      have hw := w_over d (pm_wC σ (c + 1) (g_jerk sz (σ.1 4) (σ.1 5) (σ.1 (c + 1)))) hc hs (by rw [wC_ne σ _ (st_3 hc)]; exact hz)
      rw [hw]
      simp only [wC_at, wC_wC, wC_ne _ _ (st_5 hc)]
  · rw [if_neg h, if_neg h]
    exact w_over d σ hc hs hz

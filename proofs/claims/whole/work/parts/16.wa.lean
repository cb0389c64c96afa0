/-! ===== the class works a LAW off ===== -/
theorem sw_b {x : Int32} {k : Nat → Option pm_R} {dflt : Nat} : ∀ (ts : List Nat) (i : Int) (m : Nat), x.toInt = i + m → m < ts.length → pm_swk x k dflt i ts = k (ts.getD m dflt)
  | [], _, _, _, h => by simp at h
  | t :: ts, i, 0, e, _ => by
    unfold pm_swk
    rw [if_pos (by omega)]
    rfl
  | t :: ts, i, m + 1, e, h => by
    unfold pm_swk
    rw [if_neg (by omega), sw_b ts (i + 1) m (by omega) (by simpa using h)]
    rfl
theorem sw_d {x : Int32} {k : Nat → Option pm_R} {dflt : Nat} : ∀ (ts : List Nat) (i : Int), (∀ m : Nat, m < ts.length → x.toInt = i + m → ts.getD m dflt = dflt) → pm_swk x k dflt i ts = k dflt
  | [], _, _ => rfl
  | t :: ts, i, h => by
    unfold pm_swk
    by_cases c : x.toInt = i
    · rw [if_pos c, show t = dflt from h 0 (by simp) (by omega)]
    · rw [if_neg c]
      exact sw_d ts (i + 1) (fun m hm e => h (m + 1) (by simpa using hm) (by omega))
theorem q_held (d : Nat) (σ : pm_H) (z : Int64) : xe (d + 1) 158 [.long z] σ = some (some (.int (hld z)), σ) := by
  rw [en_X5_held, sg_X5_held_0]
  unfold hld
  by_cases c1 : (1000000 : Int64) < z
  · rw [if_pos ((lg_cmp_gt _ _).mpr c1), if_pos c1]
    rfl
  · rw [if_neg (fun e => c1 ((lg_cmp_gt _ _).mp e)), if_neg c1]
    by_cases c2 : z < -1000000
    · rw [if_pos ((lg_cmp_lt _ _).mpr c2), if_pos c2]
    · rw [if_neg (fun e => c2 ((lg_cmp_lt _ _).mp e)), if_neg c2]
def jtb : List Nat := [188, 192, 192, 192, 134, 116, 192, 125, 192, 143, 192, 192, 192, 192, 192, 192, 192, 192, 192, 192, 192, 192, 166, 155, 177]
theorem jtb_d : ∀ m, m < 25 → (m ≠ 0 ∧ m ≠ 4 ∧ m ≠ 5 ∧ m ≠ 7 ∧ m ≠ 9 ∧ m ≠ 22 ∧ m ≠ 23 ∧ m ≠ 24) → jtb.getD m 192 = 192 := by decide
theorem b32_if {p : Prop} [Decidable p] (σ : pm_H) : (if p then some (some (Value.int (nI 1)), σ) else some (some (Value.int (nI 0)), σ)) = some (some (Value.int (b32 (decide p))), σ) := by
  by_cases h : p
  · rw [if_pos h, decide_eq_true h]; rfl
  · rw [if_neg h, decide_eq_false h]; rfl
theorem q_join (d : Nat) (σ : pm_H) (t a y : Int32) : xe (d + 2) 157 [.int t, .int a, .int y] σ = some (some (.int (joinv t a y)), σ) := by
  rw [en_X5_joined, sg_X5_joined_0]
  have key : ∀ m : Nat, m < 25 → t = nI (38 + m) → pm_swk t (fun t' => pm_run (xe (d + 1)) pg_X5_joined (t', [.int t, .int a, .int y], [], σ)) 192 38 jtb = pm_run (xe (d + 1)) pg_X5_joined (jtb.getD m 192, [.int t, .int a, .int y], [], σ) := fun m hm e => sw_b jtb 38 m (by rw [e, nI_toInt (by omega)]; omega) hm
  show pm_swk t (fun t' => pm_run (xe (d + 1)) pg_X5_joined (t', [.int t, .int a, .int y], [], σ)) 192 38 jtb = _
  unfold joinv
  by_cases c1 : t = nI 43
  · rw [if_pos c1, key 5 (by omega) c1, show jtb.getD 5 192 = 116 from rfl, sg_X5_joined_116, q_held]
    simp only [pm_cl_some, Option.toList_some, List.cons_append, List.nil_append]
    rw [sg_X5_joined_124]
  rw [if_neg c1]
  by_cases c2 : t = nI 45
  · rw [if_pos c2, key 7 (by omega) c2, show jtb.getD 7 192 = 125 from rfl, sg_X5_joined_125, q_held]
    simp only [pm_cl_some, Option.toList_some, List.cons_append, List.nil_append]
    rw [sg_X5_joined_133]
  rw [if_neg c2]
  by_cases c3 : t = nI 42
  · rw [if_pos c3, key 4 (by omega) c3, show jtb.getD 4 192 = 134 from rfl, sg_X5_joined_134, q_held]
    simp only [pm_cl_some, Option.toList_some, List.cons_append, List.nil_append]
    rw [sg_X5_joined_142]
  rw [if_neg c3]
  by_cases c4 : t = nI 47
  · rw [if_pos c4, key 9 (by omega) c4, show jtb.getD 9 192 = 143 from rfl, sg_X5_joined_143]
    by_cases hy : y = 0
    · rw [if_pos hy, if_pos hy, n00]
    · rw [if_neg hy, if_neg hy, if_neg hy]
  rw [if_neg c4]
  by_cases c5 : t = nI 61
  · rw [if_pos c5, key 23 (by omega) c5, show jtb.getD 23 192 = 155 from rfl, sg_X5_joined_155, b32_if]
  rw [if_neg c5]
  by_cases c6 : t = nI 60
  · rw [if_pos c6, key 22 (by omega) c6, show jtb.getD 22 192 = 166 from rfl, sg_X5_joined_166, b32_if]
  rw [if_neg c6]
  by_cases c7 : t = nI 62
  · rw [if_pos c7, key 24 (by omega) c7, show jtb.getD 24 192 = 177 from rfl, sg_X5_joined_177, b32_if]
  rw [if_neg c7]
  by_cases c8 : t = nI 38
  · rw [if_pos c8, key 0 (by omega) c8, show jtb.getD 0 192 = 188 from rfl, sg_X5_joined_188]
  rw [if_neg c8, sw_d jtb 38 (fun m hm e => jtb_d m hm (by
    have h : t = nI (38 + m) := Int32.toInt_inj.mp (by have : m < 25 := hm; rw [nI_toInt (by omega)]; omega)
    refine ⟨?_, ?_, ?_, ?_, ?_, ?_, ?_, ?_⟩ <;> (rintro rfl; first | exact c1 h | exact c2 h | exact c3 h | exact c4 h | exact c5 h | exact c6 h | exact c7 h | exact c8 h))), sg_X5_joined_192]
/-- the stack, its top first -/
def stk (g : Nat → Int32) : List Int32 → Prop
  | [] => True
  | x :: t => g t.length = x ∧ stk g t
theorem stk_up {g : Nat → Int32} {k : Nat} (v : Int32) : ∀ t : List Int32, t.length ≤ k → stk g t → stk (upd g k v) t
  | [], _, _ => trivial
  | x :: t, hk, h => ⟨by rw [up_ne _ _ (by have : t.length + 1 ≤ k := hk; omega)]; exact h.1, stk_up v t (by have : t.length + 1 ≤ k := hk; omega) h.2⟩
/-- the code, from i on -/
def cod (f : Nat → Int32) : Nat → List Int32 → Prop
  | _, [] => True
  | i, x :: c => f i = x ∧ cod f (i + 1) c
theorem nI_gt0 {n : Nat} (h0 : 0 < n) (h : n < 2 ^ 31) : (0 : Int32) < nI n := by
  have := nI_lt h0 h
  rw [n00] at this
  exact this
theorem kd_lw : ∀ j, j < 6 → pm_kd (14 + j) = .inl (0, 240, 0) := by decide
theorem q_wo_l (d : Nat) {j N : Nat} (hj : j < 6) (σ : pm_H) {L : LV} (hL : ∀ z, z < 8 → σ.1 21 z = L z) (hN : σ.1 20 j = nI N) (hN2 : N ≤ 240) : ∀ (c : List Int32) (i : Nat) (pass : Bool) (s : List Int32) (g : Nat → Int32) (w5 : Value) (v : Int32), i + c.length = N → cod (σ.1 (14 + j)) i c → stk g s → s.length ≤ 64 → wrun L c pass s = some v → ∃ g', pm_run (xe (d + 2)) pg_X5_worth (7, [.ref 12, .int (nI j), .int (nI s.length), .int (b32 pass), .int (nI i), w5], [], pm_wC σ 22 g) = some (some (.int v), pm_wC σ 22 g')
  | [], i, pass, s, g, w5, v, hi, hc, hs, h64, h => by
    have hi : i = N := hi
    have hv : v = 0 := by cases pass <;> (cases h; rfl)
    rw [sg_X5_worth_7 (by rw [nI_clamp (by omega)]; exact kd_lw j hj), wC_ne _ _ (show (20 : Nat) ≠ 22 by decide)]
    rw [nI_clamp (show j < 2 ^ 31 by omega), ck_n _ hj (by omega), hN, if_neg (nI_nlt (by omega) (by omega)), hv, n00]
    exact ⟨g, rfl⟩
  | x :: c, i, pass, s, g, w5, v, hi, hc, hs, h64, h => by
    have hi : i + (c.length + 1) = N := hi
    obtain ⟨hx, hc⟩ := hc
    have nx := fun pass' s' g' w' => q_wo_l d hj σ hL hN hN2 c (i + 1) pass' s' g' w' v (by omega) hc
    rw [sg_X5_worth_7 (by rw [nI_clamp (by omega)]; exact kd_lw j hj), wC_ne _ _ (show (20 : Nat) ≠ 22 by decide), wC_at, wC_ne _ _ (show (21 : Nat) ≠ 22 by decide)]
    rw [nI_clamp (show j < 2 ^ 31 by omega), wC_ne _ _ (show 14 + j ≠ 22 by omega), nI_clamp (show i < 2 ^ 31 by omega), hx, nI_add i 1, nI_add s.length 1, ck_n _ hj (by omega), hN, if_pos (nI_lt (show i < N by omega) (by omega)), ck_n _ hj (by omega), ck_n _ (show i < 240 by omega) (by omega)]
    cases pass with
    | true =>
      have h : wrun L c (!decide (x = -59)) s = some v := h
      rw [if_neg bt0]
      by_cases c1 : x = -59
      · rw [if_pos c1]
        rw [decide_eq_true c1] at h
        exact nx false s g _ hs h64 h
      · rw [if_neg c1]
        rw [decide_eq_false c1] at h
        exact nx true s g _ hs h64 h
    | false =>
      rw [wrun.eq_def] at h
      simp only at h
      rw [if_pos bf0]
      by_cases hx0 : x < 0
      · rw [if_pos hx0]
        by_cases c1 : x = -59
        · rw [if_pos c1] at h ⊢
          match s, hs, h64, h with
          | [], hs, h64, h =>
            cases h
            rw [if_neg (by decide), n00]
            exact ⟨g, rfl⟩
          | a :: t, hs, h64, h =>
            have h64 : t.length + 1 ≤ 64 := h64
            cases h
            rw [show (a :: t).length = t.length + 1 from rfl, if_pos (nI_gt0 (show 0 < t.length + 1 by omega) (by omega)), pk_sub (by omega), Nat.add_sub_cancel]
            simp (disch := omega) only [ck_n, nI_clamp, hs.1]
            exact ⟨g, rfl⟩
        · rw [if_neg c1] at h ⊢
          by_cases c2 : x = -63
          · rw [if_pos c2] at h ⊢
            match s, hs, h64, h with
            | [], hs, h64, h => cases h
            | a :: t, hs, h64, h =>
              have h64 : t.length + 1 ≤ 64 := h64
              have h : wrun L c (decide (a = 0)) t = some v := h
              rw [show (a :: t).length = t.length + 1 from rfl, if_pos (nI_gt0 (show 0 < t.length + 1 by omega) (by omega)), pk_sub (by omega), Nat.add_sub_cancel]
              simp (disch := omega) only [ck_n, nI_clamp, hs.1]
              by_cases ca : a = 0
              · rw [if_pos ca]
                rw [decide_eq_true ca] at h
                exact nx true t g _ hs.2 (by omega) h
              · rw [if_neg ca]
                rw [decide_eq_false ca] at h
                exact nx false t g _ hs.2 (by omega) h
          · rw [if_neg c2] at h ⊢
            cases hst : stp1 L x s with
            | none => rw [hst] at h; cases h
            | some s1 =>
              rw [hst] at h
              have h : wrun L c false s1 = some v := h
              unfold stp1 at hst
              rw [if_pos hx0, if_neg c1, if_neg c2] at hst
              by_cases c3 : x = -33
              · rw [if_pos c3] at hst ⊢
                match s, hs, h64, hst with
                | [], hs, h64, hst => cases hst
                | a :: t, hs, h64, hst =>
                  have h64 : t.length + 1 ≤ 64 := h64
                  cases hst
                  rw [show (a :: t).length = t.length + 1 from rfl, if_pos (nI_gt0 (show 0 < t.length + 1 by omega) (by omega)), pk_sub (by omega), Nat.add_sub_cancel]
                  simp (disch := omega) only [ck_n, nI_clamp, hs.1, wI_wC, wC_at, wC_wC]
                  exact nx false ((a ^^^ nI 1) :: t) (upd g t.length (a ^^^ nI 1)) _ ⟨up_at _ _ _, stk_up _ t (Nat.le_refl _) hs.2⟩ h64 h
              · rw [if_neg c3] at hst ⊢
                match s, hs, h64, hst with
                | [], hs, h64, hst => cases hst
                | [a], hs, h64, hst => cases hst
                | y :: a :: t, hs, h64, hst =>
                  have h64 : t.length + 1 + 1 ≤ 64 := h64
                  obtain ⟨hs1, hs2, hs3⟩ := hs
                  have hs1 : g (t.length + 1) = y := hs1
                  cases hst
                  rw [show (y :: a :: t).length = t.length + 1 + 1 from rfl, if_pos (nI_lt (show 1 < t.length + 1 + 1 by omega) (by omega)), pk_m1, pk_sub (by omega), Nat.add_sub_cancel]
                  simp (disch := omega) only [ck_n, nI_clamp, hs1, hs2]
                  rw [q_join]
                  simp only [pm_cl_some, Option.toList_some, List.cons_append, List.nil_append]
                  rw [sg_X5_worth_225]
                  simp (disch := omega) only [ck_n, nI_clamp, wI_wC, wC_at, wC_wC, nI_add]
                  exact nx false (joinv (-x) a y :: t) (upd g t.length (joinv (-x) a y)) _ ⟨up_at _ _ _, stk_up _ t (Nat.le_refl _) hs3⟩ (by show t.length + 1 ≤ 64; omega) h
      · rw [if_neg hx0]
        have c1 : ¬ x = -59 := fun e => hx0 (by rw [e]; decide)
        have c2 : ¬ x = -63 := fun e => hx0 (by rw [e]; decide)
        rw [if_neg c1, if_neg c2] at h
        cases hst : stp1 L x s with
        | none => rw [hst] at h; cases h
        | some s1 =>
          rw [hst] at h
          have h : wrun L c false s1 = some v := h
          unfold stp1 at hst
          rw [if_neg hx0] at hst
          by_cases c4 : s.length < 64
          · rw [if_pos c4] at hst
            cases hst
            rw [if_pos (nI_lt c4 (by omega))]
            by_cases c5 : x < nI 10000
            · rw [if_pos c5] at h ⊢
              simp (disch := omega) only [ck_n, nI_clamp, wI_wC, wC_at, wC_wC]
              exact nx false (x :: s) (upd g s.length x) _ ⟨up_at _ _ _, stk_up _ s (Nat.le_refl _) hs⟩ c4 h
            · rw [if_neg c5] at h ⊢
              obtain ⟨z, hz, ez⟩ := pk_andE (x - nI 10000) (m := nI 7) 3 (by decide)
              rw [ez] at h ⊢
              rw [nI_clamp (by omega)] at h
              simp (disch := omega) only [ck_n, nI_clamp, wI_wC, wC_at, wC_wC, hL z hz]
              exact nx false (L z :: s) (upd g s.length (L z)) _ ⟨up_at _ _ _, stk_up _ s (Nat.le_refl _) hs⟩ c4 h
          · rw [if_neg c4] at hst
            cases hst
theorem q_worth (d : Nat) {j : Nat} (hj : j < 6) (σ : pm_H) {L : LV} (hL : ∀ z, z < 8 → σ.1 21 z = L z) {c : List Int32} {v : Int32} (hN : σ.1 20 j = nI c.length) (hN2 : c.length ≤ 240) (hc : cod (σ.1 (14 + j)) 0 c) (h : wrun L c false [] = some v) : ∃ g', xe (d + 3) 156 [.ref 12, .int (nI j)] σ = some (some (.int v), pm_wC σ 22 g') := by
  rw [en_X5_worth, sg_X5_worth_0]
  have := q_wo_l d hj σ hL hN hN2 c 0 false [] (σ.1 22) .null v (by omega) hc trivial (by decide) h
  rw [wC_self] at this
  exact this

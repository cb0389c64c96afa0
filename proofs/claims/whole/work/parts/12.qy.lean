/-! ===== how much one can ===== -/
def hvN (lg : Nat → Nat → Int32) (x y : Nat) : Nat → Nat
  | 0 => 0
  | i + 1 => if (lg 0 i = nI x ∧ lg 4 i = nI y) ∧ gd (lg 2 i).toNatClampNeg = true then max (hvN lg x y i) (lg 1 i).toNatClampNeg else hvN lg x y i
def lmN (lg : Nat → Nat → Int32) (x y : Nat) : Nat → Nat
  | 0 => 1000
  | i + 1 => if (lg 0 i = nI x ∧ lg 4 i = nI y) ∧ gd (lg 2 i).toNatClampNeg = false then min (lmN lg x y i) (lg 1 i).toNatClampNeg else lmN lg x y i
theorem dec2 (p q : Prop) [Decidable p] [Decidable q] : (decide p && decide q) = decide (p ∧ q) := by
  by_cases hp : p <;> by_cases hq : q <;> simp [hp, hq]
theorem hv_lm_b {lg : Nat → Nat → Int32} (x y : Nat) : ∀ n : Nat, (∀ i, i < n → ∃ b, b ≤ 99 ∧ lg 1 i = nI b) → hvN lg x y n ≤ 99 ∧ lmN lg x y n ≤ 1000
  | 0, _ => ⟨Nat.zero_le _, Nat.le_refl _⟩
  | n + 1, h => by
    obtain ⟨i1, i2⟩ := hv_lm_b x y n (fun i hi => h i (by omega))
    obtain ⟨b, hb, eb⟩ := h n (by omega)
    unfold hvN lmN
    rw [eb, nI_clamp (by omega)]
    refine ⟨?_, ?_⟩
    · split <;> omega
    · split <;> omega
theorem q_heaviestOf_l (d : Nat) {σ σ' : pm_H} {n x y : Nat} (H : HG σ σ' n) (hB : ∀ i, i < n → ∃ b, b ≤ 99 ∧ σ.1 29 i = nI b) : ∀ (m i : Nat), i + m = n → pm_run (xe (d + 2)) pg_X6_heaviestOf (5, [.ref 27, .int (nI x), .int (nI y), .int (nI (hvN (lgs σ 28) x y i)), .int (nI i)], [], σ) = some (some (.int (nI (hvN (lgs σ 28) x y n))), σ)
  | 0, i, h => by
    obtain ⟨hn, h27, h70, hg⟩ := H
    have hi : i = n := by omega
    subst hi
    rw [sg_X6_heaviestOf_5, h27, if_neg (nI_nlt (by omega) (by omega))]
  | m + 1, i, h => by
    have ih := q_heaviestOf_l d (x := x) (y := y) H hB m (i + 1) (by omega)
    obtain ⟨hn, h27, h70, hg⟩ := H
    obtain ⟨⟨g0, g1, g2, g3, g4⟩, c, hc, gc⟩ := hg i (by omega)
    obtain ⟨b, hb, eb⟩ := hB i (by omega)
    have r2 : hvN (lgs σ 28) x y (i + 1) = if (σ.1 28 i = nI x ∧ σ.1 32 i = nI y) ∧ gd c = true then max (hvN (lgs σ 28) x y i) b else hvN (lgs σ 28) x y i := by
      show (if (lgs σ 28 0 i = nI x ∧ lgs σ 28 4 i = nI y) ∧ gd (lgs σ 28 2 i).toNatClampNeg = true then _ else _) = _
      rw [show lgs σ 28 0 i = σ.1 28 i from rfl, show lgs σ 28 4 i = σ.1 32 i from rfl, show lgs σ 28 2 i = nI c from gc, show lgs σ 28 1 i = nI b from eb, nI_clamp (by omega), nI_clamp (by omega)]
    obtain ⟨hv99, -⟩ := hv_lm_b (lg := lgs σ 28) x y i (fun i' hi' => hB i' (by omega))
    rw [r2] at ih
    rw [sg_X6_heaviestOf_5, h27, if_pos (nI_lt (by omega) (by omega)), q_isOf (d + 1) σ (by omega), dec2]
    simp only [pm_cl_some, Option.toList_some, List.cons_append, List.nil_append]
    rw [sg_X6_heaviestOf_22]
    by_cases c1 : σ.1 28 i = nI x ∧ σ.1 32 i = nI y
    · rw [decide_eq_true c1, if_neg bt0, ck_n _ (by omega) (by omega), nI_clamp (by omega), gc, q_isGood d σ hc]
      simp only [pm_cl_some, Option.toList_some, List.cons_append, List.nil_append]
      rw [sg_X6_heaviestOf_35, nI_add, ck_n _ (by omega) (by omega), nI_clamp (by omega), eb]
      cases hgd : gd c
      · rw [hgd, if_neg (by simp)] at ih
        rw [if_pos bf0]
        exact ih
      · rw [hgd, if_pos ⟨c1, rfl⟩] at ih
        rw [if_neg bt0]
        by_cases c3 : hvN (lgs σ 28) x y i < b
        · rw [if_pos (nI_lt c3 (by omega))]
          rw [Nat.max_eq_right (by omega)] at ih
          exact ih
        · rw [if_neg (nI_nlt (by omega) (by omega))]
          rw [Nat.max_eq_left (by omega)] at ih
          exact ih
    · rw [decide_eq_false c1, if_pos bf0, nI_add]
      rw [if_neg (fun e => c1 e.1)] at ih
      exact ih
theorem q_lightestMissed_l (d : Nat) {σ σ' : pm_H} {n x y : Nat} (H : HG σ σ' n) (hB : ∀ i, i < n → ∃ b, b ≤ 99 ∧ σ.1 29 i = nI b) : ∀ (m i : Nat), i + m = n → pm_run (xe (d + 2)) pg_X6_lightestMissed (7, [.ref 27, .int (nI x), .int (nI y), .int (nI (lmN (lgs σ 28) x y i)), .int (nI i)], [], σ) = some (some (.int (nI (lmN (lgs σ 28) x y n))), σ)
  | 0, i, h => by
    obtain ⟨hn, h27, h70, hg⟩ := H
    have hi : i = n := by omega
    subst hi
    rw [sg_X6_lightestMissed_7, h27, if_neg (nI_nlt (by omega) (by omega))]
  | m + 1, i, h => by
    have ih := q_lightestMissed_l d (x := x) (y := y) H hB m (i + 1) (by omega)
    obtain ⟨hn, h27, h70, hg⟩ := H
    obtain ⟨⟨g0, g1, g2, g3, g4⟩, c, hc, gc⟩ := hg i (by omega)
    obtain ⟨b, hb, eb⟩ := hB i (by omega)
    have r2 : lmN (lgs σ 28) x y (i + 1) = if (σ.1 28 i = nI x ∧ σ.1 32 i = nI y) ∧ gd c = false then min (lmN (lgs σ 28) x y i) b else lmN (lgs σ 28) x y i := by
      show (if (lgs σ 28 0 i = nI x ∧ lgs σ 28 4 i = nI y) ∧ gd (lgs σ 28 2 i).toNatClampNeg = false then _ else _) = _
      rw [show lgs σ 28 0 i = σ.1 28 i from rfl, show lgs σ 28 4 i = σ.1 32 i from rfl, show lgs σ 28 2 i = nI c from gc, show lgs σ 28 1 i = nI b from eb, nI_clamp (by omega), nI_clamp (by omega)]
    obtain ⟨-, hv99⟩ := hv_lm_b (lg := lgs σ 28) x y i (fun i' hi' => hB i' (by omega))
    rw [r2] at ih
    rw [sg_X6_lightestMissed_7, h27, if_pos (nI_lt (by omega) (by omega)), q_isOf (d + 1) σ (by omega), dec2]
    simp only [pm_cl_some, Option.toList_some, List.cons_append, List.nil_append]
    rw [sg_X6_lightestMissed_24]
    by_cases c1 : σ.1 28 i = nI x ∧ σ.1 32 i = nI y
    · rw [decide_eq_true c1, if_neg bt0, ck_n _ (by omega) (by omega), nI_clamp (by omega), gc, q_isGood d σ hc]
      simp only [pm_cl_some, Option.toList_some, List.cons_append, List.nil_append]
      rw [sg_X6_lightestMissed_37, nI_add, ck_n _ (by omega) (by omega), nI_clamp (by omega), eb]
      cases hgd : gd c
      · rw [hgd, if_pos ⟨c1, rfl⟩] at ih
        rw [if_pos bf0]
        by_cases c3 : b < lmN (lgs σ 28) x y i
        · rw [if_pos (nI_lt c3 (by omega))]
          rw [Nat.min_eq_right (by omega)] at ih
          exact ih
        · rw [if_neg (nI_nlt (by omega) (by omega))]
          rw [Nat.min_eq_left (by omega)] at ih
          exact ih
      · rw [hgd, if_neg (by simp)] at ih
        rw [if_neg bt0]
        exact ih
    · rw [decide_eq_false c1, if_pos bf0, nI_add]
      rw [if_neg (fun e => c1 e.1)] at ih
      exact ih
theorem nsub_lt {a b e : Nat} (ha : a < 2 ^ 30) (hb : b < 2 ^ 30) (he : e < 2 ^ 30) : nI b < nI a - nI e ↔ b + e < a := by
  rw [Int32.lt_iff_toInt_lt, pk_sub_toInt ha he, nI_toInt (by omega)]
  exact ⟨fun h => by omega, fun h => by omega⟩
theorem r_much_l (d : Nat) {σ σ' : pm_H} {n x y e can : Nat} (H : HG σ σ' n) (hB : ∀ i, i < n → ∃ b, b ≤ 99 ∧ σ.1 29 i = nI b) (he : e ≤ 20) (hc120 : can ≤ 120) {a4 a5 a6 a7 : Int32} : ∀ (m i : Nat) (v : Value), i + m = n → ∃ v', pm_run (xe (d + 3)) pg_X12_much (77, [.ref 133, .int (nI x), .int (nI y), .int (nI e), .int a4, .int a5, .int a6, .int a7, .int (nI can), .int (b32 (decide (hvN (lgs σ 28) x y i ≤ can + e ∧ can ≤ lmN (lgs σ 28) x y i + e))), .int (nI i), v], [], σ') = pm_run (xe (d + 3)) pg_X12_much (77, [.ref 133, .int (nI x), .int (nI y), .int (nI e), .int a4, .int a5, .int a6, .int a7, .int (nI can), .int (b32 (decide (hvN (lgs σ 28) x y n ≤ can + e ∧ can ≤ lmN (lgs σ 28) x y n + e))), .int (nI n), v'], [], σ')
  | 0, i, v, h => ⟨v, by rw [show i = n by omega]⟩
  | m + 1, i, v, h => by
    have ih := fun v => r_much_l d (x := x) (y := y) H hB he hc120 (a4 := a4) (a5 := a5) (a6 := a6) (a7 := a7) m (i + 1) v (by omega)
    obtain ⟨hn, h27, h70, hg⟩ := H
    obtain ⟨⟨g0, g1, g2, g3, g4⟩, c, hc, gc⟩ := hg i (by omega)
    obtain ⟨b, hb, eb⟩ := hB i (by omega)
    have r1 : hvN (lgs σ 28) x y (i + 1) = if (σ.1 28 i = nI x ∧ σ.1 32 i = nI y) ∧ gd c = true then max (hvN (lgs σ 28) x y i) b else hvN (lgs σ 28) x y i := by
      show (if (lgs σ 28 0 i = nI x ∧ lgs σ 28 4 i = nI y) ∧ gd (lgs σ 28 2 i).toNatClampNeg = true then _ else _) = _
      rw [show lgs σ 28 0 i = σ.1 28 i from rfl, show lgs σ 28 4 i = σ.1 32 i from rfl, show lgs σ 28 2 i = nI c from gc, show lgs σ 28 1 i = nI b from eb, nI_clamp (by omega), nI_clamp (by omega)]
    have r2 : lmN (lgs σ 28) x y (i + 1) = if (σ.1 28 i = nI x ∧ σ.1 32 i = nI y) ∧ gd c = false then min (lmN (lgs σ 28) x y i) b else lmN (lgs σ 28) x y i := by
      show (if (lgs σ 28 0 i = nI x ∧ lgs σ 28 4 i = nI y) ∧ gd (lgs σ 28 2 i).toNatClampNeg = false then _ else _) = _
      rw [show lgs σ 28 0 i = σ.1 28 i from rfl, show lgs σ 28 4 i = σ.1 32 i from rfl, show lgs σ 28 2 i = nI c from gc, show lgs σ 28 1 i = nI b from eb, nI_clamp (by omega), nI_clamp (by omega)]
    rw [r1, r2] at ih
    rw [sg_X12_much_77, ck_n _ (by omega) (by omega), nI_clamp (show 70 < 2 ^ 31 by omega), h70, if_pos (nI_lt (by omega) (by omega))]
    simp (disch := omega) only [pk_mul, nI_add, ck_n, nI_clamp, g1, eb]
    by_cases c0 : hvN (lgs σ 28) x y i ≤ can + e ∧ can ≤ lmN (lgs σ 28) x y i + e
    · rw [decide_eq_true c0, if_neg bt0, r_isOf (d + 2) σ' (by omega), g0, g4, dec2]
      simp only [pm_cl_some, Option.toList_some, List.cons_append, List.nil_append]
      rw [sg_X12_much_118]
      by_cases c1 : σ.1 28 i = nI x ∧ σ.1 32 i = nI y
      · rw [decide_eq_true c1, if_neg bt0, r_gdl d σ' (by omega) hc (by rw [g2, gc])]
        simp only [pm_cl_some, Option.toList_some, List.cons_append, List.nil_append]
        rw [sg_X12_much_127, nI_add, nI_add]
        cases hgd : gd c
        · rw [hgd, if_neg (by simp), if_pos ⟨c1, rfl⟩] at ih
          rw [if_pos bf0]
          have hns := nsub_lt (a := can) (b := b) (e := e) (by omega) (by omega) (by omega)
          by_cases c3 : b + e < can
          · rw [if_pos (hns.mpr c3)]
            rw [decide_eq_false (by omega)] at ih
            exact ih _
          · rw [if_neg (fun c => c3 (hns.mp c))]
            rw [decide_eq_true (by omega)] at ih
            exact ih _
        · rw [hgd, if_pos ⟨c1, rfl⟩, if_neg (by simp)] at ih
          rw [if_neg bt0]
          by_cases c3 : can + e < b
          · rw [if_pos (nI_lt c3 (by omega))]
            rw [decide_eq_false (by omega)] at ih
            exact ih _
          · rw [if_neg (nI_nlt (by omega) (by omega))]
            rw [decide_eq_true (by omega)] at ih
            exact ih _
      · rw [decide_eq_false c1, if_pos bf0, nI_add]
        rw [if_neg (fun e => c1 e.1), if_neg (fun e => c1 e.1), decide_eq_true c0] at ih
        exact ih _
    · rw [decide_eq_false c0, if_pos bf0]
      rw [decide_eq_false (by
        intro e9
        apply c0
        obtain ⟨e1, e2⟩ := e9
        split at e1 <;> split at e2 <;> omega)] at ih
      exact ih _
/-- how many, the least, the greatest, of those below c -/
def mu_m (lo hi c : Nat) : Int32 := nI (min c (hi + 1) - lo)
def mu_l (lo hi c : Nat) : Int32 := if lo < min c (hi + 1) then nI lo else -1
def mu_g (lo hi c : Nat) : Int32 := if lo < min c (hi + 1) then nI (min c (hi + 1) - 1) else -1
theorem r_much (d : Nat) {σ σ' : pm_H} {n x y e : Nat} (H : HG σ σ' n) (hB : ∀ i, i < n → ∃ b, b ≤ 99 ∧ σ.1 29 i = nI b) (he : e ≤ 20) (w : Nat) : ∀ (m c : Nat) (v1 v2 v3 : Value), c + m = 121 → pm_run (xe (d + 3)) pg_X12_much (64, [.ref 133, .int (nI x), .int (nI y), .int (nI e), .int (nI w), .int (mu_m (hvN (lgs σ 28) x y n - e) (lmN (lgs σ 28) x y n + e) c), .int (mu_l (hvN (lgs σ 28) x y n - e) (lmN (lgs σ 28) x y n + e) c), .int (mu_g (hvN (lgs σ 28) x y n - e) (lmN (lgs σ 28) x y n + e) c), .int (nI c), v1, v2, v3], [], σ') = some (some (.int (if nI w = 0 then mu_m (hvN (lgs σ 28) x y n - e) (lmN (lgs σ 28) x y n + e) 121 else if nI w = nI 1 then mu_l (hvN (lgs σ 28) x y n - e) (lmN (lgs σ 28) x y n + e) 121 else mu_g (hvN (lgs σ 28) x y n - e) (lmN (lgs σ 28) x y n + e) 121)), σ')
  | 0, c, v1, v2, v3, h => by
    rw [sg_X12_much_64, if_pos (nI_lt (by omega) (by omega)), show c = 121 by omega]
    by_cases c1 : nI w = 0
    · rw [if_pos c1, if_pos c1]
    · rw [if_neg c1, if_neg c1]
      by_cases c2 : nI w = nI 1
      · rw [if_pos c2, if_pos c2]
      · rw [if_neg c2, if_neg c2]
  | m + 1, c, v1, v2, v3, h => by
    have ih := fun v1 v2 v3 => r_much d (x := x) (y := y) H hB he w m (c + 1) v1 v2 v3 (by omega)
    obtain ⟨hv99, hl1000⟩ := hv_lm_b (lg := lgs σ 28) x y n hB
    rw [sg_X12_much_64, if_neg (nI_nlt (by omega) (by omega))]
    obtain ⟨v', hl0⟩ := r_much_l d (x := x) (y := y) H hB he (show c ≤ 120 by omega) (a4 := nI w) (a5 := mu_m (hvN (lgs σ 28) x y n - e) (lmN (lgs σ 28) x y n + e) c) (a6 := mu_l (hvN (lgs σ 28) x y n - e) (lmN (lgs σ 28) x y n + e) c) (a7 := mu_g (hvN (lgs σ 28) x y n - e) (lmN (lgs σ 28) x y n + e) c) n 0 .null (by omega)
    rw [show hvN (lgs σ 28) x y 0 = 0 from rfl, show lmN (lgs σ 28) x y 0 = 1000 from rfl, decide_eq_true (by omega)] at hl0
    refine Eq.trans hl0 ?_
    obtain ⟨hn, h27, h70, hg⟩ := H
    rw [sg_X12_much_77, ck_n _ (by omega) (by omega), nI_clamp (show 70 < 2 ^ 31 by omega), h70, if_neg (nI_nlt (by omega) (by omega)), nI_add]
    generalize hvN (lgs σ 28) x y n = hv at *
    generalize lmN (lgs σ 28) x y n = lm at *
    by_cases c0 : hv ≤ c + e ∧ c ≤ lm + e
    · rw [decide_eq_true c0, if_neg bt0]
      have em : mu_m (hv - e) (lm + e) c + nI 1 = mu_m (hv - e) (lm + e) (c + 1) := by
        unfold mu_m
        rw [nI_add, show min c (lm + e + 1) - (hv - e) + 1 = min (c + 1) (lm + e + 1) - (hv - e) by omega]
      have eg : nI c = mu_g (hv - e) (lm + e) (c + 1) := by
        unfold mu_g
        rw [if_pos (by omega), show min (c + 1) (lm + e + 1) - 1 = c by omega]
      rw [em]
      by_cases c1 : hv - e < min c (lm + e + 1)
      · have el : mu_l (hv - e) (lm + e) c = nI (hv - e) := if_pos c1
        have el' : mu_l (hv - e) (lm + e) (c + 1) = nI (hv - e) := if_pos (by omega)
        rw [el, if_neg (nI_nm1 (by omega)), ← el']
        have := ih (.int (b32 true)) (.int (nI n)) .null
        rw [← eg] at this
        exact this
      · have el : mu_l (hv - e) (lm + e) c = -1 := if_neg c1
        have el' : nI c = mu_l (hv - e) (lm + e) (c + 1) := by
          unfold mu_l
          rw [if_pos (by omega), show hv - e = c by omega]
        rw [el, if_pos rfl]
        have := ih (.int (b32 true)) (.int (nI n)) .null
        rw [← eg, ← el'] at this
        exact this
    · rw [decide_eq_false c0, if_pos bf0]
      have em : mu_m (hv - e) (lm + e) c = mu_m (hv - e) (lm + e) (c + 1) := by
        unfold mu_m
        rw [show min c (lm + e + 1) - (hv - e) = min (c + 1) (lm + e + 1) - (hv - e) by omega]
      have el : mu_l (hv - e) (lm + e) c = mu_l (hv - e) (lm + e) (c + 1) := by
        unfold mu_l
        by_cases c1 : hv - e < min c (lm + e + 1)
        · rw [if_pos c1, if_pos (by omega)]
        · rw [if_neg c1, if_neg (by omega)]
      have eg : mu_g (hv - e) (lm + e) c = mu_g (hv - e) (lm + e) (c + 1) := by
        unfold mu_g
        by_cases c1 : hv - e < min c (lm + e + 1)
        · rw [if_pos c1, if_pos (by omega), show min c (lm + e + 1) - 1 = min (c + 1) (lm + e + 1) - 1 by omega]
        · rw [if_neg c1, if_neg (by omega)]
      rw [em, el, eg]
      exact ih _ _ _
theorem b_much (d : Nat) {k sz n a e : Nat} {T R : Nat → Nat} {σ : pm_H} (h : RelB k sz T R n a e σ) (x y z w : Int32) : Both (d + 4) (d + 4) 268 272 [.int x, .int y, .int z, .int w] σ (PostB k sz T R σ) := by
  have H := HG_of h
  have hh := h
  obtain ⟨⟨h1, h2, h3, h4, h5, h6, h7⟩, ⟨h8, -⟩, -⟩ := hh
  have hB : ∀ i, i < n → ∃ b, b ≤ 99 ∧ σ.1 29 i = nI b := fun i hi => by
    obtain ⟨g1, a, b, c, e, g, ⟨-, g2, -⟩, -, -, g6, -⟩ := h8.2.2.2.2.2.1 i hi
    exact ⟨b, g6, g2⟩
  have hz : (th0 σ).1 133 22 = nI sz := by rw [th_f _ (by decide)]; exact h2
  unfold Both
  rw [en_X11_much, sg_X11_much_0]
  rcases ix_cases x h3 with hx | ⟨l, hl, rfl⟩
  · refine ⟨.int (-2000000), σ, th0 σ, ?_, ?_, PostB_th h⟩
    · rw [q_isL_n (d + 2) σ h1 hx]
      simp only [pm_cl_some, Option.toList_some, List.cons_append, List.nil_append]
      rw [sg_X11_much_5, if_pos n00]
    · rw [en_X12_much, sg_X12_much_0, show pm_wI σ 133 0 (nI 0) = th0 σ from rfl, r_isL_n (d + 2) (th0 σ) hz hx]
      simp only [pm_cl_some, Option.toList_some, List.cons_append, List.nil_append]
      rw [sg_X12_much_10, if_pos n00]
  · rw [q_isL_y (d + 2) σ h1 h3 hl]
    simp only [pm_cl_some, Option.toList_some, List.cons_append, List.nil_append]
    rw [sg_X11_much_5, if_neg n10]
    have rr : xe (d + 4) 272 [.ref 133, .int (nI l), .int y, .int z, .int w] σ = pm_cl (xe (d + 3) 69 [.long y.toInt64, .long (0 : Int64), .long (1 : Int64)] (th0 σ)) (fun r => pm_run (xe (d + 3)) pg_X12_much (20, [.ref 133, .int (nI l), .int y, .int z, .int w, .null, .null, .null, .null, .null, .null, .null], r.1.toList ++ [], r.2)) := by
      rw [en_X12_much, sg_X12_much_0, show pm_wI σ 133 0 (nI 0) = th0 σ from rfl, r_isL_y (d + 2) (th0 σ) hz h3 hl]
      simp only [pm_cl_some, Option.toList_some, List.cons_append, List.nil_append]
      rw [sg_X12_much_10, if_neg n10]
    rcases rng_cases y 0 1 (by omega) (by omega) with hy | ⟨j, -, hj, rfl⟩
    · refine ⟨.int (-2000000), σ, th0 σ, ?_, ?_, PostB_th h⟩
      · rw [q_np_n (d + 2) σ hy]
        simp only [pm_cl_some, Option.toList_some, List.cons_append, List.nil_append]
        rw [sg_X11_much_12, if_neg n10]
      · rw [rr, r_rng_n (d + 2) _ (L := 0) (H := 1) (a := 0) (b := 1) (by decide) (by decide) hy]
        simp only [pm_cl_some, Option.toList_some, List.cons_append, List.nil_append]
        rw [sg_X12_much_20, if_pos n00]
    · rw [q_np_y (d + 2) σ hj]
      simp only [pm_cl_some, Option.toList_some, List.cons_append, List.nil_append]
      rw [sg_X11_much_12, if_pos n00]
      rw [r_rng_y (d + 2) _ (L := 0) (H := 1) (a := 0) (b := 1) (by decide) (by decide) (by omega) (by omega) (by omega)] at rr
      simp only [pm_cl_some, Option.toList_some, List.cons_append, List.nil_append] at rr
      rw [sg_X12_much_20, if_neg n10] at rr
      rcases rng_cases z 0 20 (by omega) (by omega) with hz' | ⟨t, -, ht, rfl⟩
      · refine ⟨.int (-2000000), σ, th0 σ, ?_, ?_, PostB_th h⟩
        · rcases hz' with hx | hx
          · rw [if_pos (show z < 0 from hx)]
          · by_cases c : z < 0
            · rw [if_pos c]
            · rw [if_neg c, if_pos hx]
        · rw [rr, r_rng_n (d + 2) _ (L := 0) (H := 20) (a := 0) (b := 20) (by decide) (by decide) hz']
          simp only [pm_cl_some, Option.toList_some, List.cons_append, List.nil_append]
          rw [sg_X12_much_32, if_pos n00]
      · rw [if_neg (nI_pos (by omega)), if_neg (nI_nlt (by omega) (by omega))]
        rw [r_rng_y (d + 2) _ (L := 0) (H := 20) (a := 0) (b := 20) (by decide) (by decide) (by omega) (by omega) (by omega)] at rr
        simp only [pm_cl_some, Option.toList_some, List.cons_append, List.nil_append] at rr
        rw [sg_X12_much_32, if_neg n10] at rr
        rcases rng_cases w 0 2 (by omega) (by omega) with hw | ⟨u, -, hu, rfl⟩
        · refine ⟨.int (-2000000), σ, th0 σ, ?_, ?_, PostB_th h⟩
          · rcases hw with hx | hx
            · rw [if_pos (show w < 0 from hx)]
            · by_cases c : w < 0
              · rw [if_pos c]
              · rw [if_neg c, if_pos hx]
          · rw [rr, r_rng_n (d + 2) _ (L := 0) (H := 2) (a := 0) (b := 2) (by decide) (by decide) hw]
            simp only [pm_cl_some, Option.toList_some, List.cons_append, List.nil_append]
            rw [sg_X12_much_45, if_pos n00]
        · rw [if_neg (nI_pos (by omega)), if_neg (nI_nlt (by omega) (by omega))]
          rw [r_rng_y (d + 2) _ (L := 0) (H := 2) (a := 0) (b := 2) (by decide) (by decide) (by omega) (by omega) (by omega)] at rr
          simp only [pm_cl_some, Option.toList_some, List.cons_append, List.nil_append] at rr
          have hr := r_much d (x := l) (y := j) H hB ht u 121 0 .null .null .null (by omega)
          have hq1 := q_heaviestOf_l d (x := l) (y := j) H hB n 0 (by omega)
          have hq2 := q_lightestMissed_l d (x := l) (y := j) H hB n 0 (by omega)
          obtain ⟨hv99, hl1000⟩ := hv_lm_b (lg := lgs σ 28) l j n hB
          generalize hvN (lgs σ 28) l j n = hv at *
          generalize lmN (lgs σ 28) l j n = lm at *
          rw [show mu_m (hv - t) (lm + t) 0 = nI 0 by unfold mu_m; rw [show min 0 (lm + t + 1) - (hv - t) = 0 by omega], show mu_l (hv - t) (lm + t) 0 = -1 from if_neg (by omega), show mu_g (hv - t) (lm + t) 0 = -1 from if_neg (by omega)] at hr
          rw [sg_X12_much_45, if_neg n10, hr] at rr
          rw [en_X6_heaviestOf, sg_X6_heaviestOf_0]
          rw [show nI (hvN (lgs σ 28) l j 0) = nI 0 from rfl] at hq1
          rw [hq1]
          simp only [pm_cl_some, Option.toList_some, List.cons_append, List.nil_append]
          rw [sg_X11_much_49, en_X6_lightestMissed, sg_X6_lightestMissed_0]
          rw [show nI (lmN (lgs σ 28) l j 0) = nI 1000 from rfl] at hq2
          rw [hq2]
          simp only [pm_cl_some, Option.toList_some, List.cons_append, List.nil_append]
          rw [sg_X11_much_67, nI_add]
          have hlo : (if nI 0 < nI hv - nI t then nI hv - nI t else nI 0) = nI (hv - t) := by
            have hns := nsub_lt (a := hv) (b := 0) (e := t) (by omega) (by omega) (by omega)
            by_cases c : 0 + t < hv
            · rw [if_pos (hns.mpr c), pk_sub (by omega)]
            · rw [if_neg (fun c' => c (hns.mp c')), show hv - t = 0 by omega]
          have hhi : (if nI (lm + t) < nI 120 then nI (lm + t) else nI 120) = nI (min (lm + t) 120) := by
            by_cases c : lm + t < 120
            · rw [if_pos (nI_lt c (by omega)), Nat.min_eq_left (by omega)]
            · rw [if_neg (nI_nlt (by omega) (by omega)), Nat.min_eq_right (by omega)]
          rw [hlo, hhi]
          have hmin : min 121 (lm + t + 1) = min (lm + t) 120 + 1 := by omega
          unfold mu_m mu_l mu_g at rr
          rw [hmin] at rr
          have hcnt : (if nI 0 < nI (min (lm + t) 120) - nI (hv - t) + nI 1 then nI (min (lm + t) 120) - nI (hv - t) + nI 1 else nI 0) = nI (min (lm + t) 120 + 1 - (hv - t)) := by
            have e1 : nI (min (lm + t) 120) - nI (hv - t) + nI 1 = nI (min (lm + t) 120 + 1) - nI (hv - t) := by
              rw [← nI_add, Int32.sub_eq_add_neg, Int32.sub_eq_add_neg, Int32.add_assoc, Int32.add_assoc, Int32.add_comm (-nI (hv - t))]
            rw [e1]
            have hns := nsub_lt (a := min (lm + t) 120 + 1) (b := 0) (e := hv - t) (by omega) (by omega) (by omega)
            by_cases c : 0 + (hv - t) < min (lm + t) 120 + 1
            · rw [if_pos (hns.mpr c), pk_sub (by omega)]
            · rw [if_neg (fun c' => c (hns.mp c')), show min (lm + t) 120 + 1 - (hv - t) = 0 by omega]
          rw [hcnt]
          by_cases cu : nI u = 0
          · rw [if_pos cu]
            rw [if_pos cu] at rr
            exact ⟨_, _, _, rfl, rr, PostB_th h⟩
          · rw [if_neg cu]
            rw [if_neg cu] at rr
            by_cases cg : hv - t < min (lm + t) 120 + 1
            · rw [if_neg (nI_nlt (by omega) (by omega))]
              rw [if_pos cg, if_pos cg] at rr
              by_cases cu1 : nI u = nI 1
              · rw [if_pos cu1]
                rw [if_pos cu1] at rr
                exact ⟨_, _, _, rfl, rr, PostB_th h⟩
              · rw [if_neg cu1]
                rw [if_neg cu1, Nat.add_sub_cancel] at rr
                exact ⟨_, _, _, rfl, rr, PostB_th h⟩
            · rw [if_pos (nI_lt (by omega) (by omega))]
              rw [if_neg cg, if_neg cg, ite_self] at rr
              exact ⟨_, _, _, rfl, rr, PostB_th h⟩

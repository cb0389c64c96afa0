/-! ===== judges ===== -/
def ot (j c : Nat) : Nat := c - (c / 2 ^ j % 2) * 2 ^ j
def lo1 (j c : Nat) : Nat := if c / 2 ^ j % 2 = 1 then (if bc (ot j c) = 0 then 1 else 0) else (if bc (ot j c) = 2 then 1 else 0)
theorem jd_ot : ∀ j, j < 3 → ∀ c, c < 8 → nI c &&& ((nI 1 <<< (nI j &&& 31)) ^^^ (-1)) = nI (ot j c) ∧ ot j c < 8 := by decide +kernel
theorem jd_bit : ∀ j, j < 3 → ∀ c, c < 8 → (nI c >>> (nI j &&& 31)) &&& nI 1 = nI (c / 2 ^ j % 2) := by decide +kernel
theorem jd_lo : ∀ j, j < 3 → ∀ c, c < 8 → lo1 j c = (if nI c = nI 1 <<< (nI j &&& 31) then 1 else if nI c = nI 7 - (nI 1 <<< (nI j &&& 31)) then 1 else 0) := by decide +kernel
theorem jd_bc : ∀ c, c < 8 → bc c < 4 := by decide
theorem lp_whites (d : Nat) {σ σ' : pm_H} {n j : Nat} (H : HG σ σ' n) (hj : j < 3) : ∀ (m i : Nat) (b : Int32) (v1 v2 : Value), i + m = n → ∃ v, pm_run (xe (d + 1)) pg_X6_whites (4, [.ref 27, .int (nI j), .int b, .int (nI i)], [], σ) = some (some (.int v), σ) ∧ pm_run (xe (d + 1)) pg_X12_judge (41, [.ref 133, .int (nI j), .int (nI 0), .int b, .int (nI i), v1, v2], [], σ') = some (some (.int v), σ')
  | 0, i, b, v1, v2, h => by
    obtain ⟨hn, h27, h70, hg⟩ := H
    refine ⟨b, ?_, ?_⟩
    · rw [sg_X6_whites_4, h27, if_neg (nI_nlt (by omega) (by omega))]
    · rw [sg_X12_judge_41, ck_n _ (by omega) (by omega), nI_clamp (by omega), h70, if_neg (nI_nlt (by omega) (by omega))]
  | m + 1, i, b, v1, v2, h => by
    have ih := fun b v1 v2 => lp_whites d H hj m (i + 1) b v1 v2 (by omega)
    obtain ⟨hn, h27, h70, hg⟩ := H
    obtain ⟨⟨g0, g1, g2, g3, g4⟩, c, hc, gc⟩ := hg i (by omega)
    rw [sg_X6_whites_4, h27, if_pos (nI_lt (by omega) (by omega)), sg_X12_judge_41, ck_n _ (by omega) (by omega), ck_n _ (by omega) (by omega), nI_clamp (by omega), nI_clamp (by omega), h70, if_pos (nI_lt (by omega) (by omega))]
    simp (disch := omega) only [pk_mul, nI_add, ck_n, nI_clamp, g2, gc]
    rw [(jd_ot j hj c hc).1, q_bit d σ' (jd_ot j hj c hc).2]
    simp only [pm_cl_some, Option.toList_some, List.cons_append, List.nil_append]
    rw [sg_X12_judge_80, if_pos n00, nI_add]
    exact ih _ _ _
theorem lp_lonely (d : Nat) {σ σ' : pm_H} {n j : Nat} (H : HG σ σ' n) (hj : j < 3) : ∀ (m i : Nat) (b : Int32) (v1 v2 : Value), i + m = n → ∃ v, pm_run (xe (d + 1)) pg_X6_lonely (4, [.ref 27, .int (nI j), .int b, .int (nI i)], [], σ) = some (some (.int v), σ) ∧ pm_run (xe (d + 1)) pg_X12_judge (41, [.ref 133, .int (nI j), .int (nI 1), .int b, .int (nI i), v1, v2], [], σ') = some (some (.int v), σ')
  | 0, i, b, v1, v2, h => by
    obtain ⟨hn, h27, h70, hg⟩ := H
    refine ⟨b, ?_, ?_⟩
    · rw [sg_X6_lonely_4, h27, if_neg (nI_nlt (by omega) (by omega))]
    · rw [sg_X12_judge_41, ck_n _ (by omega) (by omega), nI_clamp (by omega), h70, if_neg (nI_nlt (by omega) (by omega))]
  | m + 1, i, b, v1, v2, h => by
    obtain ⟨v, ih1, ih2⟩ := (show ∃ v, ∀ v1 v2 : Value, pm_run (xe (d + 1)) pg_X6_lonely (4, [.ref 27, .int (nI j), .int (b + nI (lo1 j ((σ.1 30 i).toNatClampNeg))), .int (nI (i + 1))], [], σ) = some (some (.int v), σ) ∧ pm_run (xe (d + 1)) pg_X12_judge (41, [.ref 133, .int (nI j), .int (nI 1), .int (b + nI (lo1 j ((σ.1 30 i).toNatClampNeg))), .int (nI (i + 1)), v1, v2], [], σ') = some (some (.int v), σ') from by
      obtain ⟨v, h1, h2⟩ := lp_lonely d H hj m (i + 1) (b + nI (lo1 j ((σ.1 30 i).toNatClampNeg))) .null .null (by omega)
      refine ⟨v, fun v1 v2 => ⟨h1, ?_⟩⟩
      obtain ⟨v', h1', h2'⟩ := lp_lonely d H hj m (i + 1) (b + nI (lo1 j ((σ.1 30 i).toNatClampNeg))) v1 v2 (by omega)
      rw [h1] at h1'
      cases h1'
      exact h2') |>.elim fun v h => (show ∃ v, (pm_run (xe (d + 1)) pg_X6_lonely (4, [.ref 27, .int (nI j), .int (b + nI (lo1 j ((σ.1 30 i).toNatClampNeg))), .int (nI (i + 1))], [], σ) = some (some (.int v), σ)) ∧ ∀ v1 v2 : Value, pm_run (xe (d + 1)) pg_X12_judge (41, [.ref 133, .int (nI j), .int (nI 1), .int (b + nI (lo1 j ((σ.1 30 i).toNatClampNeg))), .int (nI (i + 1)), v1, v2], [], σ') = some (some (.int v), σ') from ⟨v, (h .null .null).1, fun v1 v2 => (h v1 v2).2⟩)
    obtain ⟨hn, h27, h70, hg⟩ := H
    obtain ⟨⟨g0, g1, g2, g3, g4⟩, c, hc, gc⟩ := hg i (by omega)
    rw [gc, nI_clamp (by omega)] at ih1 ih2
    refine ⟨v, ?_, ?_⟩
    · rw [sg_X6_lonely_4, h27, if_pos (nI_lt (by omega) (by omega)), nI_add]
      simp (disch := omega) only [ck_n, nI_clamp, gc]
      have := jd_lo j hj c hc
      by_cases e1 : nI c = nI 1 <<< (nI j &&& 31)
      · rw [if_pos e1] at this ⊢
        rw [this] at ih1
        exact ih1
      · rw [if_neg e1] at this ⊢
        by_cases e2 : nI c = nI 7 - (nI 1 <<< (nI j &&& 31))
        · rw [if_pos e2] at this ⊢
          rw [this] at ih1
          exact ih1
        · rw [if_neg e2] at this ⊢
          rw [this] at ih1
          exact ih1
    · rw [sg_X12_judge_41, ck_n _ (by omega) (by omega), nI_clamp (by omega), h70, if_pos (nI_lt (by omega) (by omega))]
      simp (disch := omega) only [pk_mul, nI_add, ck_n, nI_clamp, g2, gc]
      rw [(jd_ot j hj c hc).1, q_bit d σ' (jd_ot j hj c hc).2]
      simp only [pm_cl_some, Option.toList_some, List.cons_append, List.nil_append]
      rw [sg_X12_judge_80, if_neg n10, en_X12_has, sg_X12_has_0, jd_bit j hj c hc]
      have hb := jd_bc _ (jd_ot j hj c hc).2
      unfold lo1 at ih2
      by_cases e1 : c / 2 ^ j % 2 = 1
      · rw [if_pos e1] at ih2
        rw [e1, if_pos rfl]
        simp only [pm_cl_some, Option.toList_some, List.cons_append, List.nil_append]
        rw [sg_X12_judge_102, if_neg n10, nI_add]
        by_cases e2 : bc (ot j c) = 0
        · rw [if_pos e2] at ih2
          rw [e2, if_pos n00]
          exact ih2 _ _
        · rw [if_neg e2] at ih2
          rw [if_neg (nI_ne0 (by omega) (by omega))]
          exact ih2 _ _
      · rw [if_neg e1] at ih2
        rw [if_neg (fun e => e1 ((nI_eq (by omega) (by omega)).mp e))]
        simp only [pm_cl_some, Option.toList_some, List.cons_append, List.nil_append]
        rw [sg_X12_judge_102, if_pos n00, nI_add]
        by_cases e2 : bc (ot j c) = 2
        · rw [if_pos e2] at ih2
          rw [e2, if_pos rfl]
          exact ih2 _ _
        · rw [if_neg e2] at ih2
          rw [if_neg (fun e => e2 ((nI_eq (by omega) (by omega)).mp e))]
          exact ih2 _ _
theorem b_judge (d : Nat) {k sz n a e : Nat} {T R : Nat → Nat} {σ : pm_H} (h : RelB k sz T R n a e σ) (x y : Int32) : Both (d + 3) (d + 2) 277 280 [.int x, .int y] σ (PostB k sz T R σ) := by
  have H := HG_of h
  have hh := h
  obtain ⟨⟨h1, h2, h3, h4, h5, h6, h7⟩, ⟨h8, -⟩, -⟩ := hh
  have hz : (th0 σ).1 133 22 = nI sz := by rw [th_f _ (by decide)]; exact h2
  unfold Both
  rw [en_X11_judge, sg_X11_judge_0, h1]
  by_cases c0 : sz = 0
  · refine ⟨.int (-1), σ, th0 σ, by rw [c0, if_pos n00], ?_, PostB_th h⟩
    rw [en_X12_judge, sg_X12_judge_0, show pm_wI σ 133 0 (nI 0) = th0 σ from rfl, hz, c0, if_pos n00]
  · have rr : xe (d + 2) 280 [.ref 133, .int x, .int y] σ = pm_cl (xe (d + 1) 69 [.long x.toInt64, .long (0 : Int64), .long (2 : Int64)] (th0 σ)) (fun r => pm_run (xe (d + 1)) pg_X12_judge (21, [.ref 133, .int x, .int y, .null, .null, .null, .null], r.1.toList ++ [], r.2)) := by
      rw [en_X12_judge, sg_X12_judge_0, show pm_wI σ 133 0 (nI 0) = th0 σ from rfl, hz, if_neg (nI_ne0 (by omega) (by omega))]
    rw [if_neg (nI_ne0 (by omega) (by omega))]
    rcases rng_cases x 0 2 (by omega) (by omega) with hx | ⟨i, -, hi, rfl⟩
    · refine ⟨.int (-1), σ, th0 σ, ?_, ?_, PostB_th h⟩
      · rcases hx with hx | hx
        · rw [if_pos (show x < 0 from hx)]
        · by_cases c : x < 0
          · rw [if_pos c]
          · rw [if_neg c, if_pos hx]
      · rw [rr, r_rng_n d _ (L := 0) (H := 2) (a := 0) (b := 2) (by decide) (by decide) hx]
        simp only [pm_cl_some, Option.toList_some, List.cons_append, List.nil_append]
        rw [sg_X12_judge_21, if_pos n00]
    · rw [if_neg (nI_pos (by omega)), if_neg (nI_nlt (by omega) (by omega))]
      rw [r_rng_y d _ (L := 0) (H := 2) (a := 0) (b := 2) (by decide) (by decide) (by omega) (by omega) (by omega)] at rr
      simp only [pm_cl_some, Option.toList_some, List.cons_append, List.nil_append] at rr
      rw [sg_X12_judge_21, if_neg n10] at rr
      rcases rng_cases y 0 1 (by omega) (by omega) with hy | ⟨j, -, hj, rfl⟩
      · refine ⟨.int (-1), σ, th0 σ, ?_, ?_, PostB_th h⟩
        · rw [q_np_n (d + 1) σ hy]
          simp only [pm_cl_some, Option.toList_some, List.cons_append, List.nil_append]
          rw [sg_X11_judge_23, if_neg n10]
        · rw [rr, r_rng_n d _ (L := 0) (H := 1) (a := 0) (b := 1) (by decide) (by decide) hy]
          simp only [pm_cl_some, Option.toList_some, List.cons_append, List.nil_append]
          rw [sg_X12_judge_31, if_pos n00]
      · rw [q_np_y (d + 1) σ hj]
        simp only [pm_cl_some, Option.toList_some, List.cons_append, List.nil_append]
        rw [r_rng_y d _ (L := 0) (H := 1) (a := 0) (b := 1) (by decide) (by decide) (by omega) (by omega) (by omega)] at rr
        simp only [pm_cl_some, Option.toList_some, List.cons_append, List.nil_append] at rr
        rw [sg_X12_judge_31, if_neg n10] at rr
        rw [sg_X11_judge_23, if_pos n00]
        rcases (show j = 0 ∨ j = 1 by omega) with rfl | rfl
        · obtain ⟨v, hv1, hv2⟩ := lp_whites d H (show i < 3 by omega) n 0 (nI 0) .null .null (by omega)
          rw [if_pos n00, en_X6_whites, sg_X6_whites_0, hv1]
          simp only [pm_cl_some, Option.toList_some, List.cons_append, List.nil_append]
          rw [sg_X11_judge_40]
          exact ⟨_, _, _, rfl, by rw [rr, hv2], PostB_th h⟩
        · obtain ⟨v, hv1, hv2⟩ := lp_lonely d H (show i < 3 by omega) n 0 (nI 0) .null .null (by omega)
          rw [if_neg n10, en_X6_lonely, sg_X6_lonely_0, hv1]
          simp only [pm_cl_some, Option.toList_some, List.cons_append, List.nil_append]
          rw [sg_X11_judge_51]
          exact ⟨_, _, _, rfl, by rw [rr, hv2], PostB_th h⟩
/-! ===== other laws ===== -/
def pop6 (b : Nat) : Nat := b % 2 + b / 2 % 2 + b / 4 % 2 + b / 8 % 2 + b / 16 % 2 + b / 32 % 2
def bcx (l0 : Int32) : Int32 :=
  let a := l0 - (((l0.toUInt32 >>> ((nI 1 : Int32).toUInt32 &&& Int32.toUInt32 31)).toInt32) &&& (nI 1431655765))
  let b := (a &&& (nI 858993459)) + (((a.toUInt32 >>> ((nI 2 : Int32).toUInt32 &&& Int32.toUInt32 31)).toInt32) &&& (nI 858993459))
  let c := (b + ((b.toUInt32 >>> ((nI 4 : Int32).toUInt32 &&& Int32.toUInt32 31)).toInt32)) &&& (nI 252645135)
  let e := c + ((c.toUInt32 >>> ((nI 8 : Int32).toUInt32 &&& Int32.toUInt32 31)).toInt32)
  (e + ((e.toUInt32 >>> ((nI 16 : Int32).toUInt32 &&& Int32.toUInt32 31)).toInt32)) &&& (nI 63)
theorem bcx_6 : ∀ b, b < 64 → bcx (nI b) = nI (pop6 b) := by decide +kernel
theorem q_bit6 (d : Nat) (σ : pm_H) {b : Nat} (hb : b < 64) : xe (d + 1) 170 [.int (nI b)] σ = some (some (.int (nI (pop6 b))), σ) := by
  rw [en_J6_bitCount_0f7a4, sg_J6_bitCount_0f7a4_0, ← bcx_6 b hb]
  rfl
theorem or_0 (x : Int32) : x ||| nI 0 = x := by rw [nI_0]; exact Int32.or_zero
theorem bit_on : ∀ t, t < 6 → ∀ b, b < 64 → b < 2 ^ t → nI b ||| (nI 1 <<< (nI t &&& 31)) = nI (b + 2 ^ t) ∧ b + 2 ^ t < 2 ^ (t + 1) ∧ pop6 (b + 2 ^ t) = pop6 b + 1 := by decide +kernel
/-- good ones of x in round y, of the first n -/
def gcnt (lg : Nat → Nat → Int32) (x y : Nat) : Nat → Nat
  | 0 => 0
  | n + 1 => gcnt lg x y n + (if lg 0 n = nI x ∧ lg 4 n = nI y ∧ gd (lg 2 n).toNatClampNeg = true then 1 else 0)
def gall (lg : Nat → Nat → Int32) (x : Nat) : Nat → Nat
  | 0 => 0
  | n + 1 => gall lg x n + (if lg 0 n = nI x ∧ gd (lg 2 n).toNatClampNeg = true then 1 else 0)
theorem gall_eq {lg : Nat → Nat → Int32} (x : Nat) : ∀ n : Nat, (∀ i, i < n → lg 4 i = nI 0 ∨ lg 4 i = nI 1) → gall lg x n = gcnt lg x 0 n + gcnt lg x 1 n ∧ gcnt lg x 0 n + gcnt lg x 1 n ≤ rowsN lg x n
  | 0, _ => ⟨rfl, Nat.le_refl _⟩
  | n + 1, h => by
    obtain ⟨ih1, ih2⟩ := gall_eq x n (fun i hi => h i (by omega))
    unfold gall gcnt rowsN
    have h01 : ¬ nI 0 = nI 1 := by decide
    have h10 : ¬ nI 1 = nI 0 := by decide
    by_cases c1 : lg 0 n = nI x
    · cases hg : gd (lg 2 n).toNatClampNeg
      · simp only [c1, Bool.false_eq_true, and_false, if_false, if_true]
        omega
      · rcases h n (by omega) with e | e
        · simp only [c1, e, h01, true_and, false_and, and_false, and_self, if_true, if_false]
          omega
        · simp only [c1, e, h10, true_and, false_and, and_false, and_self, if_true, if_false]
          omega
    · simp only [c1, false_and, if_false]
      omega
theorem rowsN_le {lg : Nat → Nat → Int32} (x : Nat) : ∀ (k n : Nat), rowsN lg x n ≤ rowsN lg x (n + k)
  | 0, _ => Nat.le_refl _
  | k + 1, n => by
    have := rowsN_le (lg := lg) x k n
    show _ ≤ rowsN lg x (n + k) + _
    omega
theorem lp_good6 (d : Nat) {σ σ' : pm_H} {n x y : Nat} (H : HG σ σ' n) (h6 : rowsN (lgs σ 28) x n ≤ 6) : ∀ (m i b t : Nat), i + m = n → b < 2 ^ t → t ≤ rowsN (lgs σ 28) x i → pop6 b = gcnt (lgs σ 28) x y i → ∃ b', b' < 64 ∧ pop6 b' = gcnt (lgs σ 28) x y n ∧ pm_run (xe (d + 2)) pg_X6_goodTries (8, [.ref 27, .int (nI x), .int (nI y), .int (nI b), .int (nI t), .int (nI i)], [], σ) = some (some (.int (nI b')), σ)
  | 0, i, b, t, h, hb, ht, hp => by
    obtain ⟨hn, h27, h70, hg⟩ := H
    have hi : i = n := by omega
    subst hi
    refine ⟨b, Nat.lt_of_lt_of_le hb (show 2 ^ t ≤ 2 ^ 6 from Nat.pow_le_pow_right (by omega) (by omega)), hp, ?_⟩
    rw [sg_X6_goodTries_8, h27, if_neg (nI_nlt (by omega) (by omega))]
  | m + 1, i, b, t, h, hb, ht, hp => by
    have ih := fun b t => lp_good6 d (y := y) H h6 m (i + 1) b t (by omega)
    obtain ⟨hn, h27, h70, hg⟩ := H
    obtain ⟨⟨g0, g1, g2, g3, g4⟩, c, hc, gc⟩ := hg i (by omega)
    have e0 : lgs σ 28 0 i = σ.1 28 i := rfl
    have e4 : lgs σ 28 4 i = σ.1 32 i := rfl
    have e2 : lgs σ 28 2 i = nI c := gc
    have r1 : rowsN (lgs σ 28) x (i + 1) = rowsN (lgs σ 28) x i + (if σ.1 28 i = nI x then 1 else 0) := rfl
    have r2 : gcnt (lgs σ 28) x y (i + 1) = gcnt (lgs σ 28) x y i + (if σ.1 28 i = nI x ∧ σ.1 32 i = nI y ∧ gd c = true then 1 else 0) := by
      show _ + (if lgs σ 28 0 i = nI x ∧ lgs σ 28 4 i = nI y ∧ gd (lgs σ 28 2 i).toNatClampNeg = true then 1 else 0) = _
      rw [e0, e4, e2, nI_clamp (by omega)]
    rw [sg_X6_goodTries_8, h27, if_pos (nI_lt (by omega) (by omega)), q_isOf (d + 1) σ (by omega)]
    simp only [pm_cl_some, Option.toList_some, List.cons_append, List.nil_append]
    rw [sg_X6_goodTries_25]
    by_cases c1 : σ.1 28 i = nI x ∧ σ.1 32 i = nI y
    · rw [decide_eq_true c1.1, decide_eq_true c1.2, Bool.and_self, if_neg bt0, ck_n _ (by omega) (by omega), nI_clamp (by omega), gc, q_isGood d σ hc]
      simp only [pm_cl_some, Option.toList_some, List.cons_append, List.nil_append]
      rw [sg_X6_goodTries_39, nI_add, nI_add, or_0]
      have ht6 : t + 1 ≤ rowsN (lgs σ 28) x (i + 1) := by rw [r1, if_pos c1.1]; omega
      have htn : rowsN (lgs σ 28) x (i + 1) ≤ rowsN (lgs σ 28) x n := by
        have := rowsN_le (lg := lgs σ 28) x m (i + 1)
        rw [show i + 1 + m = n by omega] at this
        exact this
      have hb64 : b < 64 := Nat.lt_of_lt_of_le hb (show 2 ^ t ≤ 2 ^ 6 from Nat.pow_le_pow_right (by omega) (by omega))
      obtain ⟨o1, o2, o3⟩ := bit_on t (by omega) b hb64 hb
      cases hgd : gd c
      · rw [if_pos bf0]
        refine ih b (t + 1) (Nat.lt_of_lt_of_le hb (Nat.pow_le_pow_right (by omega) (by omega))) ht6 ?_
        rw [r2, hgd, hp, if_neg (by simp), Nat.add_zero]
      · rw [if_neg bt0, o1]
        refine ih (b + 2 ^ t) (t + 1) o2 ht6 ?_
        rw [r2, hgd, o3, hp, if_pos ⟨c1.1, c1.2, rfl⟩]
    · have cb : (decide (σ.1 28 i = nI x) && decide (σ.1 32 i = nI y)) = false := by
        by_cases e : σ.1 28 i = nI x
        · rw [decide_eq_false (fun e2 => c1 ⟨e, e2⟩), Bool.and_false]
        · rw [decide_eq_false e, Bool.false_and]
      rw [cb, if_pos bf0, nI_add]
      refine ih b t hb (by rw [r1]; omega) ?_
      rw [r2, hp, if_neg (fun e => c1 ⟨e.1, e.2.1⟩), Nat.add_zero]
theorem r_goodMany_l (d : Nat) {σ σ' : pm_H} {n x : Nat} (H : HG σ σ' n) : ∀ (m i : Nat), i + m = n → pm_run (xe (d + 3)) pg_X12_goodMany (4, [.ref 133, .int (nI x), .int (nI (gall (lgs σ 28) x i)), .int (nI i)], [], σ') = some (some (.int (nI (gall (lgs σ 28) x n))), σ')
  | 0, i, h => by
    obtain ⟨hn, h27, h70, hg⟩ := H
    have hi : i = n := by omega
    subst hi
    rw [sg_X12_goodMany_4, ck_n _ (by omega) (by omega), nI_clamp (by omega), h70, if_neg (nI_nlt (by omega) (by omega))]
  | m + 1, i, h => by
    have ih := r_goodMany_l d (x := x) H m (i + 1) (by omega)
    obtain ⟨hn, h27, h70, hg⟩ := H
    obtain ⟨⟨g0, g1, g2, g3, g4⟩, c, hc, gc⟩ := hg i (by omega)
    have r2 : gall (lgs σ 28) x (i + 1) = gall (lgs σ 28) x i + (if σ.1 28 i = nI x ∧ gd c = true then 1 else 0) := by
      show _ + (if lgs σ 28 0 i = nI x ∧ gd (lgs σ 28 2 i).toNatClampNeg = true then 1 else 0) = _
      rw [show lgs σ 28 0 i = σ.1 28 i from rfl, show lgs σ 28 2 i = nI c from gc, nI_clamp (by omega)]
    rw [sg_X12_goodMany_4, ck_n _ (by omega) (by omega), nI_clamp (by omega), h70, if_pos (nI_lt (by omega) (by omega))]
    simp (disch := omega) only [pk_mul, nI_add, ck_n, nI_clamp, g0]
    by_cases c1 : σ.1 28 i = nI x
    · rw [if_pos c1, r_gdl d σ' (by omega) hc (by rw [g2, gc])]
      simp only [pm_cl_some, Option.toList_some, List.cons_append, List.nil_append]
      rw [sg_X12_goodMany_36, nI_add, nI_add, nI_add]
      cases hgd : gd c
      · rw [hgd, if_neg (by simp)] at r2
        rw [if_pos bf0, ← r2]
        exact ih
      · rw [hgd, if_pos ⟨c1, rfl⟩] at r2
        rw [if_neg bt0, ← r2]
        exact ih
    · rw [if_neg (fun e => c1 e.1)] at r2
      rw [if_neg c1, ← r2]
      exact ih

/-! ===== the reference's reader of LAWS: conditions, clauses, whole laws ===== -/
theorem r_At {b : Nat → Nat} {n : Nat} {σ : pm_H} (h : tpM b n σ) (hL : bdL (LM σ)) : ∀ (l : Nat), l ≤ 6 → ∀ (d p : Nat), p ≤ n → spM idI σ (nI (6 - l)) (pAt b n l p) (xe (d + 3 * l + 6) 101 [.ref 133] (my σ p (-1) (nI (6 - l))))
  | 0, _, d, p, hp => r_atom (kk := 0) d h (fun _ => rfl) (fun _ e => by cases e) p hp
  | l + 1, hl, d, p, hp => by
    rw [show d + 3 * (l + 1) + 6 = (d + 3 * l + 3) + 6 by omega]
    refine r_atom (kk := 2 * l + 3) (d + 3 * l + 3) h (fun e => by cases e) (fun S' e => ?_) p hp
    cases e
    refine ⟨by omega, pS_ok l, fun p hp => ?_⟩
    rw [show 6 - (l + 1) + 1 = 6 - l by omega, pSum_Su]
    exact r_sum (d + 3 * l + 5) h hL (pTerm_ok (pAt_ok l)) (fun p hp => r_term (d + 3 * l + 4) h hL (pAt_ok l) (fun p hp => r_At h hL l (by omega) d p hp) p hp) p hp
theorem r_Sm {b : Nat → Nat} {n : Nat} {σ : pm_H} (h : tpM b n σ) (hL : bdL (LM σ)) {l : Nat} (hl : l ≤ 6) (d p : Nat) (hp : p ≤ n) : spM idI σ (nI (6 - l)) (pSum b n (pAt b n l) p) (xe (d + 3 * l + 8) 97 [.ref 133] (my σ p (-1) (nI (6 - l)))) := by
  rw [pSum_Su]
  exact r_sum (d + 3 * l + 5) h hL (pTerm_ok (pAt_ok l)) (fun p hp => r_term (d + 3 * l + 4) h hL (pAt_ok l) (fun p hp => r_At h hL l hl d p hp) p hp) p hp
theorem r_isS (d : Nat) {σ : pm_H} {t : Nat} (ht : t ≤ 255) : xe (d + 1) 104 [.int (tkI t)] σ = some (some (.int (b32 (isS t))), σ) := by
  rw [en_X12_isSign, sg_X12_isSign_0]
  simp only [tkI_is ht (show 61 ≤ 255 by omega) (show 61 ≠ 0 by omega), tkI_is ht (show 60 ≤ 255 by omega) (show 60 ≠ 0 by omega), tkI_is ht (show 62 ≤ 255 by omega) (show 62 ≠ 0 by omega)]
  unfold isS
  by_cases c1 : t = 61
  · subst c1; rfl
  · by_cases c2 : t = 60
    · subst c2; rfl
    · by_cases c3 : t = 62
      · subst c3; rfl
      · rw [if_neg c1, if_neg c2, if_neg c3, show (t == 61) = false from by simpa using c1, show (t == 60) = false from by simpa using c2, show (t == 62) = false from by simpa using c3]
        rfl
theorem r_c56 (d : Nat) {σ : pm_H} {t : Nat} {l1 l2 x y : Int32} (ht : t ≤ 255) : pm_run (xe d) pg_X12_compares (56, [.ref 133, .int l1, .int l2, .int x, .int (tkI t), .null], [.int y], σ) = some (some (.int (b32 (cmpv t x y))), σ) := by
  rw [sg_X12_compares_56]
  simp only [tkI_is ht (show 61 ≤ 255 by omega) (show 61 ≠ 0 by omega), tkI_is ht (show 60 ≤ 255 by omega) (show 60 ≠ 0 by omega)]
  unfold cmpv
  by_cases c1 : t = 61
  · rw [if_pos c1, if_pos c1]
    by_cases c : x = y
    · rw [if_pos c, decide_eq_true c]; rfl
    · rw [if_neg c, decide_eq_false c]; rfl
  · rw [if_neg c1, if_neg c1]
    by_cases c2 : t = 60
    · rw [if_pos c2, if_pos c2]
      by_cases c : x < y
      · rw [if_pos c, decide_eq_true c]; rfl
      · rw [if_neg c, decide_eq_false c]; rfl
    · rw [if_neg c2, if_neg c2]
      by_cases c : y < x
      · rw [if_pos c, decide_eq_true c]; rfl
      · rw [if_neg c, decide_eq_false c]; rfl
theorem r_cmT (d : Nat) {b : Nat → Nat} {n kk q : Nat} {l1 l2 dp : Int32} {σ : pm_H} {S : Nat → PV Int32} (h : tpM b n σ) (hok : ∀ p, p ≤ n → okV idI n kk p (S p)) (hS : ∀ p, p ≤ n → spM idI σ dp (S p) (xe (d + 2) 97 [.ref 133] (my σ p (-1) dp))) (c : List Int32) (v : LV → Int32) (hq : q ≤ n) : spM b32 σ dp (pCmpR b n S c v q) (pm_cl (xe (d + 2) 74 [.ref 133] (my σ q (-1) dp)) (fun r => pm_run (xe (d + 2)) pg_X12_compares (27, [.ref 133, .int l1, .int l2, .int (v (LM σ)), .null, .null], r.1.toList ++ [], r.2))) := by
  have hn := h.1.1
  have hsk := skp_ge b n q
  have ht := tk_le (p := q) h.1
  rw [r_lk (d + 1) h hq]
  simp only [pm_cl_some, Option.toList_some, Option.toList_none, List.cons_append, List.nil_append]
  rw [sg_X12_compares_27, r_isS (d + 1) ht]
  simp only [pm_cl_some, Option.toList_some, Option.toList_none, List.cons_append, List.nil_append]
  rw [sg_X12_compares_34]
  unfold pCmpR
  cases hs : isS (tk b n q) with
  | false =>
    rw [if_pos bf0, if_neg (show ¬ (false = true) by decide), r_fa0]
    simp only [pm_cl_some, Option.toList_some, Option.toList_none, List.cons_append, List.nil_append]
    rw [sg_X12_compares_41, if_pos nr0]
    exact ⟨false, _, _, rfl⟩
  | true =>
    have hlt := tk_lt (isS_0 hs)
    rw [if_neg bt0, if_pos (show true = true from rfl), my_10, nI_add, my_p]
    have ha := hS (skp b n q + 1) (by omega)
    match S (skp b n q + 1), ha with
    | .inl f, ha =>
      obtain ⟨w, p', d', ha⟩ := ha
      rw [ha]
      simp only [pm_cl_some, Option.toList_some, Option.toList_none, List.cons_append, List.nil_append]
      rw [r_c56 _ ht]
      exact ⟨_, p', d', rfl⟩
    | .inr (c2, v2, q2), ha =>
      have ha : _ = _ := ha
      rw [ha]
      simp only [pm_cl_some, Option.toList_some, Option.toList_none, List.cons_append, List.nil_append]
      rw [r_c56 _ ht]
      rfl
theorem r_cmp (d : Nat) {b : Nat → Nat} {n kk p : Nat} {dp : Int32} {σ : pm_H} {S : Nat → PV Int32} (h : tpM b n σ) (hok : ∀ p, p ≤ n → okV idI n kk p (S p)) (hS : ∀ p, p ≤ n → spM idI σ dp (S p) (xe (d + 2) 97 [.ref 133] (my σ p (-1) dp))) (hp : p ≤ n) : spM b32 σ dp (pCmp b n S p) (xe (d + 3) 96 [.ref 133, .int (nI 0), .int (nI 0)] (my σ p (-1) dp)) := by
  have hn := h.1.1
  rw [en_X12_compares, sg_X12_compares_0, if_pos n00]
  have ha := hS p hp
  have hk := hok p hp
  unfold pCmp
  match S p, ha, hk with
  | .inl f, ha, hk =>
    obtain ⟨w, p', d', ha⟩ := ha
    have hf : f ≤ n := hk
    rw [ha]
    simp only [pm_cl_some, Option.toList_some, Option.toList_none, List.cons_append, List.nil_append]
    rw [sg_X12_compares_12, my_11, if_neg (nI_nm1 (by omega))]
    exact ⟨false, p', d', rfl⟩
  | .inr (c, v, q), ha, hk =>
    have ha : _ = _ := ha
    obtain ⟨⟨b1, b2, b3⟩, -⟩ := hk
    rw [ha]
    simp only [pm_cl_some, Option.toList_some, Option.toList_none, List.cons_append, List.nil_append]
    rw [sg_X12_compares_12, my_11, if_pos (rfl : (-1 : Int32) = -1)]
    exact r_cmT d h hok hS c v b2
theorem r_cmB (d : Nat) {b : Nat → Nat} {n kk q : Nat} {dp : Int32} {σ : pm_H} {S : Nat → PV Int32} (h : tpM b n σ) (hok : ∀ p, p ≤ n → okV idI n kk p (S p)) (hS : ∀ p, p ≤ n → spM idI σ dp (S p) (xe (d + 2) 97 [.ref 133] (my σ p (-1) dp))) (c : List Int32) (v : LV → Int32) (hq : q ≤ n) : spM b32 σ dp (pCmpR b n S c v q) (xe (d + 3) 96 [.ref 133, .int (nI 1), .int (v (LM σ))] (my σ q (-1) dp)) := by
  rw [en_X12_compares, sg_X12_compares_0, if_neg n10, my_11, if_pos (rfl : (-1 : Int32) = -1)]
  exact r_cmT d h hok hS c v hq

theorem r_par_s (x y : Bool) (d : Nat) (σ : pm_H) : pm_run (xe d) pg_X12_part (49, [.ref 133, .null, .null, .int (b32 x), .null], [.int (b32 y)], σ) = pm_run (xe d) pg_X12_part (18, [.ref 133, .null, .null, .int (b32 (Bool.and x y)), .int (b32 y)], [], σ) := by
  rw [sg_X12_part_49]
  cases x <;> cases y <;> rfl
theorem r_par_l (d : Nat) {b : Nat → Nat} {n kk : Nat} {dp : Int32} {σ : pm_H} {A : Nat → PV Bool} (h : tpM b n σ) (hok : ∀ p, p ≤ n → okV b32 n kk p (A p)) (hA : ∀ p, p ≤ n → spM b32 σ dp (A p) (xe (d + 2) 105 [.ref 133] (my σ p (-1) dp))) : ∀ (M : Nat) (c : List Int32) (v : LV → Bool) (q : Nat) (w1 w2 w4 : Value), n < M + q → q ≤ n → spM b32 σ dp (pB b n 38 Bool.and A M c v q) (pm_run (xe (d + 2)) pg_X12_part (18, [.ref 133, w1, w2, .int (b32 (v (LM σ))), w4], [], my σ q (-1) dp))
  | 0, c, v, q, w1, w2, w4, e, hq => by omega
  | M + 1, c, v, q, w1, w2, w4, e, hq => by
    have hn := h.1.1
    have hsk := skp_ge b n q
    have ht := tk_le (p := q) h.1
    rw [sg_X12_part_18, my_11, if_pos (rfl : (-1 : Int32) = -1), r_lk (d + 1) h hq]
    simp only [pm_cl_some, Option.toList_some, Option.toList_none, List.cons_append, List.nil_append]
    rw [sg_X12_part_30]
    unfold pB
    by_cases c1 : tk b n q = 38
    · have hlt := tk_lt (b := b) (n := n) (p := q) (by omega)
      rw [if_pos ((tkI_is ht (by omega) (by omega)).mpr c1), if_pos c1, my_10, nI_add, my_p]
      have ha := hA (skp b n q + 1) (by omega)
      have hk := hok (skp b n q + 1) (by omega)
      match A (skp b n q + 1), ha, hk with
      | .inl f, ha, hk =>
        obtain ⟨w, p', d', ha⟩ := ha
        have hf : f ≤ n := hk
        rw [ha]
        simp only [pm_cl_some, Option.toList_some, Option.toList_none, List.cons_append, List.nil_append]
        rw [r_par_s, sg_X12_part_18, my_11, if_neg (nI_nm1 (by omega)), if_pos (nrb _)]
        exact ⟨_, p', d', rfl⟩
      | .inr (c2, v2, q2), ha, hk =>
        have ha : _ = _ := ha
        obtain ⟨⟨b1, b2, b3⟩, b4⟩ := hk
        rw [ha]
        simp only [pm_cl_some, Option.toList_some, Option.toList_none, List.cons_append, List.nil_append]
        rw [r_par_s]
        exact r_par_l d h hok hA M (c ++ c2 ++ [-(nI 38)]) (fun L => Bool.and (v L) (v2 L)) q2 .null .null (.int (b32 (v2 (LM σ)))) (by omega) b2
    · rw [if_neg (fun e => c1 ((tkI_is ht (by omega) (by omega)).mp e)), if_neg c1, if_pos (nrb _)]
      rfl
/-- behind the first one, whose answer is r -/
theorem r_par_0 (d : Nat) {b : Nat → Nat} {n kk k1 p : Nat} {dp : Int32} {σ : pm_H} {A : Nat → PV Bool} (h : tpM b n σ) (hok : ∀ p, p ≤ n → okV b32 n kk p (A p)) (hA : ∀ p, p ≤ n → spM b32 σ dp (A p) (xe (d + 2) 105 [.ref 133] (my σ p (-1) dp))) {r : PV Bool} {o : Option pm_R} (hr : spM b32 σ dp r o) (hk : okV b32 n k1 p r) (w1 w2 w4 : Value) (K : pm_R → Option pm_R) (hK : ∀ w s, K (some (.int (b32 w)), s) = pm_run (xe (d + 2)) pg_X12_part (18, [.ref 133, w1, w2, .int (b32 w), w4], [], s)) : spM b32 σ dp (pTr b n A r) (pm_cl o K) := by
  have hn := h.1.1
  unfold pTr
  match r, hr, hk with
  | .inl f, ha, hk =>
    obtain ⟨w, p', d', ha⟩ := ha
    have hf : f ≤ n := hk
    rw [ha, pm_cl_some, hK, sg_X12_part_18, my_11, if_neg (nI_nm1 (by omega)), if_pos (nrb _)]
    exact ⟨_, p', d', rfl⟩
  | .inr (c, v, q), ha, hk =>
    have ha : _ = _ := ha
    obtain ⟨⟨b1, b2, b3⟩, b4⟩ := hk
    rw [ha, pm_cl_some, hK]
    exact r_par_l d h hok hA 241 c v q _ _ _ (by omega) b2

theorem r_con_s (x y : Bool) (d : Nat) (σ : pm_H) : pm_run (xe d) pg_X12_condition (40, [.ref 133, .null, .null, .int (b32 x), .null], [.int (b32 y)], σ) = pm_run (xe d) pg_X12_condition (7, [.ref 133, .null, .null, .int (b32 (Bool.or x y)), .int (b32 y)], [], σ) := by
  rw [sg_X12_condition_40]
  cases x <;> cases y <;> rfl
theorem r_con_l (d : Nat) {b : Nat → Nat} {n kk : Nat} {dp : Int32} {σ : pm_H} {A : Nat → PV Bool} (h : tpM b n σ) (hok : ∀ p, p ≤ n → okV b32 n kk p (A p)) (hA : ∀ p, p ≤ n → spM b32 σ dp (A p) (xe (d + 2) 95 [.ref 133, .int (nI 0), .int (nI 0)] (my σ p (-1) dp))) : ∀ (M : Nat) (c : List Int32) (v : LV → Bool) (q : Nat) (w1 w2 w4 : Value), n < M + q → q ≤ n → spM b32 σ dp (pB b n 124 Bool.or A M c v q) (pm_run (xe (d + 2)) pg_X12_condition (7, [.ref 133, w1, w2, .int (b32 (v (LM σ))), w4], [], my σ q (-1) dp))
  | 0, c, v, q, w1, w2, w4, e, hq => by omega
  | M + 1, c, v, q, w1, w2, w4, e, hq => by
    have hn := h.1.1
    have hsk := skp_ge b n q
    have ht := tk_le (p := q) h.1
    rw [sg_X12_condition_7, my_11, if_pos (rfl : (-1 : Int32) = -1), r_lk (d + 1) h hq]
    simp only [pm_cl_some, Option.toList_some, Option.toList_none, List.cons_append, List.nil_append]
    rw [sg_X12_condition_19]
    unfold pB
    by_cases c1 : tk b n q = 124
    · have hlt := tk_lt (b := b) (n := n) (p := q) (by omega)
      rw [if_pos ((tkI_is ht (by omega) (by omega)).mpr c1), if_pos c1, my_10, nI_add, my_p]
      have ha := hA (skp b n q + 1) (by omega)
      have hk := hok (skp b n q + 1) (by omega)
      match A (skp b n q + 1), ha, hk with
      | .inl f, ha, hk =>
        obtain ⟨w, p', d', ha⟩ := ha
        have hf : f ≤ n := hk
        rw [ha]
        simp only [pm_cl_some, Option.toList_some, Option.toList_none, List.cons_append, List.nil_append]
        rw [r_con_s, sg_X12_condition_7, my_11, if_neg (nI_nm1 (by omega)), if_pos (nrb _)]
        exact ⟨_, p', d', rfl⟩
      | .inr (c2, v2, q2), ha, hk =>
        have ha : _ = _ := ha
        obtain ⟨⟨b1, b2, b3⟩, b4⟩ := hk
        rw [ha]
        simp only [pm_cl_some, Option.toList_some, Option.toList_none, List.cons_append, List.nil_append]
        rw [r_con_s]
        exact r_con_l d h hok hA M (c ++ c2 ++ [-(nI 124)]) (fun L => Bool.or (v L) (v2 L)) q2 .null .null (.int (b32 (v2 (LM σ)))) (by omega) b2
    · rw [if_neg (fun e => c1 ((tkI_is ht (by omega) (by omega)).mp e)), if_neg c1, if_pos (nrb _)]
      rfl
/-- behind the first one, whose answer is r -/
theorem r_con_0 (d : Nat) {b : Nat → Nat} {n kk k1 p : Nat} {dp : Int32} {σ : pm_H} {A : Nat → PV Bool} (h : tpM b n σ) (hok : ∀ p, p ≤ n → okV b32 n kk p (A p)) (hA : ∀ p, p ≤ n → spM b32 σ dp (A p) (xe (d + 2) 95 [.ref 133, .int (nI 0), .int (nI 0)] (my σ p (-1) dp))) {r : PV Bool} {o : Option pm_R} (hr : spM b32 σ dp r o) (hk : okV b32 n k1 p r) (w1 w2 w4 : Value) (K : pm_R → Option pm_R) (hK : ∀ w s, K (some (.int (b32 w)), s) = pm_run (xe (d + 2)) pg_X12_condition (7, [.ref 133, w1, w2, .int (b32 w), w4], [], s)) : spM b32 σ dp (pCn b n A r) (pm_cl o K) := by
  have hn := h.1.1
  unfold pCn
  match r, hr, hk with
  | .inl f, ha, hk =>
    obtain ⟨w, p', d', ha⟩ := ha
    have hf : f ≤ n := hk
    rw [ha, pm_cl_some, hK, sg_X12_condition_7, my_11, if_neg (nI_nm1 (by omega)), if_pos (nrb _)]
    exact ⟨_, p', d', rfl⟩
  | .inr (c, v, q), ha, hk =>
    have ha : _ = _ := ha
    obtain ⟨⟨b1, b2, b3⟩, b4⟩ := hk
    rw [ha, pm_cl_some, hK]
    exact r_con_l d h hok hA 241 c v q _ _ _ (by omega) b2

theorem r_part0 (d : Nat) {b : Nat → Nat} {n kk : Nat} {dp : Int32} {σ : pm_H} {U : Nat → PV Bool} (h : tpM b n σ) (hok : ∀ p, p ≤ n → okV b32 n kk p (U p)) (hU : ∀ p, p ≤ n → spM b32 σ dp (U p) (xe (d + 2) 105 [.ref 133] (my σ p (-1) dp))) (p : Nat) (hp : p ≤ n) : spM b32 σ dp (pTr b n U (U p)) (xe (d + 3) 95 [.ref 133, .int (nI 0), .int (nI 0)] (my σ p (-1) dp)) := by
  rw [en_X12_part, sg_X12_part_0, if_pos n00]
  exact r_par_0 d h hok hU (hU p hp) (hok p hp) (.int (nI 0)) (.int (nI 0)) .null _ (fun w s => by simp only [pm_cl_some, Option.toList_some, Option.toList_none, List.cons_append, List.nil_append]; exact sg_X12_part_17)
theorem r_part1 (d : Nat) {b : Nat → Nat} {n kk k1 p : Nat} {dp x : Int32} {σ : pm_H} {U : Nat → PV Bool} (h : tpM b n σ) (hok : ∀ p, p ≤ n → okV b32 n kk p (U p)) (hU : ∀ p, p ≤ n → spM b32 σ dp (U p) (xe (d + 2) 105 [.ref 133] (my σ p (-1) dp))) {r : PV Bool} {X : pm_H} (hr : spM b32 σ dp r (xe (d + 2) 96 [.ref 133, .int (nI 1), .int x] X)) (hk : okV b32 n k1 p r) : spM b32 σ dp (pTr b n U r) (xe (d + 3) 95 [.ref 133, .int (nI 1), .int x] X) := by
  rw [en_X12_part, sg_X12_part_0, if_neg n10]
  exact r_par_0 d h hok hU hr hk (.int (nI 1)) (.int x) .null _ (fun w s => by simp only [pm_cl_some, Option.toList_some, Option.toList_none, List.cons_append, List.nil_append]; exact sg_X12_part_10)
theorem r_cond0 (d : Nat) {b : Nat → Nat} {n kk : Nat} {dp : Int32} {σ : pm_H} {U : Nat → PV Bool} (h : tpM b n σ) (hok : ∀ p, p ≤ n → okV b32 n kk p (U p)) (hU : ∀ p, p ≤ n → spM b32 σ dp (U p) (xe (d + 2) 105 [.ref 133] (my σ p (-1) dp))) (p : Nat) (hp : p ≤ n) : spM b32 σ dp (pCo b n U (U p)) (xe (d + 4) 94 [.ref 133, .int (nI 0), .int (nI 0)] (my σ p (-1) dp)) := by
  rw [pCo_Cn, en_X12_condition, sg_X12_condition_0]
  exact r_con_0 (d + 1) (kk := kk + 1) (k1 := kk + 1) h (fun p hp => pTr_ok hok (hok p hp)) (fun p hp => r_part0 d h hok hU p hp) (r_part0 d h hok hU p hp) (pTr_ok hok (hok p hp)) (.int (nI 0)) (.int (nI 0)) .null _ (fun w s => by simp only [pm_cl_some, Option.toList_some, Option.toList_none, List.cons_append, List.nil_append]; exact sg_X12_condition_6)
theorem r_cond1 (d : Nat) {b : Nat → Nat} {n kk p : Nat} {dp x : Int32} {σ : pm_H} {U : Nat → PV Bool} (h : tpM b n σ) (hok : ∀ p, p ≤ n → okV b32 n kk p (U p)) (hU : ∀ p, p ≤ n → spM b32 σ dp (U p) (xe (d + 2) 105 [.ref 133] (my σ p (-1) dp))) {r : PV Bool} {X : pm_H} (hr : spM b32 σ dp r (xe (d + 2) 96 [.ref 133, .int (nI 1), .int x] X)) (hk : okV b32 n kk p r) : spM b32 σ dp (pCo b n U r) (xe (d + 4) 94 [.ref 133, .int (nI 1), .int x] X) := by
  rw [pCo_Cn, en_X12_condition, sg_X12_condition_0]
  exact r_con_0 (d + 1) (kk := kk + 1) (k1 := kk + 1) h (fun p hp => pTr_ok hok (hok p hp)) (fun p hp => r_part0 d h hok hU p hp) (r_part1 d h hok hU hr hk) (pTr_ok hok hk) (.int (nI 1)) (.int x) .null _ (fun w s => by simp only [pm_cl_some, Option.toList_some, Option.toList_none, List.cons_append, List.nil_append]; exact sg_X12_condition_6)
theorem r_unit (d : Nat) {b : Nat → Nat} {n kk k2 j : Nat} {σ : pm_H} {low : Option (Nat → PV Bool)} {S : Nat → PV Int32} (h : tpM b n σ) (hok : ∀ p, p ≤ n → okV idI n kk p (S p)) (hS : ∀ p, p ≤ n → spM idI σ (nI j) (S p) (xe (d + 3) 97 [.ref 133] (my σ p (-1) (nI j)))) (h6 : low = none → j = 6) (hU : ∀ U, low = some U → j < 6 ∧ (∀ p, p ≤ n → okV b32 n k2 p (U p)) ∧ ∀ e p, p ≤ n → spM b32 σ (nI (j + 1)) (U p) (xe (d + e + 2) 105 [.ref 133] (my σ p (-1) (nI (j + 1))))) (p : Nat) (hp : p ≤ n) : spM b32 σ (nI j) (pUnit b n low S p) (xe (d + 5) 105 [.ref 133] (my σ p (-1) (nI j))) := by
  have hn := h.1.1
  have hsk := skp_ge b n p
  have ht := tk_le (p := p) h.1
  rw [en_X12_unit, sg_X12_unit_0, r_lk (d + 3) h hp]
  simp only [pm_cl_some, Option.toList_some, Option.toList_none, List.cons_append, List.nil_append]
  rw [sg_X12_unit_4]
  simp only [tkI_is ht (show 33 ≤ 255 by omega) (show 33 ≠ 0 by omega), tkI_is ht (show 40 ≤ 255 by omega) (show 40 ≠ 0 by omega)]
  unfold pUnit
  by_cases t33 : tk b n p = 33
  · have hlt := tk_lt (b := b) (n := n) (p := p) (by omega)
    rw [if_pos t33, if_pos t33]
    match low, h6, hU with
    | none, h6, hU =>
      rw [h6 rfl, r_gi6]
      simp only [pm_cl_some, Option.toList_some, Option.toList_none, List.cons_append, List.nil_append]
      rw [sg_X12_unit_15, if_pos n00]
      exact ⟨false, _, _, rfl⟩
    | some U, h6, hU =>
      obtain ⟨hj, hoU, hs⟩ := hU U rfl
      rw [r_gi (d + 2) hj]
      simp only [pm_cl_some, Option.toList_some, Option.toList_none, List.cons_append, List.nil_append]
      rw [sg_X12_unit_15, if_neg n10]
      have ha := hs 2 (skp b n p + 1) (by omega)
      match U (skp b n p + 1), ha with
      | .inl f, ha =>
        obtain ⟨w, p', d', ha⟩ := ha
        rw [ha]
        simp only [pm_cl_some, Option.toList_some, Option.toList_none, List.cons_append, List.nil_append]
        rw [sg_X12_unit_24, my_12, my_d]
        exact ⟨!w, p', d' - nI 1, by cases w <;> rfl⟩
      | .inr (c, v, q), ha =>
        have ha : _ = _ := ha
        rw [ha]
        simp only [pm_cl_some, Option.toList_some, Option.toList_none, List.cons_append, List.nil_append]
        rw [sg_X12_unit_24, my_12, my_d, show nI (j + 1) - nI 1 = nI j from by rw [pk_sub (by omega)]; rfl]
        show _ = some (some (Value.int (b32 (!(v (LM σ))))), _)
        cases v (LM σ) <;> rfl
  · rw [if_neg t33, if_neg t33]
    by_cases t40 : tk b n p = 40
    · have hlt := tk_lt (b := b) (n := n) (p := p) (by omega)
      rw [if_pos t40, if_pos t40]
      match low, h6, hU with
      | none, h6, hU =>
        rw [h6 rfl, r_gi6]
        simp only [pm_cl_some, Option.toList_some, Option.toList_none, List.cons_append, List.nil_append]
        rw [sg_X12_unit_55, if_pos n00]
        exact ⟨false, _, _, rfl⟩
      | some U, h6, hU =>
        obtain ⟨hj, hoU, hs⟩ := hU U rfl
        rw [r_gi (d + 2) hj]
        simp only [pm_cl_some, Option.toList_some, Option.toList_none, List.cons_append, List.nil_append]
        rw [sg_X12_unit_55, if_neg n10]
        have ha := r_cond0 d h hoU (hs 0) (skp b n p + 1) (by omega)
        have hk := pCo_ok (b := b) hoU (hoU (skp b n p + 1) (by omega))
        match pCo b n U (U (skp b n p + 1)), ha, hk with
        | .inl f, ha, hk =>
          obtain ⟨w, p', d', ha⟩ := ha
          have hf : f ≤ n := hk
          rw [ha]
          simp only [pm_cl_some, Option.toList_some, Option.toList_none, List.cons_append, List.nil_append]
          rw [sg_X12_unit_66, r_tkF _ (by omega)]
          simp only [pm_cl_some, Option.toList_some, Option.toList_none, List.cons_append, List.nil_append]
          rw [sg_X12_unit_73, if_pos n00]
          exact ⟨false, _, _, rfl⟩
        | .inr (c, v, q), ha, hk =>
          have ha : _ = _ := ha
          obtain ⟨⟨b1, b2, b3⟩, -⟩ := hk
          rw [ha]
          simp only [pm_cl_some, Option.toList_some, Option.toList_none, List.cons_append, List.nil_append]
          rw [sg_X12_unit_66]
          by_cases t41 : tk b n q = 41
          · rw [r_tky (d + 2) h b2 (by omega) (by omega) t41]
            simp only [pm_cl_some, Option.toList_some, Option.toList_none, List.cons_append, List.nil_append]
            rw [sg_X12_unit_73, if_neg n10, if_pos (nrb _), my_12, my_d, show nI (j + 1) - nI 1 = nI j from by rw [pk_sub (by omega)]; rfl]
            simp only [t41, if_true]
            rfl
          · rw [r_tkn (d + 2) h b2 (by omega) (by omega) t41]
            simp only [pm_cl_some, Option.toList_some, Option.toList_none, List.cons_append, List.nil_append]
            rw [sg_X12_unit_73, if_pos n00]
            simp only [t41, if_false]
            exact ⟨false, _, _, rfl⟩
    · rw [if_neg t40, if_neg t40]
      have ha := r_cmp (d + 1) h hok hS (skp_le b hp)
      match pCmp b n S (skp b n p), ha with
      | .inl f, ha =>
        obtain ⟨w, p', d', ha⟩ := ha
        rw [ha]
        simp only [pm_cl_some, Option.toList_some, Option.toList_none, List.cons_append, List.nil_append]
        rw [sg_X12_unit_96, if_pos (nrb _)]
        exact ⟨w, p', d', rfl⟩
      | .inr (c, v, q), ha =>
        have ha : _ = _ := ha
        rw [ha]
        simp only [pm_cl_some, Option.toList_some, Option.toList_none, List.cons_append, List.nil_append]
        rw [sg_X12_unit_96, if_pos (nrb _)]
        rfl
theorem r_Un {b : Nat → Nat} {n : Nat} {σ : pm_H} (h : tpM b n σ) (hL : bdL (LM σ)) : ∀ (l : Nat), l ≤ 6 → ∀ (d p : Nat), p ≤ n → spM b32 σ (nI (6 - l)) (pUn b n l p) (xe (d + 3 * l + 10) 105 [.ref 133] (my σ p (-1) (nI (6 - l))))
  | 0, _, d, p, hp => r_unit (kk := 3) (k2 := 0) (d + 5) h (pS_ok 0) (fun p hp => r_Sm h hL (by omega) d p hp) (fun _ => rfl) (fun _ e => by cases e) p hp
  | l + 1, hl, d, p, hp => by
    rw [show d + 3 * (l + 1) + 10 = (d + 3 * l + 8) + 5 by omega]
    refine r_unit (kk := 2 * (l + 1) + 3) (k2 := 2 * l + 4) (d + 3 * l + 8) h (pS_ok (l + 1)) (fun p hp => ?_) (fun e => by cases e) (fun U e => ?_) p hp
    · rw [show d + 3 * l + 8 + 3 = d + 3 * (l + 1) + 8 by omega]
      exact r_Sm h hL hl d p hp
    · cases e
      refine ⟨by omega, pUn_ok l, fun e p hp => ?_⟩
      rw [show 6 - (l + 1) + 1 = 6 - l by omega, show d + 3 * l + 8 + e + 2 = (d + e) + 3 * l + 10 by omega]
      exact r_Un h hL l (by omega) (d + e) p hp
/-! clauses: what is found is kept -/
def fnd (σ : pm_H) (x : Int32) : pm_H := pm_wI (pm_wI σ 133 17 (nI 1)) 133 14 x
theorem fnd_my {σ : pm_H} {p : Nat} {f dp x : Int32} : pm_wI (pm_wI (my σ p f dp) 133 17 (nI 1)) 133 14 x = my (fnd σ x) p f dp := by
  unfold my fnd
  simp only [wI_wC, wC_wC, wC_at]
  congr 1
  rw [up_cm _ _ _ (by decide : (12 : Nat) ≠ 17), up_cm _ _ _ (by decide : (11 : Nat) ≠ 17), up_cm _ _ _ (by decide : (10 : Nat) ≠ 17), up_cm _ _ _ (by decide : (12 : Nat) ≠ 14), up_cm _ _ _ (by decide : (11 : Nat) ≠ 14), up_cm _ _ _ (by decide : (10 : Nat) ≠ 14)]
/-- the base behind a clause that is worth o -/
def fb (σ : pm_H) (o : Option Int32) : pm_H := match o with
  | none => σ
  | some x => if σ.1 133 17 = 0 then fnd σ x else σ
def spC (σ : pm_H) (r : PV (Option Int32)) (o : Option pm_R) : Prop := match r with
  | .inl f => ∃ (p' : Nat) (d' : Int32), o = some (none, my σ p' (nI f) d')
  | .inr (_, v, q) => o = some (none, my (fb σ (v (LM σ))) q (-1) (nI 0))
/-- the last test of a clause -/
theorem r_cl_end {σ : pm_H} {q : Nat} {l1 x : Int32} (w : Bool) (h13 : σ.1 133 13 = nI 121) (h1 : l1 = nI 121) : (if (my σ q (-1) (nI 0)).1 133 11 = -1 then (if (my σ q (-1) (nI 0)).1 133 17 = 0 then (if l1 = (my σ q (-1) (nI 0)).1 133 13 then (if b32 w = 0 then some (none, my σ q (-1) (nI 0)) else some (none, pm_wI (pm_wI (my σ q (-1) (nI 0)) 133 17 (nI 1)) 133 14 x)) else some (none, my σ q (-1) (nI 0))) else some (none, my σ q (-1) (nI 0))) else some (none, my σ q (-1) (nI 0))) = (some (none, my (fb σ (if w then some x else none)) q (-1) (nI 0)) : Option pm_R) := by
  rw [my_11, if_pos (rfl : (-1 : Int32) = -1), my_k (by decide), my_k (by decide), h13, if_pos h1, fnd_my]
  cases w
  · rw [if_pos bf0]
    exact ite_self _
  · rw [if_neg bt0]
    show _ = some (none, my (if σ.1 133 17 = 0 then fnd σ x else σ) q (-1) (nI 0))
    split <;> rfl
theorem r_cl_F {σ : pm_H} {q f : Nat} {d' : Int32} {l1 : Int32} {A : Option pm_R} (hf : f < 2 ^ 31) : (if (my σ q (nI f) d').1 133 11 = -1 then A else some (none, my σ q (nI f) d')) = some (none, my σ q (nI f) d') := by
  rw [my_11, if_neg (nI_nm1 hf)]
theorem r_body (d : Nat) {b : Nat → Nat} {n r : Nat} {σ : pm_H} (h : tpM b n σ) (hL : bdL (LM σ)) (h13 : σ.1 133 13 = nI 121) (hr : r ≤ n) : spC σ (pBody b n r) (pm_cl (xe (d + 30) 74 [.ref 133] (my σ r (-1) (nI 0))) (fun r => pm_run (xe (d + 30)) pg_X12_clause (48, [.ref 133, .int (nI 121), .int (nI 1), .int (nI 0), .null], r.1.toList ++ [], r.2))) := by
  have hn := h.1.1
  have hsk := skp_ge b n r
  have ht := tk_le (p := r) h.1
  have hU : ∀ p, p ≤ n → spM b32 σ (nI 0) (pUn b n 6 p) (xe (d + 26 + 2) 105 [.ref 133] (my σ p (-1) (nI 0))) := fun p hp => r_Un h hL 6 (by omega) d p hp
  have hS : ∀ e p, p ≤ n → spM idI σ (nI 0) (pSum b n (pAt b n 6) p) (xe (d + e + 26) 97 [.ref 133] (my σ p (-1) (nI 0))) := fun e p hp => r_Sm h hL (by omega) (d + e) p hp
  rw [r_lk (d + 29) h hr]
  simp only [pm_cl_some, Option.toList_some, Option.toList_none, List.cons_append, List.nil_append]
  rw [sg_X12_clause_48]
  unfold pBody
  by_cases t0 : tk b n r = 33 ∨ tk b n r = 40
  · rw [if_pos t0]
    have ha := r_cond0 (d + 26) h (pUn_ok 6) hU (skp b n r) (skp_le b hr)
    have hk := pCo_ok (b := b) (U := pUn b n 6) (pUn_ok 6) (pUn_ok (b := b) (n := n) 6 (skp b n r) (skp_le b hr))
    have fin : ∀ l4, spC σ (pQ b n (pCo b n (pUn b n 6) (pUn b n 6 (skp b n r)))) (pm_cl (xe (d + 30) 94 [.ref 133, .int (nI 0), .int (nI 0)] (my σ (skp b n r) (-1) (nI 0))) (fun r => pm_run (xe (d + 30)) pg_X12_clause (70, [.ref 133, .int (nI 121), .int (nI 1), .int (nI 0), .int l4], r.1.toList ++ [], r.2))) := by
      intro l4
      unfold pQ
      match pCo b n (pUn b n 6) (pUn b n 6 (skp b n r)), ha, hk with
      | .inl f, ha, hk =>
        obtain ⟨w, p', d', ha⟩ := ha
        have hf : f ≤ n := hk
        rw [ha]
        simp only [pm_cl_some, Option.toList_some, Option.toList_none, List.cons_append, List.nil_append]
        rw [sg_X12_clause_70, r_tkF _ (by omega)]
        simp only [pm_cl_some, Option.toList_some, Option.toList_none, List.cons_append, List.nil_append]
        rw [sg_X12_clause_77, if_pos n00]
        exact ⟨p', d', rfl⟩
      | .inr (c, v, q), ha, hk =>
        have ha : _ = _ := ha
        obtain ⟨⟨b1, b2, b3⟩, -⟩ := hk
        rw [ha]
        simp only [pm_cl_some, Option.toList_some, Option.toList_none, List.cons_append, List.nil_append]
        rw [sg_X12_clause_70]
        by_cases t63 : tk b n q = 63
        · have hlt := tk_lt (b := b) (n := n) (p := q) (by omega)
          rw [r_tky (d + 28) h b2 (by omega) (by omega) t63]
          simp only [pm_cl_some, Option.toList_some, Option.toList_none, List.cons_append, List.nil_append]
          rw [sg_X12_clause_77, if_neg n10]
          simp only [t63, if_true]
          have hs := hS 4 (skp b n q + 1) (by omega)
          have hk2 := pS_ok (b := b) (n := n) 6 (skp b n q + 1) (by omega)
          match pSum b n (pAt b n 6) (skp b n q + 1), hs, hk2 with
          | .inl f, hs, hk2 =>
            obtain ⟨w, p', d', hs⟩ := hs
            have hf : f ≤ n := hk2
            rw [hs]
            simp only [pm_cl_some, Option.toList_some, Option.toList_none, List.cons_append, List.nil_append]
            rw [sg_X12_clause_85, r_cl_F (l1 := 0) (by omega)]
            exact ⟨p', d', rfl⟩
          | .inr (c2, v2, q2), hs, hk2 =>
            have hs : _ = _ := hs
            rw [hs]
            simp only [pm_cl_some, Option.toList_some, Option.toList_none, List.cons_append, List.nil_append]
            rw [sg_X12_clause_85]
            exact r_cl_end (v (LM σ)) h13 rfl
        · rw [r_tkn (d + 28) h b2 (by omega) (by omega) t63]
          simp only [pm_cl_some, Option.toList_some, Option.toList_none, List.cons_append, List.nil_append]
          rw [sg_X12_clause_77, if_pos n00]
          simp only [t63, if_false]
          exact ⟨_, _, rfl⟩
    rcases t0 with t0 | t0
    · rw [if_pos ((tkI_is ht (by omega) (by omega)).mpr t0)]
      exact fin _
    · rw [if_neg (fun e => by have := (tkI_is ht (show 33 ≤ 255 by omega) (show 33 ≠ 0 by omega)).mp e; omega), if_pos ((tkI_is ht (by omega) (by omega)).mpr t0)]
      exact fin _
  · rw [if_neg t0, if_neg (fun e => t0 (Or.inl ((tkI_is ht (by omega) (by omega)).mp e))), if_neg (fun e => t0 (Or.inr ((tkI_is ht (by omega) (by omega)).mp e)))]
    have hs := hS 4 (skp b n r) (skp_le b hr)
    have hk2 := pS_ok (b := b) (n := n) 6 (skp b n r) (skp_le b hr)
    match pSum b n (pAt b n 6) (skp b n r), hs, hk2 with
    | .inl f, hs, hk2 =>
      obtain ⟨w, p', d', hs⟩ := hs
      have hf : f ≤ n := hk2
      rw [hs]
      simp only [pm_cl_some, Option.toList_some, Option.toList_none, List.cons_append, List.nil_append]
      rw [sg_X12_clause_93, my_11, if_neg (nI_nm1 (by omega)), if_neg (nI_nm1 (by omega))]
      exact ⟨p', d', rfl⟩
    | .inr (c, v, q), hs, hk2 =>
      have hs : _ = _ := hs
      obtain ⟨⟨d1, d2, d3⟩, d4⟩ := hk2
      have htq := tk_le (p := q) h.1
      rw [hs]
      simp only [pm_cl_some, Option.toList_some, Option.toList_none, List.cons_append, List.nil_append]
      rw [sg_X12_clause_93, if_pos (show (my σ q (-1) (nI 0)).1 133 11 = -1 from my_11), r_lk (d + 29) h d2]
      simp only [pm_cl_some, Option.toList_some, Option.toList_none, List.cons_append, List.nil_append]
      rw [sg_X12_clause_106, r_isS (d + 29) htq]
      simp only [pm_cl_some, Option.toList_some, Option.toList_none, List.cons_append, List.nil_append]
      rw [sg_X12_clause_109]
      cases hc : isS (tk b n q) with
      | false =>
        rw [if_pos bf0, if_neg (show ¬ (false = true) by decide)]
        exact r_cl_end true h13 rfl
      | true =>
        rw [if_neg bt0, if_pos (show true = true from rfl), show idI (v (LM σ)) = v (LM σ) from rfl]
        have hB := r_cmB (d + 25) h (pS_ok 6) (hS 1) c v (skp_le b d2)
        rw [pCmpR_skp] at hB
        have hkB := pCmpR_ok (b := b) (S := pSum b n (pAt b n 6)) (pS_ok 6) (c := c) (v := v) (q := q) (p := skp b n r) ⟨⟨d1, d2, d3⟩, d4⟩
        have ha := r_cond1 (d + 26) (kk := 16) h (pUn_ok 6) hU hB (okV_mono hkB (by omega))
        have hk := pCo_ok (b := b) (U := pUn b n 6) (k := 16) (pUn_ok 6) (okV_mono hkB (by omega))
        unfold pQ
        match pCo b n (pUn b n 6) (pCmpR b n (pSum b n (pAt b n 6)) c v q), ha, hk with
        | .inl f, ha, hk =>
          obtain ⟨w, p', d', ha⟩ := ha
          have hf : f ≤ n := hk
          rw [ha]
          simp only [pm_cl_some, Option.toList_some, Option.toList_none, List.cons_append, List.nil_append]
          rw [sg_X12_clause_118, r_tkF _ (by omega)]
          simp only [pm_cl_some, Option.toList_some, Option.toList_none, List.cons_append, List.nil_append]
          rw [sg_X12_clause_125, if_pos n00]
          exact ⟨p', d', rfl⟩
        | .inr (c3, v3, q3), ha, hk =>
          have ha : _ = _ := ha
          obtain ⟨⟨b1, b2, b3⟩, -⟩ := hk
          rw [ha]
          simp only [pm_cl_some, Option.toList_some, Option.toList_none, List.cons_append, List.nil_append]
          rw [sg_X12_clause_118]
          by_cases t63 : tk b n q3 = 63
          · have hlt := tk_lt (b := b) (n := n) (p := q3) (by omega)
            rw [r_tky (d + 28) h b2 (by omega) (by omega) t63]
            simp only [pm_cl_some, Option.toList_some, Option.toList_none, List.cons_append, List.nil_append]
            rw [sg_X12_clause_125, if_neg n10]
            simp only [t63, if_true]
            have hs := hS 4 (skp b n q3 + 1) (by omega)
            have hk2 := pS_ok (b := b) (n := n) 6 (skp b n q3 + 1) (by omega)
            match pSum b n (pAt b n 6) (skp b n q3 + 1), hs, hk2 with
            | .inl f, hs, hk2 =>
              obtain ⟨w, p', d', hs⟩ := hs
              have hf : f ≤ n := hk2
              rw [hs]
              simp only [pm_cl_some, Option.toList_some, Option.toList_none, List.cons_append, List.nil_append]
              rw [sg_X12_clause_133, r_cl_F (l1 := 0) (by omega)]
              exact ⟨p', d', rfl⟩
            | .inr (c2, v2, q2), hs, hk2 =>
              have hs : _ = _ := hs
              rw [hs]
              simp only [pm_cl_some, Option.toList_some, Option.toList_none, List.cons_append, List.nil_append]
              rw [sg_X12_clause_133]
              exact r_cl_end (v3 (LM σ)) h13 rfl
          · rw [r_tkn (d + 28) h b2 (by omega) (by omega) t63]
            simp only [pm_cl_some, Option.toList_some, Option.toList_none, List.cons_append, List.nil_append]
            rw [sg_X12_clause_125, if_pos n00]
            simp only [t63, if_false]
            exact ⟨_, _, rfl⟩
theorem r_clause (d : Nat) {b : Nat → Nat} {n p : Nat} {σ : pm_H} (h : tpM b n σ) (hL : bdL (LM σ)) (h13 : σ.1 133 13 = nI 121) (hp : p ≤ n) : spC σ (pClause b n p) (xe (d + 31) 91 [.ref 133] (my σ p (-1) (nI 0))) := by
  have hn := h.1.1
  have hsk := skp_ge b n p
  have ht := tk_le (p := p) h.1
  rw [en_X12_clause, sg_X12_clause_0, r_lk (d + 29) h hp]
  simp only [pm_cl_some, Option.toList_some, Option.toList_none, List.cons_append, List.nil_append]
  rw [sg_X12_clause_4, r_amy (d + 25) _ ht]
  simp only [pm_cl_some, Option.toList_some, Option.toList_none, List.cons_append, List.nil_append]
  rw [sg_X12_clause_11]
  unfold pClause
  by_cases t1 : tk b n p = 121
  · have hlt := tk_lt (b := b) (n := n) (p := p) (by omega)
    rw [if_pos t1, t1, if_neg (show ¬ b32 (decide (121 = 121)) = 0 by decide), my_10, nI_add, my_p, show tkI 121 = nI 121 from rfl]
    by_cases t2 : tk b n (skp b n p + 1) = 58
    · have hlt2 := tk_lt (b := b) (n := n) (p := skp b n p + 1) (by omega)
      rw [if_pos t2, r_tky (d + 28) h (by omega) (by omega) (by omega) t2]
      simp only [pm_cl_some, Option.toList_some, Option.toList_none, List.cons_append, List.nil_append]
      rw [sg_X12_clause_36, if_neg n10]
      exact r_body d h hL h13 (by omega)
    · rw [if_neg t2, r_tkn (d + 28) h (by omega) (by omega) (by omega) t2]
      simp only [pm_cl_some, Option.toList_some, Option.toList_none, List.cons_append, List.nil_append]
      rw [sg_X12_clause_36, if_pos n00]
      exact ⟨_, _, rfl⟩
  · rw [if_neg t1, decide_eq_false t1, if_pos bf0, r_fa0]
    simp only [pm_cl_some, Option.toList_some, Option.toList_none, List.cons_append, List.nil_append]
    rw [sg_X12_clause_18]
    exact ⟨_, _, rfl⟩

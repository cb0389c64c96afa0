/-! ===== places ===== -/
theorem q_byBody (d : Nat) (σ : pm_H) : xe (d + 1) 125 [.ref 3] σ = some (some (.int (b32 (decide (σ.1 5 3 = 0)))), σ) := by
  rw [en_X1_partsByBody, sg_X1_partsByBody_0]
  simp (disch := omega) only [ck_n, nI_clamp]
  by_cases h : σ.1 5 3 = 0 <;> simp [h, b32]
/-- the better of two with even sums -/
def s_bev (t r f : Nat → Int32) (i j : Nat) : Bool :=
  if r 3 = 0 then (if t (i * 10 + 2) = t (j * 10 + 2) then decide (i < j) else decide (t (i * 10 + 2) < t (j * 10 + 2))) else (if f (65 + i) = f (65 + j) then decide (i < j) else decide (f (65 + i) < f (65 + j)))
theorem tie_b (a b : Int32) {i j : Nat} (hi : i < 6) (hj : j < 6) (σ : pm_H) : (if a = b then (if nI i < nI j then some (some (Value.int (nI 1)), σ) else some (some (.int (nI 0)), σ)) else (if a < b then some (some (.int (nI 1)), σ) else some (some (.int (nI 0)), σ))) = some (some (.int (b32 (if a = b then decide (i < j) else decide (a < b)))), σ) := by
  have hn : (nI i < nI j) = (i < j) := propext (nI_ltI (by omega) (by omega))
  simp only [hn]
  by_cases h1 : a = b
  · by_cases h2 : i < j <;> simp only [h1, h2, if_true, if_false, decide_true, decide_false, b32, cond_true, cond_false]
  · by_cases h2 : a < b <;> simp only [h1, h2, if_true, if_false, decide_true, decide_false, b32, cond_true, cond_false]
theorem q_bev (d : Nat) (σ : pm_H) {c i j : Nat} (hc : st_ok c) (hi : i < 6) (hj : j < 6) : xe (d + 2) 124 [.ref c, .int (nI i), .int (nI j)] σ = some (some (.int (b32 (s_bev (σ.1 4) (σ.1 5) (σ.1 (c + 1)) i j))), σ) := by
  rw [en_X9_isBetterOfEven, sg_X9_isBetterOfEven_0 hc.1 hc.2, q_byBody]
  simp only [pm_cl_some, Option.toList_some, List.cons_append, List.nil_append]
  rw [sg_X9_isBetterOfEven_7 hc.1 hc.2]
  unfold s_bev
  by_cases h : σ.1 5 3 = 0
  · rw [if_neg (by simp only [h, decide_true]; decide), q_hof d σ (by omega) hi]
    simp only [pm_cl_some, Option.toList_some, List.cons_append, List.nil_append]
    rw [sg_X9_isBetterOfEven_19 hc.1 hc.2, q_byBody]
    simp only [pm_cl_some, Option.toList_some, List.cons_append, List.nil_append]
    rw [sg_X9_isBetterOfEven_39 hc.1 hc.2, if_neg (by simp only [h, decide_true]; decide), q_hof d σ (by omega) hj]
    simp only [pm_cl_some, Option.toList_some, List.cons_append, List.nil_append]
    rw [sg_X9_isBetterOfEven_51 hc.1 hc.2, tie_b _ _ hi hj, if_pos h]
  · rw [if_pos (by simp only [h, decide_false]; decide), q_byBody]
    simp (disch := omega) only [nI_add, ck_n, nI_clamp, pm_cl_some, Option.toList_some, List.cons_append, List.nil_append]
    rw [sg_X9_isBetterOfEven_39 hc.1 hc.2, if_pos (by simp only [h, decide_false]; decide)]
    simp (disch := omega) only [nI_add, ck_n, nI_clamp]
    rw [tie_b _ _ hi hj, if_neg h]
def s_bet (t r f : Nat → Int32) (l i : Nat) : Bool := decide (s_sum f l < s_sum f i) || (decide (s_sum f i = s_sum f l) && (!decide (i = l) && s_bev t r f i l))
theorem q_place_l (d : Nat) (σ : pm_H) {c sz l : Nat} (hc : st_ok c) (hz : σ.1 3 2 = nI sz) (hs : sz ≤ 6) (hl : l < 6) : ∀ (k i : Nat) (a : Int32) (v : Value), i + k = sz → pm_run (xe (d + 2)) pg_X9_place (17, [.ref c, .int (nI l), .int (s_sum (σ.1 (c + 1)) l), .int a, .int (nI i), v], [], σ) = some (some (.int (a + cnt (s_bet (σ.1 4) (σ.1 5) (σ.1 (c + 1)) l) i k)), σ)
  | 0, i, a, v, h => by
    rw [sg_X9_place_17 hc.1 hc.2, hz, if_neg (nI_nlt (by omega) (by omega))]
    simp only [cnt, add_n0]
  | k + 1, i, a, v, h => by
    rw [sg_X9_place_17 hc.1 hc.2, hz, if_pos (nI_lt (by omega) (by omega)), q_sum d σ hc (by omega)]
    simp only [pm_cl_some, Option.toList_some, List.cons_append, List.nil_append]
    rw [sg_X9_place_35 hc.1 hc.2, nI_add]
    have ih := fun b v => q_place_l d σ hc hz hs hl k (i + 1) b v (by omega)
    unfold cnt
    by_cases h1 : s_sum (σ.1 (c + 1)) l < s_sum (σ.1 (c + 1)) i
    · have hb : s_bet (σ.1 4) (σ.1 5) (σ.1 (c + 1)) l i = true := by unfold s_bet; simp only [h1, decide_true, Bool.true_or]
      rw [if_pos h1, ih, hb]
      simp only [b32, cond_true, Int32.add_assoc]
    · by_cases h2 : s_sum (σ.1 (c + 1)) i = s_sum (σ.1 (c + 1)) l
      · by_cases h3 : i = l
        · have hb : s_bet (σ.1 4) (σ.1 5) (σ.1 (c + 1)) l i = false := by unfold s_bet; simp only [h3, show ¬ s_sum (σ.1 (c + 1)) l < s_sum (σ.1 (c + 1)) l from fun h => Int32.lt_irrefl h, decide_true, decide_false, Bool.not_true, Bool.false_and, Bool.and_false, Bool.or_false]
          rw [if_neg h1, if_pos h2, if_pos (by rw [h3]), ih, hb]
          simp only [b32, cond_false, n0_add]
        · rw [if_neg h1, if_pos h2, if_neg (fun e => h3 ((nI_eq (by omega) (by omega)).mp e)), q_bev d σ hc (by omega) hl]
          simp only [pm_cl_some, Option.toList_some, List.cons_append, List.nil_append]
          rw [sg_X9_place_62 hc.1 hc.2, nI_add]
          have hb : s_bet (σ.1 4) (σ.1 5) (σ.1 (c + 1)) l i = s_bev (σ.1 4) (σ.1 5) (σ.1 (c + 1)) i l := by unfold s_bet; simp only [h2, h3, show ¬ s_sum (σ.1 (c + 1)) l < s_sum (σ.1 (c + 1)) l from fun h => Int32.lt_irrefl h, decide_true, decide_false, Bool.not_false, Bool.true_and, Bool.false_or]
          rw [hb]
          cases s_bev (σ.1 4) (σ.1 5) (σ.1 (c + 1)) i l
          · rw [if_pos (by decide), ih]
            simp only [b32, cond_false, n0_add]
          · rw [if_neg (by decide), ih]
            simp only [b32, cond_true, Int32.add_assoc]
      · have hb : s_bet (σ.1 4) (σ.1 5) (σ.1 (c + 1)) l i = false := by unfold s_bet; simp only [h1, h2, decide_false, Bool.false_and, Bool.or_false]
        rw [if_neg h1, if_neg h2, ih, hb]
        simp only [b32, cond_false, n0_add]
def s_place (sz : Nat) (t r f : Nat → Int32) (l : Nat) : Int32 := if s_sum f l = 0 then nI 0 else nI 1 + cnt (s_bet t r f l) 0 sz
theorem q_place (d : Nat) (σ : pm_H) {c sz l : Nat} (hc : st_ok c) (hz : σ.1 3 2 = nI sz) (hs : sz ≤ 6) (hl : l < 6) : xe (d + 3) 123 [.ref c, .int (nI l)] σ = some (some (.int (s_place sz (σ.1 4) (σ.1 5) (σ.1 (c + 1)) l)), σ) := by
  rw [en_X9_place, sg_X9_place_0 hc.1 hc.2, q_sum d σ hc hl]
  simp only [pm_cl_some, Option.toList_some, List.cons_append, List.nil_append]
  rw [sg_X9_place_5 hc.1 hc.2]
  unfold s_place
  by_cases h : s_sum (σ.1 (c + 1)) l = 0
  · rw [if_pos h, if_pos h]
  · rw [if_neg h, if_neg h]
    exact q_place_l d σ hc hz hs hl sz 0 (nI 1) .null (by omega)
/-! ===== the reference's ===== -/
def m_sum (w : Nat → Int32) (l : Nat) : Int32 := if w (11 * l + 2) = 0 then nI 0 else if w (11 * l + 3) = 0 then nI 0 else w (11 * l + 2) + w (11 * l + 3)
theorem r_sumOf (d : Nat) (σ : pm_H) {q l : Nat} (hq : rw_ok q) (hl : l < 6) : xe (d + 1) 134 [.ref q, .int (nI l)] σ = some (some (.int (m_sum (σ.1 q) l)), σ) := by
  rw [en_X12_sumOf, sg_X12_sumOf_0 hq]
  simp (disch := omega) only [pk_mul, nI_add, ck_n, nI_clamp, Nat.add_assoc, Nat.reduceAdd]
  unfold m_sum
  by_cases h1 : σ.1 q (11 * l + 2) = 0
  · simp only [h1, if_true]
  · by_cases h2 : σ.1 q (11 * l + 3) = 0 <;> simp only [h1, h2, if_true, if_false]
def m_bt (t r w : Nat → Int32) (i j : Nat) : Bool :=
  if m_sum w j = m_sum w i then (if r 3 = 0 then (if t (10 * i + 2) = t (10 * j + 2) then decide (i < j) else decide (t (10 * i + 2) < t (10 * j + 2))) else (if w (11 * i + 10) = w (11 * j + 10) then decide (i < j) else decide (w (11 * i + 10) < w (11 * j + 10)))) else decide (m_sum w j < m_sum w i)
theorem tie_m {a b : Int32} (ha : sm a 1000) (hb : sm b 1000) {i j : Nat} (hi : i < 6) (hj : j < 6) (σ : pm_H) : (if a - b < 0 then some (some (Value.int (nI 1)), σ) else (if a - b = 0 then (if nI i < nI j then some (some (.int (nI 1)), σ) else some (some (.int (nI 0)), σ)) else some (some (.int (nI 0)), σ))) = some (some (.int (b32 (if a = b then decide (i < j) else decide (a < b)))), σ) := by
  rw [← tie_b a b hi hj σ]
  simp only [sm_sub0 ha hb (by decide) (by decide), sm_subl ha hb (by decide) (by decide)]
  by_cases h1 : a = b
  · have h2 : ¬ b < b := fun h => Int32.lt_irrefl h
    simp only [h1, h2, if_true, if_false]
  · by_cases h2 : a < b <;> simp only [h1, h2, if_true, if_false]
theorem r_isBetter (d : Nat) (σ : pm_H) {q i j : Nat} (hq : rw_ok q) (hi : i < 6) (hj : j < 6) (si : sm (m_sum (σ.1 q) i) 1000) (sj : sm (m_sum (σ.1 q) j) 1000) (ti : sm (σ.1 138 (10 * i + 2)) 1000) (tj : sm (σ.1 138 (10 * j + 2)) 1000) (wi : m_sum (σ.1 q) j = m_sum (σ.1 q) i → sm (σ.1 q (11 * i + 10)) 1000) (wj : m_sum (σ.1 q) j = m_sum (σ.1 q) i → sm (σ.1 q (11 * j + 10)) 1000) : xe (d + 2) 136 [.ref 133, .ref q, .int (nI i), .int (nI j)] σ = some (some (.int (b32 (m_bt (σ.1 138) (σ.1 140) (σ.1 q) i j))), σ) := by
  rw [en_X12_isBetter, sg_X12_isBetter_0 hq, r_sumOf d σ hq hj]
  simp only [pm_cl_some, Option.toList_some, List.cons_append, List.nil_append]
  rw [sg_X12_isBetter_5 hq, r_sumOf d σ hq hi]
  simp only [pm_cl_some, Option.toList_some, List.cons_append, List.nil_append]
  rw [sg_X12_isBetter_10 hq]
  simp (disch := omega) only [pk_mul, nI_add, ck_n, nI_clamp]
  unfold m_bt
  by_cases h : m_sum (σ.1 q) j = m_sum (σ.1 q) i
  · rw [if_pos ((sm_sub0 sj si (by decide) (by decide)).mpr h), if_pos h]
    by_cases h3 : σ.1 140 3 = 0
    · rw [if_pos h3, if_pos h3, tie_m ti tj hi hj]
    · rw [if_neg h3, if_neg h3, tie_m (wi h) (wj h) hi hj]
  · rw [if_neg (fun e => h ((sm_sub0 sj si (by decide) (by decide)).mp e)), if_neg h]
    by_cases h2 : m_sum (σ.1 q) j < m_sum (σ.1 q) i
    · rw [if_pos ((sm_subl sj si (by decide) (by decide)).mpr h2)]
      simp only [h2, decide_true, b32, cond_true]
    · rw [if_neg (fun e => h2 ((sm_subl sj si (by decide) (by decide)).mp e)), if_neg (fun e => h ((sm_sub0 sj si (by decide) (by decide)).mp e))]
      simp only [h2, decide_false, b32, cond_false]
def m_bet (t r w : Nat → Int32) (l i : Nat) : Bool := !decide (i = l) && (decide (0 < m_sum w i) && m_bt t r w i l)
/-- what the reference's places need of its row -/
def okP (sz : Nat) (t w : Nat → Int32) : Prop := ∀ l, l < sz → sm (m_sum w l) 1000 ∧ sm (t (10 * l + 2)) 1000 ∧ (¬ m_sum w l = 0 → sm (w (11 * l + 10)) 1000)
theorem r_placeOf_l (d : Nat) (σ : pm_H) {q sz l : Nat} (hq : rw_ok q) (hz : σ.1 133 22 = nI sz) (hs : sz ≤ 6) (hl : l < sz) (hp : okP sz (σ.1 138) (σ.1 q)) (h0 : ¬ m_sum (σ.1 q) l = 0) : ∀ (k i : Nat) (a : Int32), i + k = sz → pm_run (xe (d + 2)) pg_X12_placeOf_ (15, [.ref 133, .ref q, .int (nI l), .int a, .int (nI i)], [], σ) = some (some (.int (a + cnt (m_bet (σ.1 138) (σ.1 140) (σ.1 q) l) i k)), σ)
  | 0, i, a, h => by
    rw [sg_X12_placeOf__15 hq, hz, if_neg (nI_nlt (by omega) (by omega))]
    simp only [cnt, add_n0]
  | k + 1, i, a, h => by
    rw [sg_X12_placeOf__15 hq, hz, if_pos (nI_lt (by omega) (by omega)), nI_add]
    have ih := fun b => r_placeOf_l d σ hq hz hs hl hp h0 k (i + 1) b (by omega)
    unfold cnt
    by_cases h1 : i = l
    · have hb : m_bet (σ.1 138) (σ.1 140) (σ.1 q) l i = false := by unfold m_bet; simp only [h1, decide_true, Bool.not_true, Bool.false_and]
      rw [if_pos (by rw [h1]), ih, hb]
      simp only [b32, cond_false, Int32.add_assoc]
    · rw [if_neg (fun e => h1 ((nI_eq (by omega) (by omega)).mp e)), r_sumOf (d + 1) σ hq (by omega)]
      simp only [pm_cl_some, Option.toList_some, List.cons_append, List.nil_append]
      rw [sg_X12_placeOf__37 hq, nI_add]
      by_cases h2 : 0 < m_sum (σ.1 q) i
      · have hi := hp i (by omega)
        have hl' := hp l hl
        have hne : ¬ m_sum (σ.1 q) i = 0 := fun e => by rw [e] at h2; exact Int32.lt_irrefl h2
        rw [if_pos h2, r_isBetter d σ hq (by omega) (by omega) hi.1 hl'.1 hi.2.1 hl'.2.1 (fun _ => hi.2.2 hne) (fun _ => hl'.2.2 h0)]
        simp only [pm_cl_some, Option.toList_some, List.cons_append, List.nil_append]
        rw [sg_X12_placeOf__48 hq, nI_add]
        have hb : m_bet (σ.1 138) (σ.1 140) (σ.1 q) l i = m_bt (σ.1 138) (σ.1 140) (σ.1 q) i l := by unfold m_bet; simp only [h1, h2, decide_true, decide_false, Bool.not_false, Bool.true_and]
        rw [hb]
        cases m_bt (σ.1 138) (σ.1 140) (σ.1 q) i l
        · rw [if_pos (by decide), ih]
          simp only [b32, cond_false, Int32.add_assoc]
        · rw [if_neg (by decide), ih]
          simp only [b32, cond_true, Int32.add_assoc]
      · have hb : m_bet (σ.1 138) (σ.1 140) (σ.1 q) l i = false := by unfold m_bet; simp only [h1, h2, decide_false, Bool.false_and, Bool.and_false]
        rw [if_neg h2, ih, hb]
        simp only [b32, cond_false, Int32.add_assoc]
def m_place (sz : Nat) (t r w : Nat → Int32) (l : Nat) : Int32 := if m_sum w l = 0 then nI 0 else nI 1 + cnt (m_bet t r w l) 0 sz
theorem r_placeOf (d : Nat) (σ : pm_H) {q sz l : Nat} (hq : rw_ok q) (hz : σ.1 133 22 = nI sz) (hs : sz ≤ 6) (hl : l < sz) (hp : okP sz (σ.1 138) (σ.1 q)) : xe (d + 3) 135 [.ref 133, .ref q, .int (nI l)] σ = some (some (.int (m_place sz (σ.1 138) (σ.1 140) (σ.1 q) l)), σ) := by
  rw [en_X12_placeOf_, sg_X12_placeOf__0 hq, r_sumOf (d + 1) σ hq (by omega)]
  simp only [pm_cl_some, Option.toList_some, List.cons_append, List.nil_append]
  rw [sg_X12_placeOf__5 hq]
  unfold m_place
  by_cases h : m_sum (σ.1 q) l = 0
  · rw [if_pos h, if_pos h]
  · rw [if_neg h, if_neg h]
    exact r_placeOf_l d σ hq hz hs hl hp h sz 0 (nI 1) (by omega)
/-! ===== places are the same ===== -/
def relS (sz : Nat) (f w : Nat → Int32) : Prop := ∀ l, l < sz → ¬ f (53 + l) = 0 → ¬ f (59 + l) = 0 → w (11 * l + 10) = f (65 + l)
theorem sum_eq {sz : Nat} {f w : Nat → Int32} (hr : relW sz f w) {l : Nat} (hl : l < sz) : m_sum w l = s_sum f l := by
  obtain ⟨⟨-, -, c2, c3, -⟩, -⟩ := hr.2 l hl
  unfold m_sum s_sum
  rw [c2, c3]
theorem sum_ne {f : Nat → Int32} {l : Nat} (h : ¬ s_sum f l = 0) : ¬ f (53 + l) = 0 ∧ ¬ f (59 + l) = 0 := by
  unfold s_sum at h
  refine ⟨fun e => h (by rw [if_pos e]; rfl), fun e => ?_⟩
  by_cases e1 : f (53 + l) = 0
  · exact h (by rw [if_pos e1]; rfl)
  · exact h (by rw [if_neg e1, if_pos e]; rfl)
theorem bet_eq {sz : Nat} {t r t' r' f w : Nat → Int32} {l i : Nat} (hr : relW sz f w) (hS : relS sz f w) (hl : l < sz) (hi : i < sz) (ht : ∀ l, l < sz → t' (10 * l + 2) = t (l * 10 + 2)) (hr3 : r' 3 = r 3) (hp : sm (s_sum f i) 1000 ∧ sm (s_sum f l) 1000) (h0 : ¬ s_sum f l = 0) : m_bet t' r' w l i = s_bet t r f l i := by
  unfold m_bet s_bet m_bt s_bev
  rw [sum_eq hr hi, sum_eq hr hl, ht i hi, ht l hl, hr3]
  by_cases e : i = l
  · subst e
    have : ¬ s_sum f i < s_sum f i := fun h => Int32.lt_irrefl h
    simp only [this, decide_true, decide_false, Bool.not_true, Bool.false_and, Bool.and_false, Bool.or_false]
  · have hpos : (0 < s_sum f i) = ¬ (s_sum f i = 0) := by
      obtain ⟨k, hk', e⟩ := hp.1
      rw [e, ← nI_0]
      refine propext ?_
      rw [nI_ltI (by omega) (by omega), nI_eq (by omega) (by omega)]
      omega
    by_cases h1 : s_sum f i = s_sum f l
    · have h2 : ¬ s_sum f l < s_sum f i := fun h => by rw [h1] at h; exact Int32.lt_irrefl h
      have hi0 : ¬ s_sum f i = 0 := by rw [h1]; exact h0
      obtain ⟨a1, a2⟩ := sum_ne hi0
      obtain ⟨b1, b2⟩ := sum_ne h0
      rw [hS i hi a1 a2, hS l hl b1 b2]
      have hp0 : 0 < s_sum f l := by rw [← h1, hpos]; exact hi0
      simp only [h1, hp0, show ¬ s_sum f l < s_sum f l from fun h => Int32.lt_irrefl h, e, decide_true, decide_false, Bool.not_false, Bool.true_and, Bool.false_or, if_true]
    · have h1' : ¬ s_sum f l = s_sum f i := fun h => h1 h.symm
      by_cases h2 : s_sum f l < s_sum f i
      · have hi0 : ¬ s_sum f i = 0 := fun h => by
          rw [h] at h2
          obtain ⟨k, hk', e⟩ := hp.2
          rw [e, ← nI_0, nI_ltI (by omega) (by omega)] at h2
          omega
        simp only [hpos, hi0, h1', h2, e, not_false_eq_true, decide_true, decide_false, Bool.not_false, Bool.true_and, Bool.true_or, if_false]
      · simp only [h1, h1', h2, e, decide_false, Bool.not_false, Bool.true_and, Bool.and_false, Bool.false_and, Bool.or_false, if_false]
theorem place_eq {sz : Nat} {t r t' r' f w : Nat → Int32} {l : Nat} (hr : relW sz f w) (hS : relS sz f w) (hl : l < sz) (ht : ∀ l, l < sz → t' (10 * l + 2) = t (l * 10 + 2)) (hr3 : r' 3 = r 3) (hp : ∀ l, l < sz → sm (s_sum f l) 1000) : m_place sz t' r' w l = s_place sz t r f l := by
  unfold m_place s_place
  rw [sum_eq hr hl]
  by_cases h0 : s_sum f l = 0
  · rw [if_pos h0, if_pos h0]
  · rw [if_neg h0, if_neg h0, cnt_eq (fun i hi => bet_eq hr hS hl hi ht hr3 ⟨hp i hi, hp l hl⟩ h0) sz 0 (by omega)]

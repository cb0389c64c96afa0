/-! ===== how many lifts can be left: it falls with each lift ===== -/
def lfX (R1 : Nat) (r f : Nat → Int32) (l : Nat) : Nat :=
  (if s_in r f l = true then R1 - (f (11 + l)).toNatClampNeg else 0) + (if f 0 = 0 ∧ (s_in r f l = true ∨ (0 < f (53 + l) ∧ f (47 + l) = 0)) then R1 else 0)
def lft (R1 sz : Nat) (r f : Nat → Int32) : Nat := sumN (lfX R1 r f) sz
theorem sumL_N {g : Nat → Int32} {G : Nat → Nat} : ∀ (k i : Nat), (∀ l, i ≤ l → l < i + k → g l = nI (G l)) → sumL g i k + nI (sumN G i) = nI (sumN G (i + k))
  | 0, i, _ => n0_add _
  | k + 1, i, h => by
    have := sumL_N k (i + 1) (fun l h1 h2 => h l (by omega) (by omega))
    rw [show i + (k + 1) = i + 1 + k by omega, ← this]
    show (g i + sumL g (i + 1) k) + nI (sumN G i) = sumL g (i + 1) k + nI (sumN G i + G i)
    rw [h i (by omega) (by omega), ← nI_add, Int32.add_comm (nI (G i)), Int32.add_assoc, Int32.add_comm (nI (G i))]
theorem lft_q {k sz : Nat} {t r f : Nat → Int32} {T R F : Nat → Nat} (hs : sz ≤ 6) (ht : okT sz t r T R) (h : rp f F) (ho : okN k sz (R 1) F) : sumL (s_left1 r f) 0 sz = nI (lft (R 1) sz r f) := by
  have e := sumL_N (g := s_left1 r f) (G := lfX (R 1) r f) sz 0 (fun l _ hl => by
    obtain ⟨⟨l1, l2, l3, l4, l5, l6⟩, l7⟩ := ho.2.2.2.2 l (by omega)
    have hR := ht.2.2.1
    have e1 : r 1 = nI (R 1) := ht.2.1 1 (by omega)
    have e2 : f (11 + l) = nI (F (11 + l)) := h _ (by omega) (by omega)
    unfold s_left1 lfX
    rw [e1, e2, nI_clamp (by omega), pk_sub l3]
    split <;> split <;> rw [nI_add])
  rw [Nat.zero_add] at e
  rw [← show sumL (s_left1 r f) 0 sz + nI (sumN (lfX (R 1) r f) 0) = sumL (s_left1 r f) 0 sz from add_n0 _, e]
  rfl
theorem g_made_11 {t r f : Nat → Int32} {who l : Nat} (hw : who < 6) (hl : l < 6) (good : Bool) : g_made t r f who good (11 + l) = (if l = who then f (11 + who) + nI 1 else f (11 + l)) := by
  have h0 : upd (upd (upd f 2 (f 2 + (if f 3 = nI who then nI 2 else nI 1))) 1 (f (5 + who))) 3 (nI who) 0 = f 0 := by simp (disch := omega) only [up_ne]
  unfold g_made g_mk2
  cases good with
  | false =>
    by_cases e : l = who
    · subst e
      simp (disch := omega) only [Bool.false_eq_true, if_false, if_true, up_ne, up_at]
    · simp (disch := omega) only [Bool.false_eq_true, if_false, e, up_ne]
  | true =>
    simp only [if_true]
    rw [h0]
    by_cases e0 : f 0 = 0
    · simp only [e0, if_true]
      by_cases e : l = who
      · subst e
        simp (disch := omega) only [if_true, up_ne, up_at]
      · simp (disch := omega) only [if_false, e, up_ne]
    · simp only [e0, if_false]
      by_cases e : l = who
      · subst e
        simp (disch := omega) only [if_true, up_ne, up_at]
      · simp (disch := omega) only [if_false, e, up_ne]
theorem lft_made {k sz who : Nat} {t r f : Nat → Int32} {T R F : Nat → Nat} (good : Bool) (hs : sz ≤ 6) (ht : okT sz t r T R) (h : rp f F) (ho : okN k sz (R 1) F) (hw : who < sz) (hin : s_in r f who = true) : lft (R 1) sz r (g_made t r f who good) + 1 ≤ lft (R 1) sz r f := by
  obtain ⟨i1, i2, i3⟩ := (in_N hs ht h ho hw).mp hin
  have hu := sumN_up (G := lfX (R 1) r f) (G' := lfX (R 1) r (g_made t r f who good)) sz hw (fun l hl hne => by
    obtain ⟨a0, a1, a2, a3⟩ := g_made_at (t := t) (r := r) (f := f) (show who < 6 by omega) (show l < 6 by omega) good
    have e53 : g_made t r f who good (53 + l) = f (53 + l) := by rw [a3, if_neg (fun q => hne q.2.1)]
    have e11 : g_made t r f who good (11 + l) = f (11 + l) := by rw [g_made_11 (by omega) (by omega), if_neg hne]
    unfold lfX
    rw [g_made_in (by omega) (by omega) hne, a0, e53, g_made_47 (by omega) (by omega), e11])
  have e11 : f (11 + who) = nI (F (11 + who)) := h _ (by omega) (by omega)
  have hR3 := ht.2.2.1.2.1
  obtain ⟨a0, a1, a2, a3⟩ := g_made_at (t := t) (r := r) (f := f) (show who < 6 by omega) (show who < 6 by omega) good
  have h1 : lfX (R 1) r f who = R 1 - F (11 + who) + (if f 0 = 0 then R 1 else 0) := by
    unfold lfX
    rw [if_pos hin, e11, nI_clamp (by omega)]
    simp only [hin, true_or, and_true]
  have h2 : lfX (R 1) r (g_made t r f who good) who ≤ (R 1 - F (11 + who) - 1) + (if f 0 = 0 then R 1 else 0) := by
    unfold lfX
    rw [a0, g_made_11 (by omega) (by omega), if_pos rfl, e11, nI_add, nI_clamp (by omega)]
    by_cases c0 : f 0 = 0
    · rw [if_pos c0]
      split <;> split <;> omega
    · simp only [c0, false_and, if_false, Nat.add_zero]
      split <;> omega
  unfold lft
  omega
theorem jk_lo (t r : Nat → Int32) : ∀ (k i : Nat) (f : Nat → Int32), i + k ≤ 6 → ∀ l, l < i → g_jerkL t r i k f (11 + l) = f (11 + l) ∧ g_jerkL t r i k f (17 + l) = f (17 + l) ∧ g_jerkL t r i k f (47 + l) = f (47 + l)
  | 0, _, _, _, _, _ => ⟨rfl, rfl, rfl⟩
  | k + 1, i, f, h, l, hl => by
    obtain ⟨a1, a2, a3⟩ := jk_lo t r k (i + 1) (g_jerk1 t r f i) (by omega) l (by omega)
    show g_jerkL t r (i + 1) k (g_jerk1 t r f i) (11 + l) = _ ∧ g_jerkL t r (i + 1) k (g_jerk1 t r f i) (17 + l) = _ ∧ g_jerkL t r (i + 1) k (g_jerk1 t r f i) (47 + l) = _
    rw [a1, a2, a3]
    unfold g_jerk1 g_start
    refine ⟨?_, ?_, ?_⟩ <;> (split <;> (try split) <;> simp (disch := omega) only [up_ne])
theorem jk_at (t r : Nat → Int32) : ∀ (k i : Nat) (f : Nat → Int32), i + k ≤ 6 → ∀ l, i ≤ l → l < i + k → g_jerkL t r i k f (11 + l) = nI 0 ∧ g_jerkL t r i k f (47 + l) = (if 0 < f (53 + l) ∧ f (47 + l) = 0 then 0 else nI 1) ∧ (0 < f (53 + l) ∧ f (47 + l) = 0 → g_jerkL t r i k f (17 + l) = nI 1)
  | 0, _, _, _, _, _, _ => by omega
  | k + 1, i, f, h, l, h1, h2 => by
    show g_jerkL t r (i + 1) k (g_jerk1 t r f i) (11 + l) = _ ∧ g_jerkL t r (i + 1) k (g_jerk1 t r f i) (47 + l) = _ ∧ (_ → g_jerkL t r (i + 1) k (g_jerk1 t r f i) (17 + l) = _)
    by_cases e : l = i
    · subst e
      obtain ⟨a1, a2, a3⟩ := jk_lo t r k (l + 1) (g_jerk1 t r f l) (by omega) l (by omega)
      rw [a1, a2, a3]
      unfold g_jerk1 g_start
      by_cases c1 : 0 < f (53 + l)
      · by_cases c2 : f (47 + l) = 0
        · rw [if_pos c1, if_pos c2, if_pos ⟨c1, c2⟩]
          refine ⟨?_, ?_, fun _ => ?_⟩ <;> simp (disch := omega) only [up_ne, up_at, c2]
        · rw [if_pos c1, if_neg c2, if_neg (fun q => c2 q.2)]
          exact ⟨by simp (disch := omega) only [up_ne, up_at], by simp (disch := omega) only [up_ne, up_at], fun q => absurd q.2 c2⟩
      · rw [if_neg c1, if_neg (fun q => c1 q.1)]
        exact ⟨by simp (disch := omega) only [up_ne, up_at], by simp (disch := omega) only [up_ne, up_at], fun q => absurd q.1 c1⟩
    · have := jk_at t r k (i + 1) (g_jerk1 t r f i) (by omega) l (by omega) (by omega)
      obtain ⟨b1, b2⟩ := jerk1_ne (t := t) (r := r) (f := f) (i := i) (l := l) e (by omega) (by omega)
      rw [b1, b2] at this
      exact this
theorem lft_over {R1 sz : Nat} {r f : Nat → Int32} (hs : sz ≤ 6) : lft R1 sz r (g_over sz r f) = lft R1 sz r f := by
  unfold g_over
  by_cases h1 : f 0 = nI 1
  · rw [if_pos h1]
    cases non (s_in r f) 0 sz
    · rfl
    · rw [if_pos rfl]
      unfold lft
      refine sumN_same sz (fun l hl => ?_)
      unfold lfX
      have a : ¬ nI 2 = 0 := by decide
      have b : ¬ f 0 = 0 := by rw [h1]; decide
      simp (disch := omega) only [s_in_0, up_ne, up_at, a, b, false_and, if_false]
  · rw [if_neg h1]
theorem lft_on {sz : Nat} {t r f : Nat → Int32} {T R : Nat → Nat} (hs : sz ≤ 6) (ht : okT sz t r T R) : lft (R 1) sz r (g_on sz t r f) = lft (R 1) sz r f := by
  unfold g_on
  rw [lft_over hs]
  by_cases h0 : f 0 = 0
  · rw [if_pos h0]
    cases hn : non (s_in r f) 0 sz
    · rfl
    · rw [if_pos rfl]
      unfold lft
      refine sumN_same sz (fun l hl => ?_)
      have hout := non_all _ sz 0 hn l (by omega) (by omega)
      obtain ⟨a1, a2, a3⟩ := jk_at t r sz 0 (upd (upd (upd f 0 (nI 1)) 1 (nI 0)) 3 (-1)) (by omega) l (by omega) (by omega)
      simp (disch := omega) only [up_ne] at a2 a3
      have e0 : g_jerk sz t r f 0 = nI 1 := by
        have key : ∀ (k i : Nat) (f : Nat → Int32), i + k ≤ 6 → g_jerkL t r i k f 0 = f 0 := by
          intro k
          induction k with
          | zero => intro i f _; rfl
          | succ k ih =>
            intro i f hik
            show g_jerkL t r (i + 1) k (g_jerk1 t r f i) 0 = _
            rw [ih (i + 1) _ (by omega)]
            unfold g_jerk1 g_start
            split <;> (try split) <;> simp (disch := omega) only [up_ne]
        unfold g_jerk
        rw [key sz 0 _ (by omega)]
        simp (disch := omega) only [up_ne, up_at]
      have h1 : lfX (R 1) r f l = if 0 < f (53 + l) ∧ f (47 + l) = 0 then R 1 else 0 := by
        unfold lfX
        rw [hout, if_neg (by decide)]
        simp only [h0, true_and, Bool.false_eq_true, false_or, Nat.zero_add]
      rw [h1]
      unfold lfX
      rw [e0, if_neg (show ¬ (nI 1 = 0 ∧ _) from fun q => absurd q.1 (by decide)), Nat.add_zero]
      have e11 : g_jerk sz t r f (11 + l) = nI 0 := a1
      have e47 : g_jerk sz t r f (47 + l) = (if 0 < f (53 + l) ∧ f (47 + l) = 0 then 0 else nI 1) := a2
      have e1 : r 1 = nI (R 1) := ht.2.1 1 (by omega)
      have hR := ht.2.2.1
      by_cases c : 0 < f (53 + l) ∧ f (47 + l) = 0
      · have e17 : g_jerk sz t r f (17 + l) = nI 1 := a3 c
        rw [if_pos c] at e47 ⊢
        have hi : s_in r (g_jerk sz t r f) l = true := by
          unfold s_in
          rw [e11, e47, e17, e1, decide_eq_true rfl, decide_eq_true (nI_lt (show 0 < R 1 by omega) (by omega))]
          decide
        rw [if_pos hi, e11]
        rfl
      · rw [if_neg c] at e47 ⊢
        have hi : s_in r (g_jerk sz t r f) l = false := by
          unfold s_in
          rw [e47, decide_eq_false (show ¬ nI 1 = 0 by decide)]
          rfl
        rw [hi, if_neg (by decide)]
  · rw [if_neg h0]
/-- a place is at most the number of lifters -/
theorem cnt_lt {p : Nat → Bool} : ∀ (k i : Nat), (∃ l, i ≤ l ∧ l < i + k ∧ p l = false) → ∃ n, n + 1 ≤ k ∧ cnt p i k = nI n
  | 0, i, h => by
    obtain ⟨l, h1, h2, -⟩ := h
    omega
  | k + 1, i, h => by
    obtain ⟨l, h1, h2, h3⟩ := h
    by_cases e : l = i
    · subst e
      obtain ⟨n, a1, a2, -⟩ := cnt_le p k (l + 1)
      refine ⟨n, by omega, ?_⟩
      unfold cnt
      rw [h3, a2]
      exact n0_add _
    · obtain ⟨n, a1, a2⟩ := cnt_lt (p := p) k (i + 1) ⟨l, by omega, by omega, h3⟩
      refine ⟨(if p i then 1 else 0) + n, by split <;> omega, ?_⟩
      unfold cnt
      rw [a2]
      cases p i
      · exact n0_add _ |>.trans (by rw [if_neg (by decide), Nat.zero_add])
      · exact (nI_add 1 n)
theorem s_place_6 {sz l : Nat} {t r f : Nat → Int32} (hl : l < sz) : ∃ p, p ≤ sz ∧ s_place sz t r f l = nI p := by
  unfold s_place
  by_cases h : s_sum f l = 0
  · exact ⟨0, by omega, by rw [if_pos h]⟩
  · obtain ⟨n, a1, a2⟩ := cnt_lt (p := s_bet t r f l) sz 0 ⟨l, by omega, by omega, by
      unfold s_bet
      rw [decide_eq_false (Int32.lt_irrefl), decide_eq_true rfl]
      simp⟩
    exact ⟨1 + n, by omega, by rw [if_neg h, a2, nI_add]⟩
/-! ===== all ways to the end ===== -/
def ends (nx : (Nat → Int32) → Option Nat) (ch : (Nat → Int32) → Nat → Nat) (st : (Nat → Int32) → Nat → Bool → (Nat → Int32)) : Nat → (Nat → Int32) → Nat → List ((Nat → Int32) × Nat)
  | 0, f, s => [(f, s)]
  | m + 1, f, s => match nx f with
    | none => [(f, s)]
    | some who => ends nx ch st m (st f who true) (s * ch f who / 100) ++ ends nx ch st m (st f who false) (s - s * ch f who / 100)
def sP (pl : (Nat → Int32) → Nat → Int32) (l q : Nat) : List ((Nat → Int32) × Nat) → Int64
  | [] => 0
  | (f, s) :: es => (if pl f l = nI q then lN s else 0) + sP pl l q es
def sM (vl : (Nat → Int32) → Nat → Int32) (l : Nat) : List ((Nat → Int32) × Nat) → Int64
  | [] => 0
  | (f, s) :: es => lN s * (vl f l).toInt64 + sM vl l es
theorem sP_app (pl : (Nat → Int32) → Nat → Int32) (l q : Nat) (es' : List ((Nat → Int32) × Nat)) : ∀ es, sP pl l q (es ++ es') = sP pl l q es + sP pl l q es'
  | [] => (Int64.zero_add _).symm
  | (f, s) :: es => by
    show _ + sP pl l q (es ++ es') = _ + sP pl l q es + _
    rw [sP_app pl l q es' es, Int64.add_assoc]
theorem sM_app (vl : (Nat → Int32) → Nat → Int32) (l : Nat) (es' : List ((Nat → Int32) × Nat)) : ∀ es, sM vl l (es ++ es') = sM vl l es + sM vl l es'
  | [] => (Int64.zero_add _).symm
  | (f, s) :: es => by
    show _ + sM vl l (es ++ es') = _ + sM vl l es + _
    rw [sM_app vl l es' es, Int64.add_assoc]
theorem ends_0 {nx : (Nat → Int32) → Option Nat} {ch : (Nat → Int32) → Nat → Nat} {st : (Nat → Int32) → Nat → Bool → (Nat → Int32)} (pl vl : (Nat → Int32) → Nat → Int32) (l q : Nat) : ∀ (m : Nat) (f : Nat → Int32), sP pl l q (ends nx ch st m f 0) = 0 ∧ sM vl l (ends nx ch st m f 0) = 0
  | 0, f => by
    constructor
    · show (if pl f l = nI q then lN 0 else 0) + 0 = 0
      rw [show lN 0 = 0 from rfl, ite_self]
      rfl
    · show lN 0 * (vl f l).toInt64 + 0 = 0
      rw [show lN 0 = 0 from rfl, Int64.zero_mul]
      rfl
  | m + 1, f => by
    unfold ends
    split
    · constructor
      · show (if pl f l = nI q then lN 0 else 0) + 0 = 0
        rw [show lN 0 = 0 from rfl, ite_self]
        rfl
      · show lN 0 * (vl f l).toInt64 + 0 = 0
        rw [show lN 0 = 0 from rfl, Int64.zero_mul]
        rfl
    · rename_i who _
      rw [Nat.zero_mul, Nat.zero_div, Nat.sub_zero, sP_app, sM_app, (ends_0 pl vl l q m (st f who true)).1, (ends_0 pl vl l q m (st f who false)).1, (ends_0 pl vl l q m (st f who true)).2, (ends_0 pl vl l q m (st f who false)).2]
      exact ⟨rfl, rfl⟩

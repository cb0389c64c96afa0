/-! ===== what always holds of a Stand's row: small numbers ===== -/
def upn (F : Nat → Nat) (k m : Nat) : Nat → Nat := fun j => if j = k then m else F j
theorem un_at (F : Nat → Nat) (k m : Nat) : upn F k m k = m := by simp [upn]
theorem un_ne (F : Nat → Nat) {k j : Nat} (m : Nat) (h : j ≠ k) : upn F k m j = F j := by simp [upn, h]
def rp (f : Nat → Int32) (F : Nat → Nat) : Prop := ∀ j, j < 71 → j ≠ 3 → f j = nI (F j)
theorem rp_up {f : Nat → Int32} {F : Nat → Nat} (h : rp f F) (k : Nat) {v : Int32} {m : Nat} (hv : v = nI m) : rp (upd f k v) (upn F k m) := by
  intro j h1 h2
  by_cases e : j = k
  · subst e
    rw [up_at, un_at, hv]
  · rw [up_ne f v e, un_ne F m e]
    exact h j h1 h2
theorem rp_up3 {f : Nat → Int32} {F : Nat → Nat} (h : rp f F) (v : Int32) : rp (upd f 3 v) F := by
  intro j h1 h2
  rw [up_ne f v h2]
  exact h j h1 h2
def sumN (G : Nat → Nat) : Nat → Nat
  | 0 => 0
  | n + 1 => sumN G n + G n
theorem sumN_same {G G' : Nat → Nat} : ∀ n : Nat, (∀ l, l < n → G' l = G l) → sumN G' n = sumN G n
  | 0, _ => rfl
  | n + 1, h => by
    unfold sumN
    rw [sumN_same n (fun l hl => h l (by omega)), h n (by omega)]
theorem sumN_up {G G' : Nat → Nat} {who : Nat} : ∀ n : Nat, who < n → (∀ l, l < n → l ≠ who → G' l = G l) → sumN G' n + G who = sumN G n + G' who
  | 0, h, _ => by omega
  | n + 1, h, hg => by
    unfold sumN
    by_cases e : who = n
    · subst e
      rw [sumN_same who (fun l hl => hg l (by omega) (by omega))]
      omega
    · have := sumN_up n (by omega) (fun l hl hne => hg l (by omega) hne)
      rw [hg n (by omega) (by omega)]
      omega
theorem sumN_le {G : Nat → Nat} {b : Nat} : ∀ n : Nat, (∀ l, l < n → G l ≤ b) → sumN G n ≤ n * b
  | 0, _ => by simp [sumN]
  | n + 1, h => by
    unfold sumN
    have h1 := sumN_le n (fun l hl => h l (by omega))
    have h2 := h n (by omega)
    rw [Nat.succ_mul]
    omega
theorem sumN_lt {G : Nat → Nat} {b who : Nat} : ∀ n : Nat, (∀ l, l < n → G l ≤ b) → who < n → G who < b → sumN G n < n * b
  | 0, _, h, _ => by omega
  | n + 1, h, hw, hl => by
    unfold sumN
    rw [Nat.succ_mul]
    by_cases e : who = n
    · subst e
      have h1 := sumN_le who (fun l hl => h l (by omega))
      omega
    · have h1 := sumN_lt n (fun l hl => h l (by omega)) (by omega) hl
      have h2 := h n (by omega)
      omega
/-- of one lifter, in round rd, at minute mi, with R tries a round -/
def okL (R rd mi : Nat) (F : Nat → Nat) (l : Nat) : Prop :=
  (1 ≤ F (5 + l) ∧ F (5 + l) ≤ 99 ∧ F (11 + l) ≤ R ∧ 1 ≤ F (17 + l) ∧ F (17 + l) ≤ 104 ∧ F (23 + l) ≤ 2) ∧ F (29 + l) ≤ 9 ∧ F (35 + l) ≤ 3 * rd + F (11 + l) ∧ F (41 + l) ≤ mi ∧ F (47 + l) ≤ 1 ∧ F (53 + l) ≤ 99 ∧ F (59 + l) ≤ 99
def okN (k sz R : Nat) (F : Nat → Nat) : Prop :=
  F 0 ≤ 2 ∧ F 1 ≤ 99 ∧ F 2 ≤ 2 * F 4 + k ∧ F 4 = sumN (fun l => F (35 + l)) sz ∧ ∀ l, l < sz → okL R (min (F 0) 1) (F 2) F l
/-- what the HALL tells is within its bounds -/
def okT (sz : Nat) (t r : Nat → Int32) (T R : Nat → Nat) : Prop :=
  (∀ l, l < sz → ∀ k, k < 10 → t (l * 10 + k) = nI (T (l * 10 + k))) ∧ (∀ k, k < 4 → r k = nI (R k)) ∧ (R 0 ≤ 2 ∧ R 1 ≤ 3 ∧ 1 ≤ R 1 ∧ 1 ≤ R 2 ∧ R 2 ≤ 5 ∧ R 3 ≤ 1) ∧
  ∀ l, l < sz → (T (l * 10 + 0) ≤ 99 ∧ T (l * 10 + 1) ≤ 99 ∧ 1 ≤ T (l * 10 + 2) ∧ T (l * 10 + 2) ≤ 99 ∧ 1 ≤ T (l * 10 + 3) ∧ T (l * 10 + 3) ≤ 9) ∧ (T (l * 10 + 4) ≤ 9 ∧ T (l * 10 + 5) ≤ 9 ∧ T (l * 10 + 6) ≤ 9 ∧ 1 ≤ T (l * 10 + 7) ∧ T (l * 10 + 7) ≤ 99 ∧ 1 ≤ T (l * 10 + 8)) ∧ T (l * 10 + 8) ≤ 99 ∧ 1 ≤ T (l * 10 + 9) ∧ T (l * 10 + 9) ≤ 9
def N_start (T R : Nat → Nat) (F : Nat → Nat) (l k : Nat) : Nat → Nat := upn (upn (upn F (23 + l) (R 0)) (17 + l) 1) (5 + l) (T (l * 10 + k))
theorem rp_start {sz : Nat} {t r f : Nat → Int32} {T R F : Nat → Nat} (ht : okT sz t r T R) (h : rp f F) {l k : Nat} (hl : l < sz) (hk : k < 10) : rp (g_start t r f l k) (N_start T R F l k) :=
  rp_up (rp_up (rp_up h _ (ht.2.1 0 (by omega))) _ rfl) _ (ht.1 l hl k hk)
/-- the beginning of the jerk, one lifter -/
theorem inv_jerk1 {k sz i : Nat} {t r f : Nat → Int32} {T R F : Nat → Nat} (hs : sz ≤ 6) (ht : okT sz t r T R) (h : rp f F) (ho : okN k sz (R 1) F) (h0 : F 0 = 1) (hi : i < sz) (h35 : F (35 + i) ≤ 3) : ∃ F', rp (g_jerk1 t r f i) F' ∧ okN k sz (R 1) F' ∧ F' 0 = 1 ∧ F' 4 = F 4 ∧ F' 2 = F 2 ∧ ∀ l, l < 6 → F' (35 + l) = F (35 + l) := by
  obtain ⟨o0, o1, o2, o4, ol⟩ := ho
  have hF1 : rp (upd (upd f (11 + i) (nI 0)) (41 + i) (f 2)) (upn (upn F (11 + i) 0) (41 + i) (F 2)) := rp_up (rp_up h _ rfl) _ (h 2 (by omega) (by omega))
  have hsum : ∀ G : Nat → Nat, (∀ l, l < sz → G (35 + l) = F (35 + l)) → sumN (fun l => G (35 + l)) sz = sumN (fun l => F (35 + l)) sz := fun G hG => sumN_same sz hG
  have okhome : okN k sz (R 1) (upn (upn (upn F (11 + i) 0) (41 + i) (F 2)) (47 + i) 1) := by
    refine ⟨?_, ?_, ?_, ?_, fun l hl => ?_⟩
    · simp (disch := omega) only [un_ne]; exact o0
    · simp (disch := omega) only [un_ne]; exact o1
    · simp (disch := omega) only [un_ne]; exact o2
    · rw [hsum _ (fun l hl => by simp (disch := omega) only [un_ne])]
      simp (disch := omega) only [un_ne]; exact o4
    · have := ol l hl
      have hi' := ol i hi
      rw [h0] at this hi'
      by_cases e : l = i
      · subst e
        unfold okL at this ⊢
        simp (disch := omega) only [un_ne, un_at, h0]
        omega
      · unfold okL at this ⊢
        simp (disch := omega) only [un_ne, h0]
        exact this
  have okstart : okN k sz (R 1) (N_start T R (upn (upn F (11 + i) 0) (41 + i) (F 2)) i 8) := by
    unfold N_start
    refine ⟨?_, ?_, ?_, ?_, fun l hl => ?_⟩
    · simp (disch := omega) only [un_ne]; exact o0
    · simp (disch := omega) only [un_ne]; exact o1
    · simp (disch := omega) only [un_ne]; exact o2
    · rw [hsum _ (fun l hl => by simp (disch := omega) only [un_ne])]
      simp (disch := omega) only [un_ne]; exact o4
    · have := ol l hl
      rw [h0] at this
      obtain ⟨-, -, ⟨r0, r1, -⟩, hT⟩ := ht
      obtain ⟨-, ⟨-, -, -, -, -, t8⟩, t9, -⟩ := hT i hi
      by_cases e : l = i
      · subst e
        unfold okL at this ⊢
        simp (disch := omega) only [un_ne, un_at, h0]
        omega
      · unfold okL at this ⊢
        simp (disch := omega) only [un_ne, h0]
        exact this
  unfold g_jerk1
  by_cases h1 : 0 < f (53 + i)
  · by_cases h2 : f (47 + i) = 0
    · simp only [h1, h2, if_true]
      exact ⟨_, rp_start ht hF1 hi (by omega), okstart, by unfold N_start; simp (disch := omega) only [un_ne, h0], by unfold N_start; simp (disch := omega) only [un_ne], by unfold N_start; simp (disch := omega) only [un_ne], fun l hl => by unfold N_start; simp (disch := omega) only [un_ne]⟩
    · simp only [h1, h2, if_true, if_false]
      exact ⟨_, rp_up hF1 _ rfl, okhome, by simp (disch := omega) only [un_ne, h0], by simp (disch := omega) only [un_ne], by simp (disch := omega) only [un_ne], fun l hl => by simp (disch := omega) only [un_ne]⟩
  · simp only [h1, if_false]
    exact ⟨_, rp_up hF1 _ rfl, okhome, by simp (disch := omega) only [un_ne, h0], by simp (disch := omega) only [un_ne], by simp (disch := omega) only [un_ne], fun l hl => by simp (disch := omega) only [un_ne]⟩
theorem inv_jerkL {k sz : Nat} {t r : Nat → Int32} {T R : Nat → Nat} (hs : sz ≤ 6) (ht : okT sz t r T R) : ∀ (m i : Nat) (f : Nat → Int32) (F : Nat → Nat), i + m = sz → rp f F → okN k sz (R 1) F → F 0 = 1 → (∀ l, i ≤ l → l < sz → F (35 + l) ≤ 3) → ∃ F', rp (g_jerkL t r i m f) F' ∧ okN k sz (R 1) F' ∧ F' 0 = 1 ∧ F' 4 = F 4 ∧ F' 2 = F 2
  | 0, _, _, F, _, h, ho, h0, _ => ⟨F, h, ho, h0, rfl, rfl⟩
  | m + 1, i, f, F, hm, h, ho, h0, h3 => by
    obtain ⟨F', a, b, c, e4, e2, e35⟩ := inv_jerk1 (i := i) hs ht h ho h0 (by omega) (h3 i (by omega) (by omega))
    obtain ⟨F2, a', b', c', e4', e2'⟩ := inv_jerkL hs ht m (i + 1) _ F' (by omega) a b c (fun l h1 h2 => by rw [e35 l (by omega)]; exact h3 l (by omega) h2)
    exact ⟨F2, a', b', c', e4'.trans e4, e2'.trans e2⟩
theorem inv_jerk {k sz : Nat} {t r f : Nat → Int32} {T R F : Nat → Nat} (hs : sz ≤ 6) (ht : okT sz t r T R) (h : rp f F) (ho : okN k sz (R 1) F) (h0 : F 0 = 0) : ∃ F', rp (g_jerk sz t r f) F' ∧ okN k sz (R 1) F' ∧ F' 0 = 1 ∧ F' 4 = F 4 ∧ F' 2 = F 2 := by
  obtain ⟨o0, o1, o2, o4, ol⟩ := ho
  have hok : okN k sz (R 1) (upn (upn F 0 1) 1 0) := by
    refine ⟨by simp (disch := omega) only [un_ne, un_at] <;> omega, by simp (disch := omega) only [un_ne, un_at] <;> omega, by simp (disch := omega) only [un_ne]; exact o2, ?_, fun l hl => ?_⟩
    · rw [sumN_same (G := fun l => F (35 + l)) sz (fun l hl => by simp (disch := omega) only [un_ne])]
      simp (disch := omega) only [un_ne]; exact o4
    · have := ol l hl
      rw [h0] at this
      unfold okL at this ⊢
      simp (disch := omega) only [un_ne, un_at]
      omega
  have h35 : ∀ l, 0 ≤ l → l < sz → upn (upn F 0 1) 1 0 (35 + l) ≤ 3 := by
    intro l _ hl
    have := ol l hl
    rw [h0] at this
    have hR := ht.2.2.1.2.1
    unfold okL at this
    simp (disch := omega) only [un_ne]
    omega
  obtain ⟨F', a, b, c, e4, e2⟩ := inv_jerkL (k := k) hs ht sz 0 (upd (upd (upd f 0 (nI 1)) 1 (nI 0)) 3 (-1)) (upn (upn F 0 1) 1 0) (by omega) (rp_up3 (rp_up (rp_up h _ rfl) _ rfl) _) hok (by simp (disch := omega) only [un_ne, un_at]) h35
  exact ⟨F', a, b, c, e4.trans (by simp (disch := omega) only [un_ne]), e2.trans (by simp (disch := omega) only [un_ne])⟩
/-- over means that nobody is in -/
def okO (sz : Nat) (r f : Nat → Int32) : Prop := f 0 = nI 2 → ∀ l, l < sz → s_in r f l = false
theorem non_all (p : Nat → Bool) : ∀ k i : Nat, non p i k = true → ∀ l, i ≤ l → l < i + k → p l = false
  | 0, _, _, _, _, _ => by omega
  | k + 1, i, h, l, h1, h2 => by
    unfold non at h
    simp only [Bool.and_eq_true, Bool.not_eq_true'] at h
    by_cases e : l = i
    · subst e
      exact h.1
    · exact non_all p k (i + 1) h.2 l (by omega) (by omega)
theorem s_in_0 (r f : Nat → Int32) (a : Int32) (l : Nat) : s_in r (upd f 0 a) l = s_in r f l := by
  unfold s_in
  simp (disch := omega) only [up_ne]
theorem inv_on {k sz : Nat} {t r f : Nat → Int32} {T R F : Nat → Nat} (hs : sz ≤ 6) (ht : okT sz t r T R) (h : rp f F) (ho : okN k sz (R 1) F) (hO : okO sz r f) : ∃ F', rp (g_on sz t r f) F' ∧ okN k sz (R 1) F' ∧ F' 4 = F 4 ∧ F' 2 = F 2 ∧ okO sz r (g_on sz t r f) := by
  have hf0 := h 0 (by omega) (by omega)
  have over : ∀ (g : Nat → Int32) (G : Nat → Nat), rp g G → okN k sz (R 1) G → okO sz r g → ∃ F', rp (g_over sz r g) F' ∧ okN k sz (R 1) F' ∧ F' 4 = G 4 ∧ F' 2 = G 2 ∧ okO sz r (g_over sz r g) := by
    intro g G hg hG hgO
    have hg0 := hg 0 (by omega) (by omega)
    unfold g_over
    by_cases h1 : g 0 = nI 1
    · rw [if_pos h1]
      cases hn : non (s_in r g) 0 sz
      · simp only [Bool.false_eq_true, if_false]
        exact ⟨G, hg, hG, rfl, rfl, hgO⟩
      · simp only [if_true]
        obtain ⟨o0, o1, o2, o4, ol⟩ := hG
        have e1 : G 0 = 1 := by
          rw [hg0] at h1
          exact (nI_eq (by omega) (by omega)).mp h1
        refine ⟨upn G 0 2, rp_up hg _ rfl, ⟨by simp (disch := omega) only [un_at] <;> omega, by simp (disch := omega) only [un_ne]; exact o1, by simp (disch := omega) only [un_ne]; exact o2, ?_, fun l hl => ?_⟩, by simp (disch := omega) only [un_ne], by simp (disch := omega) only [un_ne], ?_⟩
        · rw [sumN_same (G := fun l => G (35 + l)) sz (fun l hl => by simp (disch := omega) only [un_ne])]
          simp (disch := omega) only [un_ne]; exact o4
        · have := ol l hl
          rw [e1] at this
          unfold okL at this ⊢
          simp (disch := omega) only [un_ne, un_at]
          omega
        · intro _ l hl
          rw [s_in_0]
          exact non_all _ sz 0 hn l (by omega) (by omega)
    · rw [if_neg h1]
      exact ⟨G, hg, hG, rfl, rfl, hgO⟩
  unfold g_on
  by_cases h0 : f 0 = 0
  · rw [if_pos h0]
    cases hn : non (s_in r f) 0 sz
    · simp only [Bool.false_eq_true, if_false]
      exact over f F h ho hO
    · simp only [if_true]
      have e0 : F 0 = 0 := by
        rw [hf0, ← nI_0] at h0
        exact (nI_eq (by have := ho.1; omega) (by omega)).mp h0
      obtain ⟨F', a, b, c, e4, e2⟩ := inv_jerk (k := k) hs ht h ho e0
      obtain ⟨F2, a', b', e4', e2', hO'⟩ := over _ F' a b (fun e => by
        rw [a 0 (by omega) (by omega), c] at e
        exact absurd e (by decide))
      exact ⟨F2, a', b', e4'.trans e4, e2'.trans e2, hO'⟩
  · rw [if_neg h0]
    exact over f F h ho hO

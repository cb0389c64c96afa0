/-! ===== what can be undone: the ring and the reference's rows ===== -/
def relP (k sz : Nat) (r : Nat → Int32) (R1 n a e : Nat) (P : Nat → Nat → Int32) (lg : Nat → Nat → Int32) (U : Nat → Int32) : Prop :=
  ∃ M : Nat → Nat, (∀ p q, p ≤ q → q < a → M p ≤ M q) ∧ ∀ p, p < a → M p ≤ n ∧ relM k sz r R1 (P ((e + 40 - a + p) % 40)) lg (fun j => U (251 * p + j)) (M p)
theorem relP_mono {k k' sz R1 n n' a e : Nat} {r : Nat → Int32} {P : Nat → Nat → Int32} {lg : Nat → Nat → Int32} {U : Nat → Int32} (h : relP k sz r R1 n a e P lg U) (hk : k ≤ k') (hn : n ≤ n') : relP k' sz r R1 n' a e P lg U := by
  obtain ⟨M, h1, h2⟩ := h
  refine ⟨M, h1, fun p hp => ?_⟩
  obtain ⟨hm, h⟩ := h2 p hp
  exact ⟨by omega, relM_mono h hk⟩
theorem relP_ext {k sz R1 n a e : Nat} {r : Nat → Int32} {P P' : Nat → Nat → Int32} {lg lg' : Nat → Nat → Int32} {U : Nat → Int32} (hs : sz ≤ 6) (h : relP k sz r R1 n a e P lg U) (hP : ∀ i, i < 40 → ∀ j, j < 71 → P' i j = P i j) (hl : ∀ q i, q < 5 → i < n → lg' q i = lg q i) : relP k sz r R1 n a e P' lg' U := by
  obtain ⟨M, h1, h2⟩ := h
  refine ⟨M, h1, fun p hp => ?_⟩
  obtain ⟨hm, h⟩ := h2 p hp
  exact ⟨hm, relM_ext hs (fun j hj => hP _ (Nat.mod_lt _ (by omega)) j hj) (fun _ _ => rfl) (fun q i h1 h2 => hl q i h1 (by omega)) h⟩
theorem relP_lg {k sz R1 n a e : Nat} {r : Nat → Int32} {P : Nat → Nat → Int32} {lg lg' : Nat → Nat → Int32} {U : Nat → Int32} (hs : sz ≤ 6) (h : relP k sz r R1 n a e P lg U) (hl : ∀ q i, q < 5 → i < n → lg' q i = lg q i) : relP k sz r R1 n a e P lg' U := relP_ext hs h (fun _ _ _ _ => rfl) hl
theorem relP_pop {k sz R1 n a e : Nat} {r : Nat → Int32} {P : Nat → Nat → Int32} {lg : Nat → Nat → Int32} {U : Nat → Int32} (ha : 0 < a) (ha2 : a ≤ 40) (he : e < 40) (h : relP k sz r R1 n a e P lg U) : ∃ m, m ≤ n ∧ relM k sz r R1 (P ((e + 39) % 40)) lg (fun j => U (251 * (a - 1) + j)) m ∧ relP k sz r R1 m (a - 1) ((e + 39) % 40) P lg U := by
  obtain ⟨M, h1, h2⟩ := h
  obtain ⟨hm, hM⟩ := h2 (a - 1) (by omega)
  refine ⟨M (a - 1), hm, ?_, M, fun p q hp hq => h1 p q hp (by omega), fun p hp => ?_⟩
  · rw [show (e + 40 - a + (a - 1)) % 40 = (e + 39) % 40 by omega] at hM
    exact hM
  · obtain ⟨-, hM'⟩ := h2 p (by omega)
    refine ⟨h1 p (a - 1) (by omega) (by omega), ?_⟩
    rw [show (e + 40 - a + p) % 40 = ((e + 39) % 40 + 40 - (a - 1) + p) % 40 by omega] at hM'
    exact hM'
def u_put (w U : Nat → Int32) (a : Nat) : Nat → Int32 := fun j => if 251 * a ≤ j ∧ j < 251 * a + 251 then w (j - 251 * a) else U j
def u_sh (U : Nat → Int32) : Nat → Int32 := fun j => if j < 9789 then U (j + 251) else U j
theorem relP_push {k sz R1 n a e : Nat} {r f w : Nat → Int32} {P P' : Nat → Nat → Int32} {lg : Nat → Nat → Int32} {U : Nat → Int32} (hs : sz ≤ 6) (hR : R1 ≤ 3) (ha : a ≤ 40) (he : e < 40) (h : relP k sz r R1 n a e P lg U) (hM : relM k sz r R1 f lg w n) (hP : ∀ i, i < 40 → i ≠ e → P' i = P i) (hPe : ∀ j, j < 71 → P' e j = f j) :
    relP k sz r R1 n (if a = 40 then 40 else a + 1) ((e + 1) % 40) P' lg (if a = 40 then u_put w (u_sh U) 39 else u_put w U a) := by
  have hn := (relM_n hs hR hM).1
  obtain ⟨M, hM1, hM2⟩ := h
  by_cases c : a = 40
  · simp only [if_pos c]
    subst c
    refine ⟨fun p => if p = 39 then n else M (p + 1), fun p q hp hq => ?_, fun p hp => ?_⟩
    · dsimp only
      by_cases cq : q = 39
      · rw [if_pos cq]
        by_cases cp : p = 39
        · rw [if_pos cp]; exact Nat.le_refl n
        · rw [if_neg cp]; exact (hM2 (p + 1) (by omega)).1
      · rw [if_neg cq, if_neg (by omega)]
        exact hM1 _ _ (by omega) (by omega)
    · dsimp only
      by_cases cp : p = 39
      · subst cp
        rw [if_pos rfl]
        refine ⟨Nat.le_refl n, ?_⟩
        rw [show ((e + 1) % 40 + 40 - 40 + 39) % 40 = e by omega]
        refine relM_ext hs hPe (fun j hj => ?_) (fun _ _ _ _ => rfl) hM
        unfold u_put
        rw [if_pos (by omega), show 251 * 39 + j - 251 * 39 = j by omega]
      · obtain ⟨hm, h⟩ := hM2 (p + 1) (by omega)
        rw [if_neg cp]
        refine ⟨hm, ?_⟩
        rw [show (e + 40 - 40 + (p + 1)) % 40 = ((e + 1) % 40 + 40 - 40 + p) % 40 by omega] at h
        have hm36 := (relM_n hs hR h).1
        refine relM_ext hs (fun j hj => by rw [hP _ (by omega) (by omega)]) (fun j hj => ?_) (fun _ _ _ _ => rfl) h
        unfold u_put u_sh
        rw [if_neg (by omega), if_pos (by omega), show 251 * (p + 1) + j = 251 * p + j + 251 by omega]
  · simp only [if_neg c]
    refine ⟨fun p => if p = a then n else M p, fun p q hp hq => ?_, fun p hp => ?_⟩
    · dsimp only
      by_cases cq : q = a
      · rw [if_pos cq]
        by_cases cp : p = a
        · rw [if_pos cp]; exact Nat.le_refl n
        · rw [if_neg cp]; exact (hM2 p (by omega)).1
      · rw [if_neg cq, if_neg (by omega)]
        exact hM1 _ _ (by omega) (by omega)
    · dsimp only
      by_cases cp : p = a
      · subst cp
        rw [if_pos rfl]
        refine ⟨Nat.le_refl n, ?_⟩
        rw [show ((e + 1) % 40 + 40 - (p + 1) + p) % 40 = e by omega]
        refine relM_ext hs hPe (fun j hj => ?_) (fun _ _ _ _ => rfl) hM
        unfold u_put
        rw [if_pos (by omega), show 251 * p + j - 251 * p = j by omega]
      · obtain ⟨hm, h⟩ := hM2 p (by omega)
        rw [if_neg cp]
        refine ⟨hm, ?_⟩
        rw [show (e + 40 - a + p) % 40 = ((e + 1) % 40 + 40 - (a + 1) + p) % 40 by omega] at h
        have hm36 := (relM_n hs hR h).1
        refine relM_ext hs (fun j hj => by rw [hP _ (by omega) (by omega)]) (fun j hj => ?_) (fun _ _ _ _ => rfl) h
        unfold u_put
        rw [if_neg (by omega)]
/-! ===== keepPast and remember ===== -/
theorem kd_past : ∀ i, i < 40 → pm_kd (93 + i) = .inl (0, 71, 0) := by decide
def x_past (σ : pm_H) (a e : Nat) : pm_H := pm_wC (pm_wC σ (93 + e) (va_cpy (σ.1 24) (σ.1 (93 + e)) 0 0 71)) 0 (upd (upd (σ.1 0) 15 (nI ((e + 1) % 40))) 16 (nI (if a = 40 then 40 else a + 1)))
theorem q_keepPast (d : Nat) (σ : pm_H) {a e : Nat} (ha : a ≤ 40) (he : e < 40) (ha' : σ.1 0 16 = nI a) (he' : σ.1 0 15 = nI e) : xe (d + 1) 168 [.ref 0] σ = some (none, x_past σ a e) := by
  have hcp : ∀ t : Option pm_R, pm_cpk (nI 0) (nI 0) (nI 71) 71 71 t = t := fun t => if_pos (by decide)
  have hE : (σ.1 0 15).toNatClampNeg = e := by rw [he', nI_clamp (by omega)]
  rw [en_X11_keepPast, sg_X11_keepPast_0 (by rw [hE]; exact kd_past e he), hE, he', ck_n _ he (by omega), hcp]
  rw [nI_clamp (show 0 < 2 ^ 31 by omega), nI_clamp (show 71 < 2 ^ 31 by omega), wC_ne σ _ (show 0 ≠ 93 + e by omega), he', nI_add, pk_rem (by omega) (by omega) (by omega), sg_X11_keepPast_36]
  unfold x_past
  have h0 : 0 ≠ 93 + e := by omega
  simp (disch := omega) only [wI_wC, wC_at, wC_wC, up_ne, wC_ne _ _ h0, ha', nI_add]
  by_cases c : a = 40
  · subst c
    rw [if_neg (nI_nlt (by omega) (by omega)), if_pos rfl]
  · rw [if_neg c]
    by_cases c2 : a + 1 < 40
    · rw [if_pos (nI_lt c2 (by omega))]
    · rw [if_neg (nI_nlt (by omega) (by omega)), show a + 1 = 40 by omega]
theorem r_put_l (d : Nat) {a : Nat} (ha : a < 40) : ∀ (k i : Nat) (σ : pm_H), i + k = 251 → σ.1 133 33 = nI a → pm_run (xe d) pg_X12_remember (52, [.ref 133, .int (nI i)], [], σ) = some (none, pm_wI (pm_wC σ 146 (fun j => if 251 * a + i ≤ j ∧ j < 251 * a + 251 then σ.1 142 (j - 251 * a) else σ.1 146 j)) 133 33 (nI (a + 1)))
  | 0, i, σ, h, ha' => by
    rw [sg_X12_remember_52, if_neg (nI_nlt (by omega) (by omega)), ha', nI_add]
    have : (fun j => if 251 * a + i ≤ j ∧ j < 251 * a + 251 then σ.1 142 (j - 251 * a) else σ.1 146 j) = σ.1 146 := funext fun j => if_neg (by omega)
    rw [this, wC_self]
  | k + 1, i, σ, h, ha' => by
    rw [sg_X12_remember_52, if_pos (nI_lt (by omega) (by omega)), ha']
    simp (disch := omega) only [pk_mul, nI_add, ck_n, nI_clamp]
    rw [r_put_l d ha k (i + 1) _ (by omega) (by rw [wI_wC, wC_ne _ _ (by omega)]; exact ha')]
    simp only [wI_wC, wC_wC, wC_at, wC_ne σ _ (show 142 ≠ 146 by decide), wC_ne _ _ (show 133 ≠ 146 by decide)]
    have : (fun j => if 251 * a + (i + 1) ≤ j ∧ j < 251 * a + 251 then σ.1 142 (j - 251 * a) else upd (σ.1 146) (251 * a + i) (σ.1 142 i) j) = (fun j => if 251 * a + i ≤ j ∧ j < 251 * a + 251 then σ.1 142 (j - 251 * a) else σ.1 146 j) := funext fun j => by
      by_cases c : j = 251 * a + i
      · subst c
        rw [if_neg (by omega), if_pos (by omega), up_at, show 251 * a + i - 251 * a = i by omega]
      · rw [up_ne _ _ c]
        by_cases c2 : 251 * a + i ≤ j ∧ j < 251 * a + 251
        · rw [if_pos c2, if_pos (by omega)]
        · rw [if_neg c2, if_neg (by omega)]
    rw [this]
theorem r_sh_l (d : Nat) : ∀ (k i : Nat) (σ : pm_H), i + k = 9789 → pm_run (xe d) pg_X12_remember (11, [.ref 133, .int (nI i)], [], σ) = pm_run (xe d) pg_X12_remember (52, [.ref 133, .int (nI 0)], [], pm_wI (pm_wC σ 146 (fun j => if i ≤ j ∧ j < 9789 then σ.1 146 (j + 251) else σ.1 146 j)) 133 33 (σ.1 133 33 - nI 1))
  | 0, i, σ, h => by
    rw [sg_X12_remember_11, if_neg (nI_nlt (by omega) (by omega))]
    have : (fun j => if i ≤ j ∧ j < 9789 then σ.1 146 (j + 251) else σ.1 146 j) = σ.1 146 := funext fun j => if_neg (by omega)
    rw [this, wC_self]
  | k + 1, i, σ, h => by
    rw [sg_X12_remember_11, if_pos (nI_lt (by omega) (by omega))]
    simp (disch := omega) only [nI_add, ck_n, nI_clamp]
    rw [r_sh_l d k (i + 1) _ (by omega)]
    simp only [wI_wC, wC_wC, wC_at, wC_ne _ _ (show 133 ≠ 146 by decide)]
    have : (fun j => if i + 1 ≤ j ∧ j < 9789 then upd (σ.1 146) i (σ.1 146 (i + 251)) (j + 251) else upd (σ.1 146) i (σ.1 146 (i + 251)) j) = (fun j => if i ≤ j ∧ j < 9789 then σ.1 146 (j + 251) else σ.1 146 j) := funext fun j => by
      by_cases c : j = i
      · subst c
        rw [if_neg (by omega), if_pos (by omega), up_at]
      · by_cases c2 : i ≤ j ∧ j < 9789
        · rw [if_pos c2, if_pos (by omega), up_ne _ _ (by omega)]
        · rw [if_neg c2, if_neg (by omega), up_ne _ _ c]
    rw [this]
def m_past (σ : pm_H) (a : Nat) : pm_H := pm_wC (pm_wC σ 146 (if a = 40 then u_put (σ.1 142) (u_sh (σ.1 146)) 39 else u_put (σ.1 142) (σ.1 146) a)) 133 (upd (σ.1 133) 33 (nI (if a = 40 then 40 else a + 1)))
theorem up_up (f : Nat → Int32) (k : Nat) (u v : Int32) : upd (upd f k u) k v = upd f k v := by
  funext j
  by_cases c : j = k
  · subst c; rw [up_at, up_at]
  · rw [up_ne _ _ c, up_ne _ _ c, up_ne _ _ c]
theorem wC_cm (σ : pm_H) {a b : Nat} (f g : Nat → Int32) (h : a ≠ b) : pm_wC (pm_wC σ a f) b g = pm_wC (pm_wC σ b g) a f := by
  unfold pm_wC
  refine Prod.ext (funext fun q => ?_) rfl
  by_cases h1 : q = a
  · subst h1
    simp [h]
  · by_cases h2 : q = b
    · subst h2
      simp [h1]
    · simp [h1, h2]
theorem r_remember (d : Nat) (σ : pm_H) {a : Nat} (ha : a ≤ 40) (ha' : σ.1 133 33 = nI a) : xe (d + 1) 178 [.ref 133] σ = some (none, m_past σ a) := by
  rw [en_X12_remember, sg_X12_remember_0, ha']
  unfold m_past
  by_cases c : a = 40
  · subst c
    rw [if_pos rfl, r_sh_l d 9789 0 σ (by omega), ha', pk_sub (by omega), r_put_l d (a := 39) (by omega) 251 0 _ (by omega) (by rw [wI_wC, wC_at, up_at])]
    simp only [wI_wC, wC_at, wC_wC, wC_ne _ _ (show 133 ≠ 146 by decide), wC_ne _ _ (show 142 ≠ 133 by decide), wC_ne _ _ (show 142 ≠ 146 by decide), wC_ne _ _ (show 146 ≠ 133 by decide), up_up, if_true]
    rw [wC_cm _ _ _ (show 133 ≠ 146 by decide), wC_wC, wC_wC]
    simp only [Nat.zero_le, true_and, Nat.add_zero, Nat.reduceAdd]
    rfl
  · rw [if_neg (fun e => c ((nI_eq (by omega) (by omega)).mp e)), r_put_l d (a := a) (by omega) 251 0 σ (by omega) ha']
    simp only [wI_wC, wC_ne _ _ (show 133 ≠ 146 by decide), if_neg c]
    simp only [Nat.add_zero]
    rfl

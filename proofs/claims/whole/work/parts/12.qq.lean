/-! ===== class and reference together: the HALL, the MEET, what can be undone, the IMAGE, ERRS ===== -/
def R_h (sz : Nat) (T R : Nat → Nat) (σ : pm_H) : Prop :=
  σ.1 3 2 = nI sz ∧ σ.1 133 22 = nI sz ∧ sz ≤ 6 ∧ R 1 ≤ 3 ∧ (0 < sz → okT sz (σ.1 4) (σ.1 5) T R) ∧ (∀ l, l < sz → ∀ j, j < 10 → σ.1 138 (10 * l + j) = σ.1 4 (l * 10 + j)) ∧ ∀ j, j < 4 → σ.1 140 j = σ.1 5 j
def lgs (σ : pm_H) (b : Nat) : Nat → Nat → Int32 := fun q => σ.1 (b + q)
def R_s (k sz : Nat) (R : Nat → Nat) (n : Nat) (σ : pm_H) : Prop := relM k sz (σ.1 5) (R 1) (σ.1 24) (lgs σ 28) (σ.1 142) n ∧ σ.1 27 5 = nI n
def R_p (k sz : Nat) (R : Nat → Nat) (n a e : Nat) (σ : pm_H) : Prop :=
  (a ≤ 40 ∧ e < 40 ∧ σ.1 0 16 = nI a ∧ σ.1 0 15 = nI e ∧ σ.1 133 33 = nI a) ∧ relP k sz (σ.1 5) (R 1) n a e (lgs σ 93) (lgs σ 28) (σ.1 146)
def R_i (k sz : Nat) (R : Nat → Nat) (σ : pm_H) : Prop :=
  σ.1 133 47 = σ.1 0 17 ∧ (σ.1 0 17 = nI 0 ∨ σ.1 0 17 = nI 1 ∧ ∃ m, relM k sz (σ.1 5) (R 1) (σ.1 34) (lgs σ 36) (σ.1 156) m ∧ σ.1 35 5 = nI m)
def R_f (σ : pm_H) : Prop := σ.1 133 29 = σ.1 0 18 ∧ ∃ v, v ≤ 99 ∧ σ.1 0 18 = nI v
def RelB (k sz : Nat) (T R : Nat → Nat) (n a e : Nat) (σ : pm_H) : Prop := R_h sz T R σ ∧ R_s k sz R n σ ∧ R_p k sz R n a e σ ∧ R_i k sz R σ ∧ R_f σ
/-- cells of the MEET that a query leaves -/
def kpB (c : Nat) : Bool := decide (c = 0 ∨ 3 ≤ c ∧ c ≤ 5 ∨ c = 24 ∨ 27 ≤ c ∧ c ≤ 32 ∨ 34 ≤ c ∧ c ≤ 40 ∨ 93 ≤ c ∧ c < 133 ∨ c = 138 ∨ c = 140 ∨ c = 142 ∨ c = 146 ∨ c = 156)
/-- cells of the TAPE and of LAWS -/
def kpL (c : Nat) : Bool := decide (c = 2 ∨ c = 12 ∨ 14 ≤ c ∧ c ≤ 20 ∨ 134 ≤ c ∧ c ≤ 137)
def sameB (σ σ' : pm_H) : Prop := (∀ c, kpB c = true → σ'.1 c = σ.1 c) ∧ ∀ j, (j = 22 ∨ j = 29 ∨ j = 33 ∨ j = 47) → σ'.1 133 j = σ.1 133 j
def sameL (σ σ' : pm_H) : Prop := (∀ c, kpL c = true → σ'.1 c = σ.1 c) ∧ σ'.1 1 1 = σ.1 1 1 ∧ ∀ j, (j = 6 ∨ j = 7 ∨ j = 27 ∨ j = 28) → σ'.1 133 j = σ.1 133 j
/-- the memo of ODDS -/
def sameO (σ σ' : pm_H) : Prop := σ'.2 144 = σ.2 144 ∧ σ'.1 145 = σ.1 145
theorem sameB_rfl (σ : pm_H) : sameB σ σ := ⟨fun _ _ => rfl, fun _ _ => rfl⟩
theorem sameL_rfl (σ : pm_H) : sameL σ σ := ⟨fun _ _ => rfl, rfl, fun _ _ => rfl⟩
theorem sameO_rfl (σ : pm_H) : sameO σ σ := ⟨rfl, rfl⟩
theorem sameB_tr {σ σ1 σ2 : pm_H} (h : sameB σ σ1) (h' : sameB σ1 σ2) : sameB σ σ2 := ⟨fun c hc => (h'.1 c hc).trans (h.1 c hc), fun j hj => (h'.2 j hj).trans (h.2 j hj)⟩
theorem sameL_tr {σ σ1 σ2 : pm_H} (h : sameL σ σ1) (h' : sameL σ1 σ2) : sameL σ σ2 := ⟨fun c hc => (h'.1 c hc).trans (h.1 c hc), h'.2.1.trans h.2.1, fun j hj => (h'.2.2 j hj).trans (h.2.2 j hj)⟩
theorem sameO_tr {σ σ1 σ2 : pm_H} (h : sameO σ σ1) (h' : sameO σ1 σ2) : sameO σ σ2 := ⟨h'.1.trans h.1, h'.2.trans h.2⟩
theorem sameB_w (σ : pm_H) {c : Nat} (f : Nat → Int32) (h : kpB c = false) (h1 : c ≠ 133) : sameB σ (pm_wC σ c f) := ⟨fun q hq => wC_ne σ f (fun e => by subst e; rw [h] at hq; cases hq), fun j _ => by rw [wC_ne σ f (Ne.symm h1)]⟩
theorem sameL_w (σ : pm_H) {c : Nat} (f : Nat → Int32) (h : kpL c = false) (h1 : c ≠ 133) (h2 : c ≠ 1) : sameL σ (pm_wC σ c f) := ⟨fun q hq => wC_ne σ f (fun e => by subst e; rw [h] at hq; cases hq), by rw [wC_ne σ f (Ne.symm h2)], fun j _ => by rw [wC_ne σ f (Ne.symm h1)]⟩
theorem sameO_w (σ : pm_H) {c : Nat} (f : Nat → Int32) (h : c ≠ 145) : sameO σ (pm_wC σ c f) := ⟨rfl, wC_ne σ f (Ne.symm h)⟩
theorem sameB_m (σ : pm_H) {k : Nat} (v : Int32) (h : k ≠ 22 ∧ k ≠ 29 ∧ k ≠ 33 ∧ k ≠ 47) : sameB σ (pm_wI σ 133 k v) := by
  refine ⟨fun q hq => ?_, fun j hj => ?_⟩
  · rw [wI_wC, wC_ne σ _ (fun e => by subst e; revert hq; decide)]
  · rw [wI_wC, wC_at, up_ne _ _ (by omega)]
theorem sameL_m (σ : pm_H) {k : Nat} (v : Int32) (h : k ≠ 6 ∧ k ≠ 7 ∧ k ≠ 27 ∧ k ≠ 28) : sameL σ (pm_wI σ 133 k v) := by
  refine ⟨fun q hq => ?_, ?_, fun j hj => ?_⟩
  · rw [wI_wC, wC_ne σ _ (fun e => by subst e; revert hq; decide)]
  · rw [wI_wC, wC_ne σ _ (by decide)]
  · rw [wI_wC, wC_at, up_ne _ _ (by omega)]
theorem sameO_m (σ : pm_H) (k : Nat) (v : Int32) : sameO σ (pm_wI σ 133 k v) := ⟨rfl, by rw [wI_wC, wC_ne σ _ (by decide)]⟩
/-- thrown is put to 0 -/
def th0 (σ : pm_H) : pm_H := pm_wI σ 133 0 (nI 0)
theorem th0_B (σ : pm_H) : sameB σ (th0 σ) := sameB_m σ _ (by decide)
theorem th0_L (σ : pm_H) : sameL σ (th0 σ) := sameL_m σ _ (by decide)
theorem th0_O (σ : pm_H) : sameO σ (th0 σ) := sameO_m σ _ _
theorem lgs_eq {σ σ' : pm_H} {b : Nat} (h : sameB σ σ') (hb : ∀ q, q < 5 → kpB (b + q) = true) : ∀ q i, q < 5 → lgs σ' b q i = lgs σ b q i := fun q i hq => by
  unfold lgs
  rw [h.1 (b + q) (hb q hq)]
theorem RelB_same {k sz n a e : Nat} {T R : Nat → Nat} {σ σ' : pm_H} (h : RelB k sz T R n a e σ) (s : sameB σ σ') : RelB k sz T R n a e σ' := by
  obtain ⟨⟨h1, h2, h3, h4, h5, h6, h7⟩, ⟨h8, h9⟩, ⟨⟨h10, h11, h12, h13, h14⟩, h15⟩, ⟨h16, h17⟩, h18, h19⟩ := h
  have l28 := lgs_eq (b := 28) s (by decide)
  have l36 := lgs_eq (b := 36) s (by decide)
  have e5 := s.1 5 (by decide)
  have e0 := s.1 0 (by decide)
  refine ⟨⟨?_, ?_, h3, h4, ?_, ?_, ?_⟩, ⟨?_, ?_⟩, ⟨⟨h10, h11, ?_, ?_, ?_⟩, ?_⟩, ⟨?_, ?_⟩, ?_, ?_⟩
  · rw [s.1 3 (by decide)]; exact h1
  · rw [s.2 22 (by decide)]; exact h2
  · rw [s.1 4 (by decide), e5]; exact h5
  · rw [s.1 4 (by decide), s.1 138 (by decide)]; exact h6
  · rw [e5, s.1 140 (by decide)]; exact h7
  · rw [s.1 24 (by decide), s.1 142 (by decide), e5]
    exact relM_ext h3 (fun _ _ => rfl) (fun _ _ => rfl) (fun q i hq _ => l28 q i hq) h8
  · rw [s.1 27 (by decide)]; exact h9
  · rw [e0]; exact h12
  · rw [e0]; exact h13
  · rw [s.2 33 (by decide)]; exact h14
  · rw [e5, s.1 146 (by decide)]
    refine relP_ext h3 h15 (fun i hi j _ => ?_) (fun q i hq _ => l28 q i hq)
    unfold lgs
    rw [s.1 _ (by unfold kpB; simp only [decide_eq_true_eq]; omega)]
  · rw [s.2 47 (by decide), e0]; exact h16
  · rw [e0, s.1 34 (by decide), s.1 35 (by decide), s.1 156 (by decide), e5]
    rcases h17 with h | ⟨h, m, hm, hm2⟩
    · exact Or.inl h
    · exact Or.inr ⟨h, m, relM_ext h3 (fun _ _ => rfl) (fun _ _ => rfl) (fun q i hq _ => l36 q i hq) hm, hm2⟩
  · rw [s.2 29 (by decide), e0]; exact h18
  · rw [e0]; exact h19
theorem RelB_mono {k k' sz n a e : Nat} {T R : Nat → Nat} {σ : pm_H} (h : RelB k sz T R n a e σ) (hk : k ≤ k') : RelB k' sz T R n a e σ := by
  obtain ⟨h1, ⟨h8, h9⟩, ⟨h10, h15⟩, ⟨h16, h17⟩, h18⟩ := h
  refine ⟨h1, ⟨relM_mono h8 hk, h9⟩, ⟨h10, relP_mono h15 hk (Nat.le_refl _)⟩, ⟨h16, ?_⟩, h18⟩
  rcases h17 with h | ⟨h, m, hm, hm2⟩
  · exact Or.inl h
  · exact Or.inr ⟨h, m, relM_mono hm hk, hm2⟩
/-- an act: what stood is kept, a new state stands -/
theorem RelB_act {k k' sz n n' a e : Nat} {T R : Nat → Nat} {σ σ' : pm_H} (h : RelB k sz T R n a e σ) (hk : k ≤ k') (hn : n ≤ n')
    (E0 : σ'.1 0 = upd (upd (σ.1 0) 15 (nI ((e + 1) % 40))) 16 (nI (if a = 40 then 40 else a + 1)))
    (E133 : (∀ j, (j = 22 ∨ j = 29 ∨ j = 47) → σ'.1 133 j = σ.1 133 j) ∧ σ'.1 133 33 = nI (if a = 40 then 40 else a + 1))
    (Ec : ∀ c, (3 ≤ c ∧ c ≤ 5 ∨ 34 ≤ c ∧ c ≤ 40 ∨ c = 138 ∨ c = 140 ∨ c = 156) → σ'.1 c = σ.1 c)
    (Ep : ∀ i, i < 40 → i ≠ e → σ'.1 (93 + i) = σ.1 (93 + i)) (Ee : ∀ j, j < 71 → σ'.1 (93 + e) j = σ.1 24 j)
    (E146 : σ'.1 146 = if a = 40 then u_put (σ.1 142) (u_sh (σ.1 146)) 39 else u_put (σ.1 142) (σ.1 146) a)
    (hM : relM k' sz (σ.1 5) (R 1) (σ'.1 24) (lgs σ' 28) (σ'.1 142) n') (hl : ∀ q i, q < 5 → i < n → lgs σ' 28 q i = lgs σ 28 q i) (h27 : σ'.1 27 5 = nI n') :
    RelB k' sz T R n' (if a = 40 then 40 else a + 1) ((e + 1) % 40) σ' := by
  have h' := RelB_mono h hk
  obtain ⟨⟨h1, h2, h3, h4, h5, h6, h7⟩, ⟨h8, h9⟩, ⟨⟨h10, h11, h12, h13, h14⟩, h15⟩, ⟨h16, h17⟩, h18, h19⟩ := h'
  have e5 := Ec 5 (by decide)
  refine ⟨⟨?_, ?_, h3, h4, ?_, ?_, ?_⟩, ⟨?_, h27⟩, ⟨⟨?_, Nat.mod_lt _ (by omega), ?_, ?_, E133.2⟩, ?_⟩, ⟨?_, ?_⟩, ?_, ?_⟩
  · rw [Ec 3 (by decide)]; exact h1
  · rw [E133.1 22 (by decide)]; exact h2
  · rw [Ec 4 (by decide), e5]; exact h5
  · rw [Ec 4 (by decide), Ec 138 (by decide)]; exact h6
  · rw [e5, Ec 140 (by decide)]; exact h7
  · rw [e5]; exact hM
  · split <;> omega
  · rw [E0, up_at]
  · rw [E0, up_ne _ _ (by decide), up_at]
  · rw [e5, E146]
    refine relP_mono (relP_lg h3 (relP_push (P' := lgs σ' 93) h3 h4 h10 h11 h15 h8 (fun i h1 h2 => ?_) (fun j hj => ?_)) hl) (Nat.le_refl _) hn
    · exact Ep i h1 h2
    · exact Ee j hj
  · rw [E133.1 47 (by decide), E0, up_ne _ _ (by decide), up_ne _ _ (by decide)]; exact h16
  · rw [E0, up_ne _ _ (by decide), up_ne _ _ (by decide), Ec 34 (by decide), Ec 35 (by decide), Ec 156 (by decide), e5]
    rcases h17 with h | ⟨h, m, hm, hm2⟩
    · exact Or.inl h
    · refine Or.inr ⟨h, m, relM_ext h3 (fun _ _ => rfl) (fun _ _ => rfl) (fun q i hq _ => ?_) hm, hm2⟩
      unfold lgs
      rw [Ec (36 + q) (by omega)]
  · rw [E133.1 29 (by decide), E0, up_ne _ _ (by decide), up_ne _ _ (by decide)]; exact h18
  · rw [E0, up_ne _ _ (by decide), up_ne _ _ (by decide)]; exact h19

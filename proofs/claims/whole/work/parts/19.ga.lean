/-! ===== rests: who is in, and what they can ask for ===== -/
def pls (p : Nat → Bool) : Nat → Nat → List Nat
  | _, 0 => []
  | i, m + 1 => if p i = true then i :: pls p (i + 1) m else pls p (i + 1) m
theorem pls_in (p : Nat → Bool) : ∀ (m i x : Nat), x ∈ pls p i m → i ≤ x ∧ x < i + m ∧ p x = true
  | 0, i, x, h => by cases h
  | m + 1, i, x, h => by
    unfold pls at h
    by_cases c : p i = true
    · rw [if_pos c] at h
      rcases List.mem_cons.mp h with rfl | h
      · exact ⟨Nat.le_refl _, by omega, c⟩
      · obtain ⟨a, b, e⟩ := pls_in p m (i + 1) x h
        exact ⟨by omega, by omega, e⟩
    · rw [if_neg c] at h
      obtain ⟨a, b, e⟩ := pls_in p m (i + 1) x h
      exact ⟨by omega, by omega, e⟩
theorem getD_mem {α : Type} (z : α) : ∀ (L : List α) (j : Nat), j < L.length → L.getD j z ∈ L
  | [], j, h => absurd h (Nat.not_lt_zero j)
  | x :: L, 0, h => List.mem_cons_self
  | x :: L, j + 1, h => List.mem_cons_of_mem _ (getD_mem z L j (by rw [List.length_cons] at h; omega))
theorem getD_snoc {α : Type} (z x : α) (L : List α) : (L ++ [x]).getD L.length z = x := by
  have := getD_app2 z L [x] 0
  rw [Nat.add_zero] at this
  exact this
/-- one try is left to all that are in, and it is so many -/
def gokA (R1 : Nat) (F : Nat → Nat) (p : Nat → Bool) (i m : Nat) : Prop := ∀ l, i ≤ l → l < i + m → p l = true → R1 = F (11 + l) + 1
def Gt (f : Nat → Int32) (L : List Nat) (σ : pm_H) : Prop := σ.1 72 4 = nI L.length ∧ ∀ j, j < L.length → σ.1 73 j = nI (L.getD j 0) ∧ σ.1 74 j = s_least f (L.getD j 0)
theorem q_ga_l (d : Nat) {k sz n a e : Nat} {T R F : Nat → Nat} {σ : pm_H} (h : RelB k sz T R n a e σ) (hsz : 0 < sz) (f1 : rp (σ.1 24) F) (f2 : okN k sz (R 1) F) : ∀ (m i : Nat) (L : List Nat) (σ' : pm_H), i + m = sz → sameX σ σ' → Gt (σ.1 24) L σ' → L.length ≤ 3 → ∃ σ2 b, pm_run (xe (d + 2)) pg_X3_gather (27, [.ref 72, .ref 23, .int (nI i)], [], σ') = some (some (.int b), σ2) ∧ sameX σ σ2 ∧ ((b = nI 1 ∧ gokA (R 1) F (s_in (σ.1 5) (σ.1 24)) i m ∧ 0 < (L ++ pls (s_in (σ.1 5) (σ.1 24)) i m).length ∧ (L ++ pls (s_in (σ.1 5) (σ.1 24)) i m).length ≤ 3 ∧ Gt (σ.1 24) (L ++ pls (s_in (σ.1 5) (σ.1 24)) i m) σ2) ∨ (b = nI 0 ∧ ¬ (gokA (R 1) F (s_in (σ.1 5) (σ.1 24)) i m ∧ 0 < (L ++ pls (s_in (σ.1 5) (σ.1 24)) i m).length ∧ (L ++ pls (s_in (σ.1 5) (σ.1 24)) i m).length ≤ 3)))
  | 0, i, L, σ', ei, s, g, hL => by
    have h3 := h.1.2.2.1
    rw [sg_X3_gather_27, s.1.1 3 rfl, h.1.1, if_neg (nI_nlt (by omega) (by omega)), g.1]
    unfold pls
    rw [List.append_nil]
    by_cases c : 0 < L.length
    · exact ⟨σ', nI 1, by rw [if_pos (nI_gt0 c (by omega))], s, Or.inl ⟨rfl, fun l h1 h2 _ => absurd h2 (by omega), c, hL, g⟩⟩
    · refine ⟨σ', nI 0, ?_, s, Or.inr ⟨rfl, fun e => c e.2.1⟩⟩
      rw [show L.length = 0 by omega, if_neg (by decide)]
  | m + 1, i, L, σ', ei, s, g, hL => by
    have hh := h
    obtain ⟨⟨h1, h2, h3, h4, h5, h6, h7⟩, ⟨h8, h9⟩, -⟩ := hh
    have hT := h5 hsz
    have hi6 : i < 6 := by omega
    have e5 := s.1.1 5 rfl
    have e24 := s.1.1 24 rfl
    rw [sg_X3_gather_27, s.1.1 3 rfl, h1, if_pos (nI_lt (by omega) (by omega)), q_isIn d σ' st_23 hi6, e5, show σ'.1 (23 + 1) = σ.1 24 from e24]
    simp only [pm_cl_some, Option.toList_some, Option.toList_none, List.cons_append, List.nil_append]
    rw [sg_X3_gather_43, nI_add]
    cases hin : s_in (σ.1 5) (σ.1 24) i with
    | false =>
      rw [if_pos bf0]
      obtain ⟨σ2, b, i1, i2, i3⟩ := q_ga_l d h hsz f1 f2 m (i + 1) L σ' (by omega) s g hL
      refine ⟨σ2, b, i1, i2, ?_⟩
      have hg : gokA (R 1) F (s_in (σ.1 5) (σ.1 24)) i (m + 1) ↔ gokA (R 1) F (s_in (σ.1 5) (σ.1 24)) (i + 1) m := by
        constructor
        · intro q l l1 l2 l3
          exact q l (by omega) (by omega) l3
        · intro q l l1 l2 l3
          by_cases el : l = i
          · subst el
            rw [hin] at l3
            cases l3
          · exact q l (by omega) (by omega) l3
      rw [show pls (s_in (σ.1 5) (σ.1 24)) i (m + 1) = pls (s_in (σ.1 5) (σ.1 24)) (i + 1) m by show (if _ then _ else _) = _; rw [if_neg (by rw [hin]; decide)]]
      simp only [hg]
      exact i3
    | true =>
      have hok := (f2.2.2.2.2 i (by omega))
      unfold okL at hok
      rw [if_neg bt0, g.1]
      have hpl : pls (s_in (σ.1 5) (σ.1 24)) i (m + 1) = i :: pls (s_in (σ.1 5) (σ.1 24)) (i + 1) m := by
        show (if _ then _ else _) = _
        rw [if_pos hin]
      rw [hpl]
      by_cases c3 : L.length < 3
      · rw [if_pos (nI_lt c3 (by omega)), q_triesLeft d σ' st_23 hi6, e5, show σ'.1 (23 + 1) = σ.1 24 from e24, hT.2.1 1 (by omega), f1 (11 + i) (by omega) (by omega), pk_sub (by omega)]
        simp only [pm_cl_some, Option.toList_some, Option.toList_none, List.cons_append, List.nil_append]
        rw [sg_X3_gather_59, g.1]
        by_cases c1 : R 1 - F (11 + i) = 1
        · rw [if_pos (by rw [c1]), ck_n _ (by omega) (by omega), nI_clamp (by omega), wI_wC, q_least (d + 1) _ st_23 hi6]
          simp only [pm_cl_some, Option.toList_some, Option.toList_none, List.cons_append, List.nil_append]
          rw [sg_X3_gather_88, wC_ne _ _ (show (72 : Nat) ≠ 73 by decide), g.1, ck_n _ (by omega) (by omega), nI_clamp (by omega), wI_wC, wI_wC, wC_ne _ _ (show 23 + 1 ≠ 73 by decide), show σ'.1 (23 + 1) = σ.1 24 from e24, wC_ne _ _ (show (74 : Nat) ≠ 73 by decide), wC_ne _ _ (show (72 : Nat) ≠ 74 by decide), wC_ne _ _ (show (72 : Nat) ≠ 73 by decide), g.1, nI_add, sg_X3_gather_99, nI_add]
          obtain ⟨σ2, b, i1, i2, i3⟩ := q_ga_l d h hsz f1 f2 m (i + 1) (L ++ [i]) (pm_wC (pm_wC (pm_wC σ' 73 (upd (σ'.1 73) L.length (nI i))) 74 (upd (σ'.1 74) L.length (s_least (σ.1 24) i))) 72 (upd (σ'.1 72) 4 (nI (L.length + 1)))) (by omega) (sameX_w (sameX_w (sameX_w s _ ⟨rfl, rfl⟩ (by decide)) _ ⟨rfl, rfl⟩ (by decide)) _ ⟨rfl, rfl⟩ (by decide)) (by
            refine ⟨by rw [wC_at, up_at, List.length_append]; rfl, fun j hj => ?_⟩
            rw [wC_ne _ _ (by decide), wC_ne _ _ (by decide), wC_at, wC_ne _ _ (by decide), wC_at]
            rw [List.length_append] at hj
            have hj' : j < L.length + 1 := hj
            by_cases ej : j = L.length
            · subst ej
              rw [up_at, up_at, getD_snoc]
              exact ⟨rfl, rfl⟩
            · rw [up_ne _ _ ej, up_ne _ _ ej, getD_app _ _ _ _ (by omega)]
              exact g.2 j (by omega)) (by rw [List.length_append]; show L.length + 1 ≤ 3; omega)
          refine ⟨σ2, b, i1, i2, ?_⟩
          have hg : gokA (R 1) F (s_in (σ.1 5) (σ.1 24)) i (m + 1) ↔ gokA (R 1) F (s_in (σ.1 5) (σ.1 24)) (i + 1) m := by
            constructor
            · intro q l l1 l2 l3
              exact q l (by omega) (by omega) l3
            · intro q l l1 l2 l3
              by_cases el : l = i
              · subst el
                omega
              · exact q l (by omega) (by omega) l3
          rw [List.append_assoc] at i3
          simp only [hg]
          exact i3
        · refine ⟨σ', nI 0, by rw [if_neg (fun e => c1 ((nI_eq (by omega) (by omega)).mp e))], s, Or.inr ⟨rfl, fun q => ?_⟩⟩
          have := q.1 i (Nat.le_refl _) (by omega) hin
          omega
      · refine ⟨σ', nI 0, by rw [if_neg (nI_nlt (by omega) (by omega))], s, Or.inr ⟨rfl, fun q => ?_⟩⟩
        have := q.2.2
        rw [List.length_append, List.length_cons] at this
        omega
/-- digits of a row -/
def dig (np row k : Nat) : Nat := row / 4 ^ (np - 1 - k) % 4
def sft (np k : Nat) : Int32 := nI 2 * ((nI np - nI 1) - nI k)
theorem dig_d : ∀ np, np < 4 → ∀ k, k < np → ∀ row, row < 64 → (nI row >>> (sft np k &&& 31)) &&& nI 3 = nI (dig np row k) := by decide +kernel
theorem dig_4 (np row k : Nat) : dig np row k < 4 := Nat.mod_lt _ (by omega)
theorem fou_d : ∀ np, np < 4 → nI 1 <<< ((nI 2 * nI np) &&& 31) = nI (4 ^ np) := by decide
def chg (np row k v : Nat) : Nat := row - dig np row k * 4 ^ (np - 1 - k) + v * 4 ^ (np - 1 - k)
theorem chg_q : ∀ np, np < 4 → ∀ k, k < np → ∀ row, row < 4 ^ np → ∀ v, v < 4 → (nI row &&& ((nI 3 <<< (sft np k &&& 31)) ^^^ (-1))) ||| (nI v <<< (sft np k &&& 31)) = nI (chg np row k v) := by decide +kernel
theorem chg_r : ∀ np, np < 4 → ∀ k, k < np → ∀ row, row < 4 ^ np → ∀ v, v < 4 → nI row + ((nI v - nI (dig np row k)) * (nI 1 <<< (sft np k &&& 31))) = nI (chg np row k v) := by decide +kernel
theorem chg_lt : ∀ np, np < 4 → ∀ k, k < np → ∀ row, row < 4 ^ np → ∀ v, v < 4 → chg np row k v < 4 ^ np := by decide +kernel
theorem p4_64 : ∀ np, np < 4 → 4 ^ np ≤ 64 := by decide
/-- what each asks for in a row -/
def aw (np row : Nat) (lo : Nat → Nat) (k : Nat) : Nat := min 99 (lo k + dig np row k)
theorem aw_d {np row k : Nat} {lo : Nat → Nat} (hl : lo k ≤ 99) : (if nI (lo k) + nI (dig np row k) < nI 99 then nI (lo k) + nI (dig np row k) else nI 99) = nI (aw np row lo k) := by
  have := dig_4 np row k
  unfold aw
  rw [nI_add]
  by_cases c : lo k + dig np row k < 99
  · rw [if_pos (nI_lt c (by omega)), show min 99 (lo k + dig np row k) = lo k + dig np row k by omega]
  · rw [if_neg (nI_nlt (by omega) (by omega)), show min 99 (lo k + dig np row k) = 99 by omega]
def asF (np row : Nat) (lo : Nat → Nat) (L : List Nat) : Nat → Nat → (Nat → Int32) → (Nat → Int32)
  | 0, _, f => f
  | m + 1, k, f => asF np row lo L m (k + 1) (upd f (5 + L.getD k 0) (nI (aw np row lo k)))
def asW (np row : Nat) (lo : Nat → Nat) (L : List Nat) : Nat → Nat → (Nat → Int32) → (Nat → Int32)
  | 0, _, f => f
  | m + 1, k, f => asW np row lo L m (k + 1) (upd f (11 * L.getD k 0 + 0) (nI (aw np row lo k)))
theorem asF_E (np row : Nat) (lo : Nat → Nat) (L : List Nat) : ∀ (m k : Nat) (f g : Nat → Int32), E71 f g → E71 (asF np row lo L m k f) (asF np row lo L m k g)
  | 0, k, f, g, e => e
  | m + 1, k, f, g, e => asF_E np row lo L m (k + 1) _ _ (E_up e _ rfl)
theorem as_M {k sz n np row R1 : Nat} {lo : Nat → Nat} {L : List Nat} {r : Nat → Int32} {lg : Nat → Nat → Int32} (hs : sz ≤ 6) (hL : ∀ j, j < L.length → L.getD j 0 < sz ∧ 1 ≤ lo j ∧ lo j ≤ 99) : ∀ (m i : Nat) (f w : Nat → Int32), i + m = L.length → relM k sz r R1 f lg w n → relM k sz r R1 (asF np row lo L m i f) lg (asW np row lo L m i w) n
  | 0, i, f, w, e, h => h
  | m + 1, i, f, w, e, h => by
    obtain ⟨a1, a2, a3⟩ := hL i (by omega)
    exact as_M hs hL m (i + 1) _ _ (by omega) (relM_ask hs h a1 (by unfold aw; omega) (by unfold aw; omega))
theorem lft_as {R1 sz np row : Nat} {lo : Nat → Nat} {L : List Nat} {r : Nat → Int32} (hs : sz ≤ 6) (hL : ∀ j, j < L.length → L.getD j 0 < sz) : ∀ (m i : Nat) (f : Nat → Int32), i + m = L.length → lft R1 sz r (asF np row lo L m i f) = lft R1 sz r f
  | 0, i, f, e => rfl
  | m + 1, i, f, e => by
    have := hL i (by omega)
    exact (lft_as hs hL m (i + 1) _ (by omega)).trans (lft_ask hs (by omega))
theorem lft_g {k sz : Nat} {r f : Nat → Int32} {R F : Nat → Nat} (hs : sz ≤ 6) (hR : R 1 ≤ 3) (h : rp f F) (ho : okN k sz (R 1) F) (h0 : f 0 = nI 1) (hg : gokA (R 1) F (s_in r f) 0 sz) : lft (R 1) sz r f ≤ 6 := by
  have : lft (R 1) sz r f ≤ sz * 1 := by
    unfold lft
    refine sumN_le sz (fun l hl => ?_)
    have hok := ho.2.2.2.2 l hl
    unfold okL at hok
    unfold lfX
    rw [if_neg (show ¬ (f 0 = 0 ∧ _) from fun e => absurd (h0.symm.trans e.1) (by decide))]
    by_cases c : s_in r f l = true
    · have := hg l (Nat.zero_le _) (by omega) c
      rw [if_pos c, h (11 + l) (by omega) (by omega), nI_clamp (by omega)]
      omega
    · rw [if_neg c]
      omega
  omega

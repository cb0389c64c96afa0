/-! ===== ODDS, class and reference ===== -/
def isI (I : Nat) : Int32 := Int32.ofInt ((I : Int) - 500000)
theorem isI_toInt {I : Nat} (h : I < 1000000) : (isI I).toInt = (I : Int) - 500000 := Int32.toInt_ofInt_of_le (by omega) (by omega)
def LofN (W I D T C B : Nat) : LV := fun i => if i = 0 then nI W else if i = 1 then isI I else if i = 2 then nI D else if i = 3 then nI T else if i = 4 then nI C else if i = 5 then nI 0 else if i = 6 then nI 0 else nI B
def rgN (W I D T C B : Nat) : Prop := W ≤ 99 ∧ I < 1000000 ∧ D ≤ 9 ∧ T ≤ 3 ∧ C < 10000 ∧ B ≤ 99
theorem bd_nI {a : Nat} (h : a ≤ 1000000) : bd (nI a) := by
  unfold bd
  rw [nI_toInt (by omega)]
  omega
theorem bd_L {W I D T C B : Nat} (h : rgN W I D T C B) : bdL (LofN W I D T C B) := by
  obtain ⟨h1, h2, h3, h4, h5, h6⟩ := h
  intro i _
  unfold LofN
  by_cases c0 : i = 0
  · rw [if_pos c0]; exact bd_nI (by omega)
  rw [if_neg c0]
  by_cases c1 : i = 1
  · rw [if_pos c1]
    unfold bd
    rw [isI_toInt h2]
    omega
  rw [if_neg c1]
  by_cases c2 : i = 2
  · rw [if_pos c2]; exact bd_nI (by omega)
  rw [if_neg c2]
  by_cases c3 : i = 3
  · rw [if_pos c3]; exact bd_nI (by omega)
  rw [if_neg c3]
  by_cases c4 : i = 4
  · rw [if_pos c4]; exact bd_nI (by omega)
  rw [if_neg c4]
  by_cases c5 : i = 5
  · rw [if_pos c5]; exact bd_nI (by omega)
  rw [if_neg c5]
  by_cases c6 : i = 6
  · rw [if_pos c6]; exact bd_nI (by omega)
  rw [if_neg c6]
  exact bd_nI (by omega)
/-- held between 0 and 100 -/
def clm (x : Int32) : Int32 := if x < 0 then nI 0 else if nI 100 < x then nI 100 else x
theorem clm_m (x : Int32) : (if nI 0 < (if x < nI 100 then x else nI 100) then (if x < nI 100 then x else nI 100) else nI 0) = clm x := by
  unfold clm
  have e100 : (nI 100).toInt = 100 := by decide
  have e0 : (nI 0).toInt = 0 := by decide
  have e00 : (0 : Int32).toInt = 0 := by decide
  by_cases c1 : x < nI 100
  · rw [if_pos c1]
    rw [Int32.lt_iff_toInt_lt, e100] at c1
    have n2 : ¬ nI 100 < x := by rw [Int32.lt_iff_toInt_lt, e100]; omega
    rw [if_neg n2]
    by_cases c2 : x < 0
    · rw [if_pos c2, if_neg]
      rw [Int32.lt_iff_toInt_lt, e00] at c2
      rw [Int32.lt_iff_toInt_lt, e0]
      omega
    · rw [if_neg c2]
      rw [Int32.lt_iff_toInt_lt, e00] at c2
      by_cases c3 : nI 0 < x
      · rw [if_pos c3]
      · rw [if_neg c3]
        rw [Int32.lt_iff_toInt_lt, e0] at c3
        exact Int32.toInt_inj.mp (by rw [e0]; omega)
  · rw [if_neg c1, if_pos (by decide)]
    rw [Int32.lt_iff_toInt_lt, e100] at c1
    rw [if_neg (by rw [Int32.lt_iff_toInt_lt, e00]; omega)]
    by_cases c4 : nI 100 < x
    · rw [if_pos c4]
    · rw [if_neg c4]
      rw [Int32.lt_iff_toInt_lt, e100] at c4
      exact Int32.toInt_inj.mp (by rw [e100]; omega)
def oddv (V : Nat → LV → Int32) (o : Int32) (W I D T C B : Nat) : Int32 := clm (if o = -1 then nI 50 + nI D * (isI I - nI W) else V o.toNatClampNeg (LofN W I D T C B))
def lawok (nl : Nat) (x : Int32) : Prop := x = -1 ∨ ∃ j, j < nl ∧ x = nI j
/-- the class's LAWS -/
def CLw (nl : Nat) (V : Nat → LV → Int32) (σ : pm_H) : Prop := nl ≤ 6 ∧ σ.1 12 5 = nI nl ∧ ∀ j, j < nl → ∃ c : List Int32, σ.1 20 j = nI c.length ∧ c.length ≤ 240 ∧ cod (σ.1 (14 + j)) 0 c ∧ ∀ L, bdL L → wrun L c false [] = some (V j L) ∧ bd (V j L)
/-- the reference's LAWS -/
def MLw (nl : Nat) (V : Nat → LV → Int32) (σ : pm_H) : Prop := nl ≤ 6 ∧ σ.1 133 7 = nI nl ∧ ∀ j, j < nl → ∃ (b : Nat → Nat) (n : Nat) (c : List Int32) (v : LV → Option Int32) (q : Nat), okb b n ∧ pLaw b n = .inr (c, v, q) ∧ V j = wv v ∧ σ.1 136 j = nI n ∧ ∀ i, i < n → σ.1 135 (240 * j + i) = byt (b i)
def kyN (W I D T C B j : Nat) : Nat := 6 * (100 * (10000 * (4 * (10 * (1000000 * W + I) + D) + T) + C) + B) + j + 1
/-- the memo -/
def MOw (nl : Nat) (V : Nat → LV → Int32) (σ : pm_H) : Prop := ∀ p, p < 8191 → σ.2 144 p = 0 ∨ ∃ W I D T C B j, rgN W I D T C B ∧ j < nl ∧ σ.2 144 p = lN (kyN W I D T C B j) ∧ σ.1 145 p = V j (LofN W I D T C B)
theorem ky_inj {W I D T C B j W' I' D' T' C' B' j' : Nat} (h : rgN W I D T C B) (h' : rgN W' I' D' T' C' B') (hj : j < 6) (hj' : j' < 6) (e : kyN W I D T C B j = kyN W' I' D' T' C' B' j') : W = W' ∧ I = I' ∧ D = D' ∧ T = T' ∧ C = C' ∧ B = B' ∧ j = j' := by
  unfold kyN at e
  unfold rgN at h h'
  have e1 : 100 * (10000 * (4 * (10 * (1000000 * W + I) + D) + T) + C) + B = 100 * (10000 * (4 * (10 * (1000000 * W' + I') + D') + T') + C') + B' ∧ j = j' := by
    generalize 100 * (10000 * (4 * (10 * (1000000 * W + I) + D) + T) + C) + B = x at e ⊢
    generalize 100 * (10000 * (4 * (10 * (1000000 * W' + I') + D') + T') + C') + B' = y at e ⊢
    omega
  have e2 : 10000 * (4 * (10 * (1000000 * W + I) + D) + T) + C = 10000 * (4 * (10 * (1000000 * W' + I') + D') + T') + C' ∧ B = B' := by
    have e1 := e1.1
    generalize 10000 * (4 * (10 * (1000000 * W + I) + D) + T) + C = x at e1 ⊢
    generalize 10000 * (4 * (10 * (1000000 * W' + I') + D') + T') + C' = y at e1 ⊢
    omega
  have e3 : 4 * (10 * (1000000 * W + I) + D) + T = 4 * (10 * (1000000 * W' + I') + D') + T' ∧ C = C' := by
    have e1 := e2.1
    generalize 4 * (10 * (1000000 * W + I) + D) + T = x at e1 ⊢
    generalize 4 * (10 * (1000000 * W' + I') + D') + T' = y at e1 ⊢
    omega
  have e4 : 1000000 * W + I = 1000000 * W' + I' ∧ D = D' ∧ T = T' := by
    have e1 := e3.1
    generalize 1000000 * W + I = x at e1 ⊢
    generalize 1000000 * W' + I' = y at e1 ⊢
    omega
  omega
theorem ky_lt {W I D T C B j : Nat} (h : rgN W I D T C B) (hj : j < 6) : kyN W I D T C B j < 2 ^ 62 := by
  unfold kyN
  unfold rgN at h
  omega
theorem mo_c {u q : Nat} (hu : mo_ok u) {t n b : Nat} (h : pm_kd q = .inl (t, n, b)) : u ≠ q := fun e => mo_ne hu (q := q) (by rw [h]; exact fun h => by cases h) e.symm
theorem q_chance (d : Nat) {nl u l W I D T C B : Nat} {V : Nat → LV → Int32} {σ : pm_H} (hC : CLw nl V σ) (ho : lawok nl (σ.1 12 6)) (hu : mo_ok u) (hl : l < 6) (h1 : σ.1 u 1 = nI l) (hS : nowX (σ.1 4 (l * 10 + 4)) (σ.1 4 (l * 10 + 5)) (σ.1 u 2) (σ.1 u 3) (σ.1 u 4) (σ.1 u 6) = isI I) (h5 : σ.1 u 5 = nI T) (h6 : σ.1 u 6 = nI C) (hD : σ.1 4 (l * 10 + 3) = nI D) (hB : σ.1 4 (l * 10 + 2) = nI B) (hr : rgN W I D T C B) : ∃ g21 g22, xe (d + 4) 155 [.ref 12, .ref u, .int (nI W)] σ = some (some (.int (oddv V (σ.1 12 6) W I D T C B)), pm_wC (pm_wC σ 21 g21) 22 g22) := by
  have n21 : u ≠ 21 := mo_c hu kd_21
  rw [en_X5_chance, sg_X5_chance_0 hu, q_strength (d + 1) σ hu hl h1, hS]
  simp only [pm_cl_some, Option.toList_some, Option.toList_none, List.cons_append, List.nil_append]
  rw [sg_X5_chance_4 hu, h1, q_hof (d + 2) σ (by omega) hl, hD]
  simp only [pm_cl_some, Option.toList_some, Option.toList_none, List.cons_append, List.nil_append]
  rw [sg_X5_chance_17 hu]
  unfold oddv
  rcases ho with ho | ⟨j, hj, ho⟩
  · rw [if_pos ho, if_pos ho]
    refine ⟨σ.1 21, σ.1 22, ?_⟩
    rw [wC_self, wC_self]
    unfold clm
    split
    · rfl
    · split <;> rfl
  · obtain ⟨hn6, -, hj6⟩ := hC
    obtain ⟨c, c1, c2, c3, c4⟩ := hj6 j hj
    have hne : ¬ σ.1 12 6 = -1 := by rw [ho]; exact nI_nm1 (by omega)
    rw [if_neg hne, if_neg hne, ho, nI_clamp (show j < 2 ^ 31 by omega)]
    simp (disch := omega) only [ck_n, nI_clamp, wI_wC, wC_at, wC_wC]
    rw [sg_X5_chance_60 hu]
    simp (disch := omega) only [ck_n, nI_clamp, wI_wC, wC_at, wC_wC, wC_ne _ _ n21, h5, h6]
    rw [sg_X5_chance_80 hu]
    simp (disch := omega) only [ck_n, nI_clamp, wI_wC, wC_at, wC_wC, wC_ne _ _ n21, h1]
    rw [q_hof (d + 2) _ (by omega) hl, wC_ne _ _ (show (4 : Nat) ≠ 21 by decide), hB]
    simp only [pm_cl_some, Option.toList_some, Option.toList_none, List.cons_append, List.nil_append]
    rw [sg_X5_chance_113 hu]
    simp (disch := omega) only [ck_n, nI_clamp, wI_wC, wC_at, wC_wC, wC_ne _ _ (show (12 : Nat) ≠ 21 by decide), ho]
    obtain ⟨w1, w2⟩ := c4 _ (bd_L hr)
    obtain ⟨g', hg⟩ := q_worth d (L := LofN W I D T C B) (j := j) (show j < 6 by omega) (pm_wC σ 21 (upd (upd (upd (upd (upd (upd (upd (upd (σ.1 21) 0 (nI W)) 1 (isI I)) 2 (nI D)) 3 (nI T)) 4 (nI C)) 5 (nI 0)) 6 (nI 0)) 7 (nI B))) (fun z hz => by
      rw [wC_at]
      unfold LofN
      rcases (show z = 0 ∨ z = 1 ∨ z = 2 ∨ z = 3 ∨ z = 4 ∨ z = 5 ∨ z = 6 ∨ z = 7 by omega) with rfl | rfl | rfl | rfl | rfl | rfl | rfl | rfl <;> rfl) (by rw [wC_ne _ _ (by decide)]; exact c1) c2 (by rw [wC_ne _ _ (by omega)]; exact c3) w1
    rw [hg]
    simp only [pm_cl_some, Option.toList_some, Option.toList_none, List.cons_append, List.nil_append]
    rw [sg_X5_chance_122 hu]
    refine ⟨upd (upd (upd (upd (upd (upd (upd (upd (σ.1 21) 0 (nI W)) 1 (isI I)) 2 (nI D)) 3 (nI T)) 4 (nI C)) 5 (nI 0)) 6 (nI 0)) 7 (nI B), g', ?_⟩
    unfold clm
    split
    · rfl
    · split <;> rfl
/-- what the reference's ODDS leave -/
def rO (σ σ' : pm_H) : Prop := (∀ c, c ≠ 133 → c ≠ 137 → c ≠ 145 → σ'.1 c = σ.1 c) ∧ (∀ c, c ≠ 144 → σ'.2 c = σ.2 c) ∧ ∀ k, gk k = true → σ'.1 133 k = σ.1 133 k
theorem rO_rfl (σ : pm_H) : rO σ σ := ⟨fun _ _ _ _ => rfl, fun _ _ => rfl, fun _ _ => rfl⟩
theorem rO_tr {σ σ1 σ2 : pm_H} (h : rO σ σ1) (h' : rO σ1 σ2) : rO σ σ2 := ⟨fun c a b e => (h'.1 c a b e).trans (h.1 c a b e), fun c a => (h'.2.1 c a).trans (h.2.1 c a), fun k hk => (h'.2.2 k hk).trans (h.2.2 k hk)⟩
def o137 (h : Nat → Int32) (W I D T C B : Nat) : Nat → Int32 := upd (upd (upd (upd (upd (upd (upd (upd h 119 (nI W)) 115 (isI I)) 100 (nI D)) 116 (nI T)) 99 (nI C)) 114 (nI 0)) 107 (nI 0)) 98 (nI B)
theorem LM_o {σ : pm_H} {h : Nat → Int32} {W I D T C B : Nat} (e : σ.1 137 = o137 h W I D T C B) : LM σ = LofN W I D T C B := by
  funext i
  unfold LM LofN lcd
  rw [e]
  by_cases c0 : i = 0
  · rw [if_pos c0, if_pos c0]; rfl
  rw [if_neg c0, if_neg c0]
  by_cases c1 : i = 1
  · rw [if_pos c1, if_pos c1]; rfl
  rw [if_neg c1, if_neg c1]
  by_cases c2 : i = 2
  · rw [if_pos c2, if_pos c2]; rfl
  rw [if_neg c2, if_neg c2]
  by_cases c3 : i = 3
  · rw [if_pos c3, if_pos c3]; rfl
  rw [if_neg c3, if_neg c3]
  by_cases c4 : i = 4
  · rw [if_pos c4, if_pos c4]; rfl
  rw [if_neg c4, if_neg c4]
  by_cases c5 : i = 5
  · rw [if_pos c5, if_pos c5]; rfl
  rw [if_neg c5, if_neg c5]
  by_cases c6 : i = 6
  · rw [if_pos c6, if_pos c6]; rfl
  rw [if_neg c6, if_neg c6]
  rfl
theorem is_l {I : Nat} (h : I < 1000000) {a : Nat} : (lN a + (isI I).toInt64) + lN 500000 = lN (a + I) := by
  have e : (isI I).toInt64 = lN I - lN 500000 := by
    refine Int64.toInt_inj.mp ?_
    rw [Int32.toInt_toInt64, isI_toInt h, Int64.toInt_sub, pk_lT (by omega), pk_lT (by omega), Int.bmod_eq_of_le (by omega) (by omega)]
    rfl
  rw [e, ← lN_add, Int64.add_assoc, Int64.sub_add_cancel]
theorem wJ_1 (σ : pm_H) (c k : Nat) (v : Int64) : (pm_wJ σ c k v).1 = σ.1 := rfl
theorem r_oddsBy (d : Nat) {nl l W I D T C B : Nat} {V : Nat → LV → Int32} {σ : pm_H} (hM : MLw nl V σ) (hO : MOw nl V σ) (ho : lawok nl (σ.1 133 27)) (hLM : bdL (LM σ)) (hl : l < 6) (hD : σ.1 138 (10 * l + 3) = nI D) (hB : σ.1 138 (10 * l + 2) = nI B) (hr : rgN W I D T C B) : ∃ σ', xe (d + 33) 161 [.ref 133, .int (nI l), .int (nI W), .int (isI I), .int (nI T), .int (nI C)] σ = some (some (.int (oddv V (σ.1 133 27) W I D T C B)), σ') ∧ rO σ σ' ∧ MOw nl V σ' ∧ bdL (LM σ') := by
  rw [en_X12_oddsBy, sg_X12_oddsBy_0]
  unfold oddv
  rcases ho with ho | ⟨j, hj, ho⟩
  · rw [if_pos ho, if_pos ho, pk_mul, nI_add, ck_n _ (by omega) (by omega), nI_clamp (by omega), hD, clm_m]
    exact ⟨σ, rfl, rO_rfl σ, hO, hLM⟩
  · have hr' := hr
    obtain ⟨r1, r2, r3, r4, r5, r6⟩ := hr'
    obtain ⟨hn6, -, hj6⟩ := hM
    obtain ⟨b, n, cc, v, q, c1, c2, c3, c4, c5⟩ := hj6 j hj
    have hne : ¬ σ.1 133 27 = -1 := by rw [ho]; exact nI_nm1 (by omega)
    rw [if_neg hne, if_neg hne, pk_mul, nI_add]
    simp (disch := omega) only [ck_n, nI_clamp, wI_wC, wC_at, wC_wC, wC_ne _ _ (show (138 : Nat) ≠ 137 by decide), hD]
    rw [sg_X12_oddsBy_70]
    simp (disch := omega) only [ck_n, nI_clamp, wI_wC, wC_at, wC_wC]
    rw [sg_X12_oddsBy_96, pk_mul, nI_add]
    simp (disch := omega) only [ck_n, nI_clamp, wI_wC, wC_at, wC_wC, wC_ne _ _ (show (138 : Nat) ≠ 137 by decide), hB]
    rw [show upd (upd (upd (upd (upd (upd (upd (upd (σ.1 137) 119 (nI W)) 115 (isI I)) 100 (nI D)) 116 (nI T)) 99 (nI C)) 114 (nI 0)) 107 (nI 0)) 98 (nI B) = o137 (σ.1 137) W I D T C B from rfl]
    have hLo : LM (pm_wC σ 137 (o137 (σ.1 137) W I D T C B)) = LofN W I D T C B := LM_o (wC_at _ _ _)
    rw [sg_X12_oddsBy_122, nI_l (by omega), show (1000000 : Int64) = lN 1000000 from rfl, show (500000 : Int64) = lN 500000 from rfl, lN_mul, is_l r2, sg_X12_oddsBy_141]
    simp (disch := omega) only [ck_n, nI_clamp, wC_at]
    rw [show o137 (σ.1 137) W I D T C B 100 = nI D from rfl, nI_l (by omega), show (10 : Int64) = lN 10 from rfl, lN_mul, lN_add, sg_X12_oddsBy_158, nI_l (by omega), nI_l (by omega), show (10000 : Int64) = lN 10000 from rfl, show (4 : Int64) = lN 4 from rfl, lN_mul, lN_add, lN_mul, lN_add, sg_X12_oddsBy_182]
    simp (disch := omega) only [ck_n, nI_clamp, wC_at]
    rw [show o137 (σ.1 137) W I D T C B 98 = nI B from rfl, nI_l (by omega), show (100 : Int64) = lN 100 from rfl, lN_mul, lN_add, sg_X12_oddsBy_199, wC_ne _ _ (show (133 : Nat) ≠ 137 by decide), ho, nI_l (by omega), show (6 : Int64) = lN 6 from rfl, show (1 : Int64) = lN 1 from rfl, lN_mul, lN_add, lN_add, show 6 * (100 * (10000 * (4 * (10 * (1000000 * W + I) + D) + T) + C) + B) + j + 1 = kyN W I D T C B j from rfl]
    have hK := ky_lt hr (show j < 6 by omega)
    generalize hk : kyN W I D T C B j = K at hK ⊢
    rw [show (8191 : Int64) = lN 8191 from rfl, pk_lRem (by omega) (by omega) (by omega), lN_i]
    have hP : K % 8191 < 8191 := Nat.mod_lt _ (by omega)
    generalize K % 8191 = P at hP ⊢
    rw [sg_X12_oddsBy_224, nI_clamp (show P < 2 ^ 31 by omega), ck_n _ hP (by omega), nI_clamp (show j < 2 ^ 31 by omega)]
    have hwv : V j (LofN W I D T C B) = wv v (LofN W I D T C B) := by rw [c3]
    rw [wC_2]
    by_cases ck : σ.2 144 P = lN K
    · rw [if_pos ((lg_cmp_eq _ _).mpr ck), ck_n _ hP (by omega), wC_ne _ _ (show (145 : Nat) ≠ 137 by decide), clm_m]
      have hv : σ.1 145 P = V j (LofN W I D T C B) := by
        rcases hO P hP with h0 | ⟨W', I', D', T', C', B', j', g1, g2, g3, g4⟩
        · rw [h0, show (0 : Int64) = lN 0 from rfl, pk_lEQ (by omega) (by omega)] at ck
          rw [← ck] at hk
          unfold kyN at hk
          omega
        · rw [g3, pk_lEQ (by have := ky_lt g1 (show j' < 6 by omega); omega) (by omega), ← hk] at ck
          obtain ⟨rfl, rfl, rfl, rfl, rfl, rfl, rfl⟩ := ky_inj g1 hr (by omega) (by omega) ck
          exact g4
      refine ⟨_, by rw [hv], ⟨fun c _ h2 _ => wC_ne _ _ h2, fun c _ => rfl, fun k _ => by rw [wC_ne _ _ (by decide)]⟩, fun p hp => ?_, by rw [hLo]; exact bd_L hr⟩
      rw [wC_ne _ _ (show (145 : Nat) ≠ 137 by decide)]
      exact hO p hp
    · rw [if_neg (fun e => ck ((lg_cmp_eq _ _).mp e)), wC_ne _ _ (show (133 : Nat) ≠ 137 by decide), ho, ck_n _ (show j < 6 by omega) (by omega), wC_ne _ _ (show (136 : Nat) ≠ 137 by decide), nI_clamp (show j < 2 ^ 31 by omega), pk_mul, c4]
      have hn := c1.1
      obtain ⟨σ2, e2, e3, e4⟩ := r_go_x d (B := 240 * j) (σ := pm_wC σ 137 (o137 (σ.1 137) W I D T C B)) c1 (by omega) (fun i hi => by rw [wC_ne _ _ (by decide)]; exact c5 i hi) (by rw [hLo]; exact bd_L hr)
      rw [e2]
      simp only [pm_cl_some, Option.toList_some, Option.toList_none, List.cons_append, List.nil_append]
      rw [c2] at e4
      obtain ⟨e5, e6⟩ := e4
      obtain ⟨e7, e8, e9⟩ := e3
      rw [sg_X12_oddsBy_262, nI_clamp (show P < 2 ^ 31 by omega), ck_n _ hP (by omega), ck_n _ hP (by omega), wJ_1, e6, hLo, ← hwv, sg_X12_oddsBy_282, nI_clamp (show P < 2 ^ 31 by omega), ck_n _ hP (by omega)]
      rw [show (pm_wI (pm_wJ σ2 144 P (lN K)) 145 P (V j (LofN W I D T C B))).1 145 P = V j (LofN W I D T C B) from by rw [wI_wC, wC_at, up_at], clm_m]
      refine ⟨_, rfl, ⟨fun c h1 h2 h3 => ?_, fun c h1 => ?_, fun k hk2 => ?_⟩, fun p hp => ?_, ?_⟩
      · rw [wI_wC, wC_ne _ _ h3, wJ_1, e7 c h1, wC_ne _ _ h2]
      · show (pm_wJ σ2 144 P (lN K)).2 c = σ.2 c
        rw [(pm_wJ_ne σ2 P (lN K) h1).2, e8]
        rfl
      · rw [wI_wC, wC_ne _ _ (by decide), wJ_1, e9 k hk2, wC_ne _ _ (by decide)]
      · by_cases cp : p = P
        · subst cp
          refine Or.inr ⟨W, I, D, T, C, B, j, hr, hj, ?_, ?_⟩
          · rw [hk]
            show (if 144 = 144 then vp_updL (σ2.2 144) p (lN K) else σ2.2 144) p = lN K
            rw [if_pos rfl]
            exact pk_uLs
          · rw [wI_wC, wC_at, up_at]
        · have a1 : (pm_wI (pm_wJ σ2 144 P (lN K)) 145 P (V j (LofN W I D T C B))).2 144 p = σ.2 144 p := by
            show (if 144 = 144 then vp_updL (σ2.2 144) P (lN K) else σ2.2 144) p = σ.2 144 p
            rw [if_pos rfl, pk_uLn cp, e8]
            rfl
          have a2 : (pm_wI (pm_wJ σ2 144 P (lN K)) 145 P (V j (LofN W I D T C B))).1 145 p = σ.1 145 p := by
            rw [wI_wC, wC_at, up_ne _ _ cp, wJ_1, e7 145 (by decide), wC_ne _ _ (by decide)]
          rw [a1, a2]
          exact hO p hp
      · have : (pm_wI (pm_wJ σ2 144 P (lN K)) 145 P (V j (LofN W I D T C B))).1 137 = o137 (σ.1 137) W I D T C B := by
          rw [wI_wC, wC_ne _ _ (by decide), wJ_1, e7 137 (by decide), wC_at]
        rw [LM_o this]
        exact bd_L hr

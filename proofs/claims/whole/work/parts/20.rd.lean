/-! ===== the HALL's text: items, the reference ===== -/
theorem my_c {σ : pm_H} {p c : Nat} {f dp : Int32} {u : Nat → Int32} (h : c ≠ 133) : pm_wC (my σ p f dp) c u = my (pm_wC σ c u) p f dp := by
  refine Prod.ext (funext fun q => ?_) rfl
  unfold my
  by_cases h1 : q = c
  · subst h1
    rw [wC_at, wC_ne _ _ h, wC_at]
  · rw [wC_ne _ _ h1]
    by_cases h2 : q = 133
    · subst h2
      rw [wC_at, wC_at, wC_ne _ _ (Ne.symm h)]
    · rw [wC_ne _ _ h2, wC_ne _ _ h2, wC_ne _ _ h1]
theorem r_here (d : Nat) {b : Nat → Nat} {n p : Nat} {σ : pm_H} {f dp : Int32} (h : tpM b n σ) (hp : p < n) : xe (d + 1) 89 [.ref 133] (my σ p f dp) = some (some (.int (nI (b p))), my σ p f dp) := by
  obtain ⟨⟨hn, hb⟩, c, N, B, hc, hc1, hc2, h5, h8, h9, hB, hN, hx⟩ := h
  have e5 : (my σ p f dp).1 133 5 = nI c := by rw [my_k (by decide)]; exact h5
  have e8 : (my σ p f dp).1 133 8 = nI B := by rw [my_k (by decide)]; exact h8
  have e9 : (my σ p f dp).1 133 9 = nI n := by rw [my_k (by decide)]; exact h9
  have hcl : (nI c : Int32).toNatClampNeg = c := nI_clamp (by omega)
  rw [en_X12_here, sg_X12_here_0 (n := N) (by rw [e5, hcl]; exact hc), my_10, e9, if_pos (nI_lt hp (by omega)), e8, nI_add, ck_n _ (by omega) (by omega), nI_clamp (show B + p < 2 ^ 31 by omega), e5, hcl, my_ne hc2, hx p hp, (byt_d (b p) (by have := hb p hp; omega)).1]
theorem tpM_w {b : Nat → Nat} {n c : Nat} {σ : pm_H} {u : Nat → Int32} (h : tpM b n σ) (h1 : c ≠ 133) (h2 : pm_kd c ≠ pm_kd c ∨ ∀ N, pm_kd c ≠ .inl (1, N, 0)) : tpM b n (pm_wC σ c u) := by
  obtain ⟨hb, c', N, B, hc, hc1, hc2, h5, h8, h9, hB, hN, hx⟩ := h
  have hne : c' ≠ c := fun e => by
    subst e
    rcases h2 with h2 | h2
    · exact h2 rfl
    · exact h2 N hc
  refine ⟨hb, c', N, B, hc, hc1, hc2, ?_, ?_, ?_, hB, hN, fun i hi => ?_⟩
  · rw [wC_ne _ _ (Ne.symm h1)]; exact h5
  · rw [wC_ne _ _ (Ne.symm h1)]; exact h8
  · rw [wC_ne _ _ (Ne.symm h1)]; exact h9
  · rw [wC_ne _ _ hne]; exact hx i hi
def okI (σ : pm_H) (c pl lo hi : Nat) (dp : Int32) (r : Nat ⊕ (Nat × Nat)) (o : Option pm_R) : Prop := match r with
  | .inl g => o = some (none, my σ g (nI g) dp)
  | .inr (v, q) => o = if v < lo ∨ hi < v then some (none, my σ (q - 1) (nI (q - 1)) dp) else some (none, my (pm_wC σ c (upd (σ.1 c) pl (nI v))) q (-1) dp)
theorem dg_b {b : Nat → Nat} {n p : Nat} (h : dg b n p = true) : p < n ∧ 48 ≤ b p ∧ b p ≤ 57 := by
  unfold dg at h
  simp at h
  exact h
theorem r_ri_l (d : Nat) {b : Nat → Nat} {n q pl lo hi : Nat} {σ : pm_H} {dp : Int32} (h : tpM b n σ) (hq : q < n) (hpl : pl < 60) (hlo : lo ≤ 99) (hhi : hi ≤ 99) : okI σ 139 pl lo hi dp (numD b n 2 (skp b n (q + 1))) (xe (d + 2) 87 [.ref 133, .ref 139, .int (nI pl), .int (nI lo), .int (nI hi)] (my σ q (-1) dp)) := by
  have hn : n ≤ 240 := h.1.1
  have hP := skp_le b (show q + 1 ≤ n by omega)
  rw [en_X12_readItem_l, sg_X12_readItem_l_0, my_10, nI_add, my_p, r_lk d h (show q + 1 ≤ n by omega)]
  simp only [pm_cl_some, Option.toList_some, Option.toList_none, List.cons_append, List.nil_append]
  rw [sg_X12_readItem_l_14, r_dg d h hP]
  simp only [pm_cl_some, Option.toList_some, Option.toList_none, List.cons_append, List.nil_append]
  rw [sg_X12_readItem_l_20]
  unfold numD
  cases hd : dg b n (skp b n (q + 1)) with
  | false =>
    rw [if_pos bf0, if_neg (by decide), r_fa0]
    simp only [pm_cl_some, Option.toList_some, Option.toList_none, List.cons_append, List.nil_append]
    rw [sg_X12_readItem_l_27]
    rfl
  | true =>
    obtain ⟨a1, a2, a3⟩ := dg_b hd
    have htk : tk b n (q + 1) = b (skp b n (q + 1)) := by unfold tk; rw [if_pos a1]
    have fin : ∀ (v q' : Nat) (l5 : Int32), 1 ≤ q' → q' ≤ n → v ≤ 99 → okI σ 139 pl lo hi dp (if dg b n q' then .inl q' else .inr (v, q')) (pm_run (xe (d + 1)) pg_X12_readItem (82, [.ref 133, .ref 139, .int (nI pl), .int (nI lo), .int (nI hi), .int l5, .int (nI v)], [.int (b32 (dg b n q'))], my σ q' (-1) dp)) := by
      intro v q' l5 h1 h2 hv
      rw [sg_X12_readItem_l_82]
      cases dg b n q' with
      | true =>
        rw [if_neg bt0, if_pos rfl, r_fa0]
        simp only [pm_cl_some, Option.toList_some, Option.toList_none, List.cons_append, List.nil_append]
        rw [sg_X12_readItem_l_89]
        rfl
      | false =>
        rw [if_pos bf0, if_neg (by decide)]
        show _ = if v < lo ∨ hi < v then _ else _
        by_cases c : v < lo ∨ hi < v
        · rw [if_pos c, r_rng_n d _ (L := (nI lo).toInt64) (H := (nI hi).toInt64) (a := lo) (b := hi) (x := nI v) rfl rfl (c.elim (fun c => Or.inl (nI_lt c (by omega))) (fun c => Or.inr (nI_lt c (by omega))))]
          simp only [pm_cl_some, Option.toList_some, Option.toList_none, List.cons_append, List.nil_append]
          rw [sg_X12_readItem_l_102, if_pos n00, my_10, pk_sub h1, my_p, r_fa0]
          simp only [pm_cl_some, Option.toList_some, Option.toList_none, List.cons_append, List.nil_append]
          rw [sg_X12_readItem_l_119]
        · rw [if_neg c, r_rng_y d _ (L := (nI lo).toInt64) (H := (nI hi).toInt64) (a := lo) (b := hi) rfl rfl (by omega) (by omega) (by omega)]
          simp only [pm_cl_some, Option.toList_some, Option.toList_none, List.cons_append, List.nil_append]
          rw [sg_X12_readItem_l_102, if_neg n10, ck_n _ hpl (by omega), nI_clamp (by omega), wI_wC, my_ne (by decide), my_c (by decide)]
    rw [if_neg bt0, if_pos rfl, my_10, nI_add, my_p, r_dg d h (by omega), htk, show tkI (b (skp b n (q + 1))) = nI (b (skp b n (q + 1))) from if_neg (by omega), pk_sub a2]
    simp only [pm_cl_some, Option.toList_some, Option.toList_none, List.cons_append, List.nil_append]
    rw [sg_X12_readItem_l_50]
    unfold nmf
    rw [if_pos hd]
    unfold nmf
    cases hd2 : dg b n (skp b n (q + 1) + 1) with
    | false =>
      rw [if_pos bf0, if_neg (by decide), r_dg d h (by omega)]
      simp only [pm_cl_some, Option.toList_some, Option.toList_none, List.cons_append, List.nil_append]
      have := fin (b (skp b n (q + 1)) - 48) (skp b n (q + 1) + 1) (nI (b (skp b n (q + 1)))) (by omega) (by omega) (by omega)
      rw [hd2, if_neg (by decide)] at this
      rw [hd2, Nat.zero_mul, Nat.zero_add]
      exact this
    | true =>
      obtain ⟨c1, c2, c3⟩ := dg_b hd2
      rw [if_neg bt0, if_pos rfl, r_here d h c1]
      simp only [pm_cl_some, Option.toList_some, Option.toList_none, List.cons_append, List.nil_append]
      rw [sg_X12_readItem_l_62, my_10, nI_add, my_p, r_dg d h (by omega), pk_mul, nI_add, pk_sub (by omega)]
      simp only [pm_cl_some, Option.toList_some, Option.toList_none, List.cons_append, List.nil_append]
      have := fin (10 * (b (skp b n (q + 1)) - 48) + b (skp b n (q + 1) + 1) - 48) (skp b n (q + 1) + 1 + 1) (nI (b (skp b n (q + 1)))) (by omega) (by omega) (by omega)
      unfold nmf
      rw [show (0 * 10 + (b (skp b n (q + 1)) - 48)) * 10 + (b (skp b n (q + 1) + 1) - 48) = 10 * (b (skp b n (q + 1)) - 48) + b (skp b n (q + 1) + 1) - 48 by omega]
      exact this
theorem r_ri_r (d : Nat) {b : Nat → Nat} {n q pl lo hi : Nat} {σ : pm_H} {dp : Int32} (h : tpM b n σ) (hq : q < n) (hpl : pl < 4) (hlo : lo ≤ 99) (hhi : hi ≤ 99) : okI σ 141 pl lo hi dp (numD b n 2 (skp b n (q + 1))) (xe (d + 2) 87 [.ref 133, .ref 141, .int (nI pl), .int (nI lo), .int (nI hi)] (my σ q (-1) dp)) := by
  have hn : n ≤ 240 := h.1.1
  have hP := skp_le b (show q + 1 ≤ n by omega)
  rw [en_X12_readItem_r, sg_X12_readItem_r_0, my_10, nI_add, my_p, r_lk d h (show q + 1 ≤ n by omega)]
  simp only [pm_cl_some, Option.toList_some, Option.toList_none, List.cons_append, List.nil_append]
  rw [sg_X12_readItem_r_14, r_dg d h hP]
  simp only [pm_cl_some, Option.toList_some, Option.toList_none, List.cons_append, List.nil_append]
  rw [sg_X12_readItem_r_20]
  unfold numD
  cases hd : dg b n (skp b n (q + 1)) with
  | false =>
    rw [if_pos bf0, if_neg (by decide), r_fa0]
    simp only [pm_cl_some, Option.toList_some, Option.toList_none, List.cons_append, List.nil_append]
    rw [sg_X12_readItem_r_27]
    rfl
  | true =>
    obtain ⟨a1, a2, a3⟩ := dg_b hd
    have htk : tk b n (q + 1) = b (skp b n (q + 1)) := by unfold tk; rw [if_pos a1]
    have fin : ∀ (v q' : Nat) (l5 : Int32), 1 ≤ q' → q' ≤ n → v ≤ 99 → okI σ 141 pl lo hi dp (if dg b n q' then .inl q' else .inr (v, q')) (pm_run (xe (d + 1)) pg_X12_readItem (82, [.ref 133, .ref 141, .int (nI pl), .int (nI lo), .int (nI hi), .int l5, .int (nI v)], [.int (b32 (dg b n q'))], my σ q' (-1) dp)) := by
      intro v q' l5 h1 h2 hv
      rw [sg_X12_readItem_r_82]
      cases dg b n q' with
      | true =>
        rw [if_neg bt0, if_pos rfl, r_fa0]
        simp only [pm_cl_some, Option.toList_some, Option.toList_none, List.cons_append, List.nil_append]
        rw [sg_X12_readItem_r_89]
        rfl
      | false =>
        rw [if_pos bf0, if_neg (by decide)]
        show _ = if v < lo ∨ hi < v then _ else _
        by_cases c : v < lo ∨ hi < v
        · rw [if_pos c, r_rng_n d _ (L := (nI lo).toInt64) (H := (nI hi).toInt64) (a := lo) (b := hi) (x := nI v) rfl rfl (c.elim (fun c => Or.inl (nI_lt c (by omega))) (fun c => Or.inr (nI_lt c (by omega))))]
          simp only [pm_cl_some, Option.toList_some, Option.toList_none, List.cons_append, List.nil_append]
          rw [sg_X12_readItem_r_102, if_pos n00, my_10, pk_sub h1, my_p, r_fa0]
          simp only [pm_cl_some, Option.toList_some, Option.toList_none, List.cons_append, List.nil_append]
          rw [sg_X12_readItem_r_119]
        · rw [if_neg c, r_rng_y d _ (L := (nI lo).toInt64) (H := (nI hi).toInt64) (a := lo) (b := hi) rfl rfl (by omega) (by omega) (by omega)]
          simp only [pm_cl_some, Option.toList_some, Option.toList_none, List.cons_append, List.nil_append]
          rw [sg_X12_readItem_r_102, if_neg n10, ck_n _ hpl (by omega), nI_clamp (by omega), wI_wC, my_ne (by decide), my_c (by decide)]
    rw [if_neg bt0, if_pos rfl, my_10, nI_add, my_p, r_dg d h (by omega), htk, show tkI (b (skp b n (q + 1))) = nI (b (skp b n (q + 1))) from if_neg (by omega), pk_sub a2]
    simp only [pm_cl_some, Option.toList_some, Option.toList_none, List.cons_append, List.nil_append]
    rw [sg_X12_readItem_r_50]
    unfold nmf
    rw [if_pos hd]
    unfold nmf
    cases hd2 : dg b n (skp b n (q + 1) + 1) with
    | false =>
      rw [if_pos bf0, if_neg (by decide), r_dg d h (by omega)]
      simp only [pm_cl_some, Option.toList_some, Option.toList_none, List.cons_append, List.nil_append]
      have := fin (b (skp b n (q + 1)) - 48) (skp b n (q + 1) + 1) (nI (b (skp b n (q + 1)))) (by omega) (by omega) (by omega)
      rw [hd2, if_neg (by decide)] at this
      rw [hd2, Nat.zero_mul, Nat.zero_add]
      exact this
    | true =>
      obtain ⟨c1, c2, c3⟩ := dg_b hd2
      rw [if_neg bt0, if_pos rfl, r_here d h c1]
      simp only [pm_cl_some, Option.toList_some, Option.toList_none, List.cons_append, List.nil_append]
      rw [sg_X12_readItem_r_62, my_10, nI_add, my_p, r_dg d h (by omega), pk_mul, nI_add, pk_sub (by omega)]
      simp only [pm_cl_some, Option.toList_some, Option.toList_none, List.cons_append, List.nil_append]
      have := fin (10 * (b (skp b n (q + 1)) - 48) + b (skp b n (q + 1) + 1) - 48) (skp b n (q + 1) + 1 + 1) (nI (b (skp b n (q + 1)))) (by omega) (by omega) (by omega)
      unfold nmf
      rw [show (0 * 10 + (b (skp b n (q + 1)) - 48)) * 10 + (b (skp b n (q + 1) + 1) - 48) = 10 * (b (skp b n (q + 1)) - 48) + b (skp b n (q + 1) + 1) - 48 by omega]
      exact this

/-! ===== the reference goes through a whole LAW ===== -/
theorem fnd_k {σ : pm_H} {x : Int32} {k : Nat} (h : k ≠ 14 ∧ k ≠ 17) : (fnd σ x).1 133 k = σ.1 133 k := by
  unfold fnd
  rw [wI_wC, wC_at, up_ne _ _ h.1, wI_wC, wC_at, up_ne _ _ h.2]
theorem fnd_ne {σ : pm_H} {x : Int32} {c : Nat} (h : c ≠ 133) : (fnd σ x).1 c = σ.1 c := by
  unfold fnd
  rw [wI_wC, wC_ne _ _ h, wI_wC, wC_ne _ _ h]
theorem fb_k {σ : pm_H} {o : Option Int32} {k : Nat} (h : k ≠ 14 ∧ k ≠ 17) : (fb σ o).1 133 k = σ.1 133 k := by
  unfold fb
  split
  · rfl
  · split
    · exact fnd_k h
    · rfl
theorem fb_ne {σ : pm_H} {o : Option Int32} {c : Nat} (h : c ≠ 133) : (fb σ o).1 c = σ.1 c := by
  unfold fb
  split
  · rfl
  · split
    · exact fnd_ne h
    · rfl
theorem fb_2 {σ : pm_H} {o : Option Int32} : (fb σ o).2 = σ.2 := by
  unfold fb
  split
  · rfl
  · split <;> rfl
theorem fb_LM {σ : pm_H} {o : Option Int32} : LM (fb σ o) = LM σ := by
  unfold LM
  rw [fb_ne (by decide)]
theorem fb_tp {b : Nat → Nat} {n : Nat} {σ : pm_H} {o : Option Int32} (h : tpM b n σ) : tpM b n (fb σ o) := by
  obtain ⟨hb, c, N, B, h1, h2, h3, h4, h5, h6, h7, h8, h9⟩ := h
  exact ⟨hb, c, N, B, h1, h2, h3, by rw [fb_k (by decide)]; exact h4, by rw [fb_k (by decide)]; exact h5, by rw [fb_k (by decide)]; exact h6, h7, h8, fun i hi => by rw [fb_ne h3]; exact h9 i hi⟩
theorem fb_fb {σ : pm_H} (h : σ.1 133 17 = 0) (o1 o2 : Option Int32) : fb (fb σ o1) o2 = fb σ (o1.or o2) := by
  cases o1 with
  | none => rfl
  | some x =>
    show fb (if σ.1 133 17 = 0 then fnd σ x else σ) o2 = (if σ.1 133 17 = 0 then fnd σ x else σ)
    rw [if_pos h]
    cases o2 with
    | none => rfl
    | some y =>
      show (if (fnd σ x).1 133 17 = 0 then fnd (fnd σ x) y else fnd σ x) = fnd σ x
      rw [if_neg]
      unfold fnd
      rw [wI_wC, wC_at, up_ne _ _ (by decide), wI_wC, wC_at, up_at]
      exact n10
def spG (σ : pm_H) (r : PV (Option Int32)) (o : Option pm_R) : Prop := match r with
  | .inl f => ∃ (x : Option Int32) (p' : Nat) (d' : Int32), o = some (none, my (fb σ x) p' (nI f) d')
  | .inr (_, v, q) => o = some (none, my (fb σ (v (LM σ))) q (-1) (nI 0))
theorem r_go_l (d : Nat) {b : Nat → Nat} {n : Nat} {σ : pm_H} (h : tpM b n σ) (hL : bdL (LM σ)) (h13 : σ.1 133 13 = nI 121) (h17 : σ.1 133 17 = 0) : ∀ (M : Nat) (c : List Int32) (v : LV → Option Int32) (q : Nat) (w1 w2 w3 : Value), n < M + q → q ≤ n → spG σ (pLw b n M c v q) (pm_run (xe (d + 31)) pg_X12_goThrough (32, [.ref 133, w1, w2, w3], [], my (fb σ (v (LM σ))) q (-1) (nI 0)))
  | 0, c, v, q, w1, w2, w3, e, hq => by omega
  | M + 1, c, v, q, w1, w2, w3, e, hq => by
    have hn := h.1.1
    have hsk := skp_ge b n q
    have ht := tk_le (p := q) h.1
    have hT := fb_tp (o := v (LM σ)) h
    rw [sg_X12_goThrough_t_32, my_11, if_pos (rfl : (-1 : Int32) = -1), r_lk (d + 30) hT hq]
    simp only [pm_cl_some, Option.toList_some, Option.toList_none, List.cons_append, List.nil_append]
    rw [sg_X12_goThrough_t_44]
    unfold pLw
    by_cases t59 : tk b n q = 59
    · have hlt := tk_lt (b := b) (n := n) (p := q) (by omega)
      rw [if_pos ((tkI_is ht (by omega) (by omega)).mpr t59), if_pos t59, my_10, nI_add, my_p]
      have ha := r_clause d hT (by rw [fb_LM]; exact hL) (by rw [fb_k (by decide)]; exact h13) (show skp b n q + 1 ≤ n by omega)
      have hk := pClause_ok (b := b) (n := n) (p := skp b n q + 1) (by omega)
      match pClause b n (skp b n q + 1), ha, hk with
      | .inl f, ha, hk =>
        obtain ⟨p', d', ha⟩ := ha
        have hf : f ≤ n := hk
        rw [ha]
        simp only [pm_cl_some, Option.toList_some, Option.toList_none, List.cons_append, List.nil_append]
        rw [sg_X12_goThrough_t_63, sg_X12_goThrough_t_32, my_11, if_neg (nI_nm1 (by omega)), if_neg (nI_nm1 (by omega))]
        exact ⟨_, p', d', rfl⟩
      | .inr (c2, v2, q2), ha, hk =>
        have ha : _ = some (none, my (fb (fb σ (v (LM σ))) (v2 (LM (fb σ (v (LM σ)))))) q2 (-1) (nI 0)) := ha
        obtain ⟨⟨d1, d2, d3⟩, -⟩ := hk
        rw [ha]
        simp only [pm_cl_some, Option.toList_some, Option.toList_none, List.cons_append, List.nil_append]
        rw [sg_X12_goThrough_t_63, fb_LM, fb_fb h17]
        exact r_go_l d h hL h13 h17 M (c ++ c2) (fun L => (v L).or (v2 L)) q2 .null .null .null (by omega) d2
    · rw [if_neg (fun e => t59 ((tkI_is ht (by omega) (by omega)).mp e)), if_neg t59, my_11, if_pos (rfl : (-1 : Int32) = -1), r_lk (d + 30) hT (skp_le b hq), tk_skp, skp_skp]
      simp only [pm_cl_some, Option.toList_some, Option.toList_none, List.cons_append, List.nil_append]
      rw [sg_X12_goThrough_t_78]
      by_cases t0 : tk b n q = 0
      · rw [if_pos ((tkI_end ht).mpr t0), if_neg (by have := tk_0 h.1 t0; omega)]
        rfl
      · have hlt := tk_lt t0
        rw [if_neg (fun e => t0 ((tkI_end ht).mp e)), if_pos hlt, r_fa0]
        simp only [pm_cl_some, Option.toList_some, Option.toList_none, List.cons_append, List.nil_append]
        rw [sg_X12_goThrough_t_86]
        exact ⟨_, _, _, rfl⟩
/-- fields that going through a text may change -/
def gk (k : Nat) : Bool := !(k == 5 || k == 8 || k == 9 || k == 10 || k == 11 || k == 12 || k == 13 || k == 14 || k == 17)
def g133 (σ σ' : pm_H) : Prop := (∀ c, c ≠ 133 → σ'.1 c = σ.1 c) ∧ σ'.2 = σ.2 ∧ ∀ k, gk k = true → σ'.1 133 k = σ.1 133 k
def gs (σ : pm_H) (c B n : Int32) : pm_H := pm_wC σ 133 (upd (upd (upd (upd (upd (upd (σ.1 133) 5 c) 8 B) 9 n) 13 (nI 121)) 17 (nI 0)) 14 (nI 0))
theorem gs_my (σ : pm_H) (c B n : Int32) : pm_wI (pm_wI (pm_wI (pm_wI (pm_wI (pm_wI (pm_wI (pm_wI (pm_wI σ 133 5 c) 133 8 B) 133 9 n) 133 10 (nI 0)) 133 11 (-1)) 133 13 (nI 121)) 133 12 (nI 0)) 133 17 (nI 0)) 133 14 (nI 0) = my (gs σ c B n) 0 (-1) (nI 0) := by
  unfold my gs
  simp only [wI_wC, wC_wC, wC_at]
  congr 1
  rw [up_cm _ _ _ (by decide : (11 : Nat) ≠ 13), up_cm _ _ _ (by decide : (10 : Nat) ≠ 13), up_cm _ _ _ (by decide : (12 : Nat) ≠ 17), up_cm _ _ _ (by decide : (11 : Nat) ≠ 17), up_cm _ _ _ (by decide : (10 : Nat) ≠ 17), up_cm _ _ _ (by decide : (12 : Nat) ≠ 14), up_cm _ _ _ (by decide : (11 : Nat) ≠ 14), up_cm _ _ _ (by decide : (10 : Nat) ≠ 14)]
theorem gs_at (σ : pm_H) (c B n : Int32) : (gs σ c B n).1 133 = upd (upd (upd (upd (upd (upd (σ.1 133) 5 c) 8 B) 9 n) 13 (nI 121)) 17 (nI 0)) 14 (nI 0) := wC_at _ _ _
theorem gs_g {σ : pm_H} {c B n : Int32} {x : Option Int32} {p : Nat} {f dp : Int32} : g133 σ (my (fb (gs σ c B n) x) p f dp) := by
  refine ⟨fun q hq => by rw [my_ne hq, fb_ne hq]; exact wC_ne _ _ hq, by show (fb (gs σ c B n) x).2 = _; rw [fb_2]; rfl, fun k hk => ?_⟩
  have hk : k ≠ 5 ∧ k ≠ 8 ∧ k ≠ 9 ∧ k ≠ 10 ∧ k ≠ 11 ∧ k ≠ 12 ∧ k ≠ 13 ∧ k ≠ 14 ∧ k ≠ 17 := by
    unfold gk at hk
    simp at hk
    omega
  rw [my_k ⟨hk.2.2.2.1, hk.2.2.2.2.1, hk.2.2.2.2.2.1⟩, fb_k ⟨hk.2.2.2.2.2.2.2.1, hk.2.2.2.2.2.2.2.2⟩, gs_at]
  simp only [upd]
  rw [if_neg hk.2.2.2.2.2.2.2.1, if_neg hk.2.2.2.2.2.2.2.2, if_neg hk.2.2.2.2.2.2.1, if_neg hk.2.2.1, if_neg hk.2.1, if_neg hk.1]
/-- what is known of the reference's state behind going through a text -/
def goR (σ σ' : pm_H) (r : PV (Option Int32)) : Prop := match r with
  | .inl f => σ'.1 133 11 = nI f
  | .inr (_, v, _) => σ'.1 133 11 = -1 ∧ σ'.1 133 14 = wv v (LM σ)
theorem gs_LM (σ : pm_H) (c B n : Int32) : LM (gs σ c B n) = LM σ := by
  unfold LM gs
  rw [wC_ne _ _ (by decide)]
theorem fb_14 (σ : pm_H) (c B n : Int32) (o : Option Int32) : (fb (gs σ c B n) o).1 133 14 = o.getD 0 := by
  cases o with
  | none =>
    show (gs σ c B n).1 133 14 = 0
    rw [gs_at, up_at]
    exact n00
  | some x =>
    show (if (gs σ c B n).1 133 17 = 0 then fnd (gs σ c B n) x else gs σ c B n).1 133 14 = x
    rw [if_pos (by rw [gs_at, up_ne _ _ (by decide), up_at]; exact n00)]
    unfold fnd
    rw [wI_wC, wC_at, up_at]

theorem r_go_t (d : Nat) {b : Nat → Nat} {n B : Nat} {σ : pm_H} (hb : okb b n) (hB : B + n ≤ 240) (hx : ∀ i, i < n → σ.1 134 (B + i) = byt (b i)) (hL : bdL (LM σ)) : ∃ σ', xe (d + 32) 90 [.ref 133, .ref 134, .int (nI B), .int (nI n)] σ = some (none, σ') ∧ g133 σ σ' ∧ goR σ σ' (pLaw b n) := by
  have hn := hb.1
  have hT : tpM b n (gs σ (nI 134) (nI B) (nI n)) := ⟨hb, 134, 240, B, rfl, by decide, by decide, by rw [gs_at]; rfl, by rw [gs_at]; rfl, by rw [gs_at]; rfl, hB, by decide, fun i hi => by unfold gs; rw [wC_ne _ _ (by decide)]; exact hx i hi⟩
  have hLM := gs_LM σ (nI 134) (nI B) (nI n)
  have h13 : (gs σ (nI 134) (nI B) (nI n)).1 133 13 = nI 121 := by rw [gs_at]; rfl
  have h17 : (gs σ (nI 134) (nI B) (nI n)).1 133 17 = 0 := by rw [gs_at, up_ne _ _ (by decide), up_at]; exact n00
  rw [en_X12_goThrough_t, sg_X12_goThrough_t_0, en_X12_starts_t, sg_X12_starts_t_0, sg_X12_starts_t_15]
  simp only [pm_cl_some, Option.toList_some, Option.toList_none, List.cons_append, List.nil_append]
  rw [sg_X12_goThrough_t_7, sg_X12_goThrough_t_23, show Int32.ofNat 134 = nI 134 from rfl, gs_my]
  have ha := r_clause d hT (by rw [hLM]; exact hL) h13 (show 0 ≤ n by omega)
  have hk := pClause_ok (b := b) (n := n) (p := 0) (by omega)
  have key : spG (gs σ (nI 134) (nI B) (nI n)) (pLaw b n) (pm_cl (xe (d + 31) 91 [.ref 133] (my (gs σ (nI 134) (nI B) (nI n)) 0 (-1) (nI 0))) (fun r => pm_run (xe (d + 31)) pg_X12_goThrough (32, [.ref 133, .ref 134, .int (nI B), .int (nI n)], r.1.toList ++ [], r.2))) := by
    unfold pLaw
    match pClause b n 0, ha, hk with
    | .inl f, ha, hk =>
      obtain ⟨p', d', ha⟩ := ha
      have hf : f ≤ n := hk
      rw [ha]
      simp only [pm_cl_some, Option.toList_some, Option.toList_none, List.cons_append, List.nil_append]
      rw [sg_X12_goThrough_t_32, my_11, if_neg (nI_nm1 (by omega)), if_neg (nI_nm1 (by omega))]
      exact ⟨none, p', d', rfl⟩
    | .inr (c2, v2, q2), ha, hk =>
      have ha : _ = _ := ha
      obtain ⟨⟨d1, d2, d3⟩, -⟩ := hk
      rw [ha]
      simp only [pm_cl_some, Option.toList_some, Option.toList_none, List.cons_append, List.nil_append]
      exact r_go_l d hT (by rw [hLM]; exact hL) h13 h17 241 c2 v2 q2 _ _ _ (by omega) d2
  match pLaw b n, key with
  | .inl f, key =>
    obtain ⟨x, p', d', e⟩ := key
    rw [e]
    exact ⟨_, rfl, gs_g, my_11⟩
  | .inr (c, v, q), key =>
    have e : _ = _ := key
    rw [e]
    refine ⟨_, rfl, gs_g, my_11, ?_⟩
    rw [my_k (by decide), fb_14, hLM]
    rfl

theorem r_go_x (d : Nat) {b : Nat → Nat} {n B : Nat} {σ : pm_H} (hb : okb b n) (hB : B + n ≤ 1440) (hx : ∀ i, i < n → σ.1 135 (B + i) = byt (b i)) (hL : bdL (LM σ)) : ∃ σ', xe (d + 32) 90 [.ref 133, .ref 135, .int (nI B), .int (nI n)] σ = some (none, σ') ∧ g133 σ σ' ∧ goR σ σ' (pLaw b n) := by
  have hn := hb.1
  have hT : tpM b n (gs σ (nI 135) (nI B) (nI n)) := ⟨hb, 135, 1440, B, rfl, by decide, by decide, by rw [gs_at]; rfl, by rw [gs_at]; rfl, by rw [gs_at]; rfl, hB, by decide, fun i hi => by unfold gs; rw [wC_ne _ _ (by decide)]; exact hx i hi⟩
  have hLM := gs_LM σ (nI 135) (nI B) (nI n)
  have h13 : (gs σ (nI 135) (nI B) (nI n)).1 133 13 = nI 121 := by rw [gs_at]; rfl
  have h17 : (gs σ (nI 135) (nI B) (nI n)).1 133 17 = 0 := by rw [gs_at, up_ne _ _ (by decide), up_at]; exact n00
  rw [en_X12_goThrough_x, sg_X12_goThrough_x_0, en_X12_starts_x, sg_X12_starts_x_0, sg_X12_starts_x_15]
  simp only [pm_cl_some, Option.toList_some, Option.toList_none, List.cons_append, List.nil_append]
  rw [sg_X12_goThrough_x_7, sg_X12_goThrough_x_23, show Int32.ofNat 135 = nI 135 from rfl, gs_my]
  have ha := r_clause d hT (by rw [hLM]; exact hL) h13 (show 0 ≤ n by omega)
  have hk := pClause_ok (b := b) (n := n) (p := 0) (by omega)
  have key : spG (gs σ (nI 135) (nI B) (nI n)) (pLaw b n) (pm_cl (xe (d + 31) 91 [.ref 133] (my (gs σ (nI 135) (nI B) (nI n)) 0 (-1) (nI 0))) (fun r => pm_run (xe (d + 31)) pg_X12_goThrough (32, [.ref 133, .ref 135, .int (nI B), .int (nI n)], r.1.toList ++ [], r.2))) := by
    unfold pLaw
    match pClause b n 0, ha, hk with
    | .inl f, ha, hk =>
      obtain ⟨p', d', ha⟩ := ha
      have hf : f ≤ n := hk
      rw [ha]
      simp only [pm_cl_some, Option.toList_some, Option.toList_none, List.cons_append, List.nil_append]
      rw [sg_X12_goThrough_t_32, my_11, if_neg (nI_nm1 (by omega)), if_neg (nI_nm1 (by omega))]
      exact ⟨none, p', d', rfl⟩
    | .inr (c2, v2, q2), ha, hk =>
      have ha : _ = _ := ha
      obtain ⟨⟨d1, d2, d3⟩, -⟩ := hk
      rw [ha]
      simp only [pm_cl_some, Option.toList_some, Option.toList_none, List.cons_append, List.nil_append]
      exact r_go_l d hT (by rw [hLM]; exact hL) h13 h17 241 c2 v2 q2 _ _ _ (by omega) d2
  match pLaw b n, key with
  | .inl f, key =>
    obtain ⟨x, p', d', e⟩ := key
    rw [e]
    exact ⟨_, rfl, gs_g, my_11⟩
  | .inr (c, v, q), key =>
    have e : _ = _ := key
    rw [e]
    refine ⟨_, rfl, gs_g, my_11, ?_⟩
    rw [my_k (by decide), fb_14, hLM]
    rfl

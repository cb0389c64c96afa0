/-! ===== the class's reader of LAWS: atoms, conditions, clauses ===== -/
theorem q_atomF (d : Nat) {b : Nat → Nat} {n p m g : Nat} {lv : Int32} {σ : pm_H} {s : Nat → Int32} (h : tpX b n σ) (hp : p ≤ n) (hg : g ≤ n) (hm : m ≤ 240) : FX σ n g (xe (d + 2) 60 [.ref 10, .int lv] (lx σ p (nI g) m s)) := by
  have hn := h.1
  rw [en_X4_readAtom, sg_X4_readAtom_0, q_lk d h hp]
  simp only [pm_cl_some, Option.toList_some, Option.toList_none, List.cons_append, List.nil_append]
  rw [sg_X4_readAtom_7, q_fl1 _ (by omega)]
  simp only [pm_cl_some, Option.toList_some, Option.toList_none, List.cons_append, List.nil_append]
  rw [sg_X4_readAtom_15, if_neg n10]
  exact ⟨skp b n p, m, s, skp_le b hp, hm, rfl⟩
theorem q_sumFF (d : Nat) {b : Nat → Nat} {n p m g : Nat} {lv : Int32} {σ : pm_H} {s : Nat → Int32} (h : tpX b n σ) (hp : p ≤ n) (hg : g ≤ n) (hm : m ≤ 240) : FX σ n g (xe (d + 4) 58 [.ref 10, .int lv] (lx σ p (nI g) m s)) :=
  q_smmF (d + 1) h hg (q_termF d h hg (q_atomF d h hp hg hm))
theorem q_atn (d : Nat) {b : Nat → Nat} {n p m : Nat} {lv l2 l3 : Int32} {σ : pm_H} {s : Nat → Int32} (h : tpX b n σ) (hp : p ≤ n) (hm : m ≤ p) : spX σ n m s (match num b n (skp b n p) with
    | .inl f => (.inl f : PV Int32)
    | .inr (v, q) => .inr ([nI v], fun _ => nI v, q)) (pm_cl (xe (d + 2) 52 [.ref 1, .int (nI 4)] (lx σ (skp b n p) (-1) m s)) (fun r => pm_run (xe (d + 2)) pg_X4_readAtom (106, [.ref 10, .int lv, .int l2, .int l3], r.1.toList ++ [.ref 10], r.2))) := by
  have hn := h.1
  have hsk := skp_ge b n p
  have hnb := num_b (b := b) (n := n) (p := skp b n p) (skp_le b hp)
  have hq := q_num d (m := m) (s := s) h (skp_le b hp) (show 4 ≤ 4 by omega) (by omega)
  rw [skp_skp, show numD b n 4 (skp b n p) = num b n (skp b n p) from rfl] at hq
  match num b n (skp b n p), hq, hnb with
  | .inl f, hq, hnb =>
    obtain ⟨v, hq⟩ := hq
    rw [hq]
    simp only [pm_cl_some, Option.toList_some, Option.toList_none, List.cons_append, List.nil_append]
    obtain ⟨m2, s2, h4, h5⟩ := q_wrF (d + 1) (σ := σ) (p := f) (f := nI f) (v := v) (s := s) (show m ≤ 240 by omega)
    rw [sg_X4_readAtom_106, h5]
    simp only [pm_cl_some, Option.toList_some, Option.toList_none, List.cons_append, List.nil_append]
    rw [sg_X4_readAtom_109]
    exact ⟨f, m2, s2, hnb.1 f rfl, h4, rfl⟩
  | .inr (v, q), hq, hnb =>
    have hq : _ = _ := hq
    have hb := hnb.2 v q rfl
    rw [hq]
    simp only [pm_cl_some, Option.toList_some, Option.toList_none, List.cons_append, List.nil_append]
    rw [sg_X4_readAtom_106, q_wr (d + 1) (by omega)]
    simp only [pm_cl_some, Option.toList_some, Option.toList_none, List.cons_append, List.nil_append]
    rw [sg_X4_readAtom_109]
    rfl
theorem chr_t : ∀ t, t < 256 → ((nI t).toUInt32 % 65536).toInt32 = nI t := by decide +kernel
theorem q_atom (d : Nat) {b : Nat → Nat} {n kk j : Nat} {σ : pm_H} {S : Option (Nat → PV Int32)} (h : tpX b n σ) (h6 : S = none → j = 6) (hS : ∀ S', S = some S' → j < 6 ∧ (∀ p, p ≤ n → okV idI n kk p (S' p)) ∧ ∀ p m s, p ≤ n → m ≤ p → spX σ n m s (S' p) (xe (d + 4) 58 [.ref 10, .int (nI (j + 1))] (lx σ p (-1) m s))) (p m : Nat) (s : Nat → Int32) (hp : p ≤ n) (hm : m ≤ p) : spX σ n m s (pAtom b n S p) (xe (d + 5) 60 [.ref 10, .int (nI j)] (lx σ p (-1) m s)) := by
  have hn := h.1
  have hsk := skp_ge b n p
  have ht := tk_le (p := p) (tpX_b h)
  rw [en_X4_readAtom, sg_X4_readAtom_0, q_lk (d + 3) h hp]
  simp only [pm_cl_some, Option.toList_some, Option.toList_none, List.cons_append, List.nil_append]
  rw [sg_X4_readAtom_7, q_fl0]
  simp only [pm_cl_some, Option.toList_some, Option.toList_none, List.cons_append, List.nil_append]
  rw [sg_X4_readAtom_15, if_pos n00]
  by_cases t0 : tk b n p = 0
  · rw [t0, if_pos n00, if_pos (by decide), if_neg (by decide)]
    unfold pAtom
    rw [t0, show lti 0 = none from rfl, if_neg (by decide)]
    exact q_atn (d + 2) h hp hm
  · have hlt := tk_lt t0
    rw [if_neg (nI_ne0 (by omega) (by omega)), chr_t _ (by omega), q_ixw d _ ht]
    simp only [pm_cl_some, Option.toList_some, Option.toList_none, List.cons_append, List.nil_append]
    rw [sg_X4_readAtom_34]
    unfold pAtom
    cases hl : lti (tk b n p) with
    | some i =>
      obtain ⟨hi, -, -⟩ := lti_lcd hl
      rw [show oi1 (some i) = nI i from rfl, if_neg (nI_pos (by omega)), lx_12, nI_add, nI_add, lx_p, q_wr (d + 3) (by omega)]
      simp only [pm_cl_some, Option.toList_some, Option.toList_none, List.cons_append, List.nil_append]
      rw [sg_X4_readAtom_61]
      rfl
    | none =>
      rw [show oi1 none = -1 from rfl, if_pos (show (-1 : Int32) < 0 from by decide)]
      simp only [tkI_eq ht (show 91 ≤ 255 by omega)]
      by_cases t91 : tk b n p = 91
      · rw [if_pos t91]
        simp only [t91, if_true]
        rw [en_X4_goesDeeper, sg_X4_goesDeeper_0, lx_12, nI_add, lx_p]
        match S, h6, hS with
        | none, h6, hS =>
          rw [h6 rfl, if_neg (show ¬ nI 6 < nI 6 from by decide), q_fa0]
          simp only [pm_cl_some, Option.toList_some, Option.toList_none, List.cons_append, List.nil_append]
          rw [sg_X4_goesDeeper_20]
          simp only [pm_cl_some, Option.toList_some, Option.toList_none, List.cons_append, List.nil_append]
          rw [sg_X4_readAtom_75, if_pos n00]
          exact ⟨skp b n p, m, s, by omega, by omega, rfl⟩
        | some S', h6, hS =>
          obtain ⟨hj, hok, hs⟩ := hS S' rfl
          rw [if_pos (nI_lt hj (by omega))]
          simp only [pm_cl_some, Option.toList_some, Option.toList_none, List.cons_append, List.nil_append]
          rw [sg_X4_readAtom_75, if_neg n10, nI_add]
          have ha := hs (skp b n p + 1) m s (by omega) (by omega)
          have hk := hok (skp b n p + 1) (by omega)
          match S' (skp b n p + 1), ha, hk with
          | .inl f, ha, hk =>
            obtain ⟨p', m', s', h1, h2, h3⟩ := ha
            rw [h3]
            simp only [pm_cl_some, Option.toList_some, Option.toList_none, List.cons_append, List.nil_append]
            obtain ⟨p2, h4, h5⟩ := q_exF (d + 2) (m := m') (s := s') h h1 (show f ≤ n from hk) (show 93 ≠ 0 by omega) (by omega)
            rw [sg_X4_readAtom_85, h5]
            simp only [pm_cl_some, Option.toList_some, Option.toList_none, List.cons_append, List.nil_append]
            rw [sg_X4_readAtom_94]
            exact ⟨p2, m', s', h4, h2, rfl⟩
          | .inr (c, v, q), ha, hk =>
            have ha : _ = _ := ha
            obtain ⟨⟨b1, b2, b3⟩, -⟩ := hk
            rw [ha]
            simp only [pm_cl_some, Option.toList_some, Option.toList_none, List.cons_append, List.nil_append]
            rw [sg_X4_readAtom_85]
            by_cases t93 : tk b n q = 93
            · rw [q_exy (d + 2) h b2 t93]
              simp only [pm_cl_some, Option.toList_some, Option.toList_none, List.cons_append, List.nil_append]
              rw [sg_X4_readAtom_94]
              simp only [t93, if_true]
              rfl
            · rw [q_exn (d + 2) h b2 (by omega) t93]
              simp only [pm_cl_some, Option.toList_some, Option.toList_none, List.cons_append, List.nil_append]
              rw [sg_X4_readAtom_94]
              simp only [t93, if_false]
              exact ⟨skp b n q, _, _, skp_le b b2, by omega, rfl⟩
      · rw [if_neg t91]
        simp only [t91, if_false]
        exact q_atn (d + 2) h hp hm
theorem q_At {b : Nat → Nat} {n : Nat} {σ : pm_H} (h : tpX b n σ) : ∀ (l : Nat), l ≤ 6 → ∀ (d p m : Nat) (s : Nat → Int32), p ≤ n → m ≤ p → spX σ n m s (pAt b n l p) (xe (d + 3 * l + 5) 60 [.ref 10, .int (nI (6 - l))] (lx σ p (-1) m s))
  | 0, _, d, p, m, s, hp, hm => q_atom (kk := 0) d h (fun _ => rfl) (fun _ e => by cases e) p m s hp hm
  | l + 1, hl, d, p, m, s, hp, hm => by
    have e : d + 3 * (l + 1) + 5 = (d + 3 * l + 3) + 5 := by omega
    rw [e]
    refine q_atom (kk := 2 * l + 3) (d + 3 * l + 3) h (fun e => by cases e) (fun S' e => ?_) p m s hp hm
    cases e
    refine ⟨by omega, pS_ok l, fun p m s hp hm => ?_⟩
    rw [show 6 - (l + 1) + 1 = 6 - l by omega, pSum_Su]
    exact q_smm (d + 3 * l + 4) h (pTerm_ok (pAt_ok l)) (fun p m s hp hm => q_term (d + 3 * l + 3) h (pAt_ok l) (fun p m s hp hm => q_At h l (by omega) d p m s hp hm) p m s hp hm) p m s hp hm
theorem q_Sm {b : Nat → Nat} {n : Nat} {σ : pm_H} (h : tpX b n σ) {l : Nat} (hl : l ≤ 6) (d p m : Nat) (s : Nat → Int32) (hp : p ≤ n) (hm : m ≤ p) : spX σ n m s (pSum b n (pAt b n l) p) (xe (d + 3 * l + 7) 58 [.ref 10, .int (nI (6 - l))] (lx σ p (-1) m s)) := by
  rw [pSum_Su]
  exact q_smm (d + 3 * l + 4) h (pTerm_ok (pAt_ok l)) (fun p m s hp hm => q_term (d + 3 * l + 3) h (pAt_ok l) (fun p m s hp hm => q_At h l hl d p m s hp hm) p m s hp hm) p m s hp hm
theorem q_isC (d : Nat) {σ : pm_H} {t : Nat} (ht : t ≤ 255) : xe (d + 1) 63 [.int (nI t)] σ = some (some (.int (b32 (isS t))), σ) := by
  rw [en_X4_isComparison, sg_X4_isComparison_0]
  simp only [tkI_eq ht (show 61 ≤ 255 by omega), tkI_eq ht (show 60 ≤ 255 by omega), tkI_eq ht (show 62 ≤ 255 by omega)]
  unfold isS
  by_cases c1 : t = 61
  · subst c1; rfl
  · by_cases c2 : t = 60
    · subst c2; rfl
    · by_cases c3 : t = 62
      · subst c3; rfl
      · rw [if_neg c1, if_neg c2, if_neg c3, show (t == 61) = false from by simpa using c1, show (t == 60) = false from by simpa using c2, show (t == 62) = false from by simpa using c3]
        rfl
theorem isS_0 {t : Nat} (h : isS t = true) : t ≠ 0 := by
  intro e
  subst e
  cases h
/-- behind a first sum -/
theorem q_cmR (d : Nat) {b : Nat → Nat} {n kk m0 q : Nat} {lv l2 : Int32} {σ : pm_H} {s : Nat → Int32} {S : Nat → PV Int32} (h : tpX b n σ) (hok : ∀ p, p ≤ n → okV idI n kk p (S p)) (hS : ∀ p m s, p ≤ n → m ≤ p → spX σ n m s (S p) (xe (d + 2) 58 [.ref 10, .int lv] (lx σ p (-1) m s))) (c : List Int32) (v : LV → Int32) (hq : q ≤ n) (hm : m0 + c.length ≤ q) : spX σ n m0 s (pCmpR b n S c v q) (pm_cl (xe (d + 2) 27 [.ref 1] (lx σ q (-1) (m0 + c.length) (pts s m0 c))) (fun r => pm_run (xe (d + 2)) pg_X4_readComparison (16, [.ref 10, .int lv, .int l2, .null], r.1.toList ++ [], r.2))) := by
  have hn := h.1
  have hsk := skp_ge b n q
  have ht := tk_le (p := q) (tpX_b h)
  rw [q_lk (d + 1) h hq]
  simp only [pm_cl_some, Option.toList_some, Option.toList_none, List.cons_append, List.nil_append]
  rw [sg_X4_readComparison_16, q_fl0]
  simp only [pm_cl_some, Option.toList_some, Option.toList_none, List.cons_append, List.nil_append]
  rw [sg_X4_readComparison_24, if_pos n00, q_isC (d + 1) ht]
  simp only [pm_cl_some, Option.toList_some, Option.toList_none, List.cons_append, List.nil_append]
  rw [sg_X4_readComparison_31]
  unfold pCmpR
  cases hs : isS (tk b n q) with
  | false =>
    rw [if_pos bf0, if_neg (show ¬ (false = true) by decide), lx_12, q_fa0]
    simp only [pm_cl_some, Option.toList_some, Option.toList_none, List.cons_append, List.nil_append]
    rw [sg_X4_readComparison_48]
    exact ⟨skp b n q, _, _, skp_le b hq, by omega, rfl⟩
  | true =>
    have hlt := tk_lt (isS_0 hs)
    rw [if_neg bt0, if_pos (show true = true from rfl), lx_12, nI_add, lx_p]
    have ha := hS (skp b n q + 1) (m0 + c.length) (pts s m0 c) (by omega) (by omega)
    have hk := hok (skp b n q + 1) (by omega)
    match S (skp b n q + 1), ha, hk with
    | .inl f, ha, hk =>
      obtain ⟨p', m', s', h1, h2, h3⟩ := ha
      rw [h3]
      simp only [pm_cl_some, Option.toList_some, Option.toList_none, List.cons_append, List.nil_append]
      obtain ⟨m2, s2, h4, h5⟩ := q_wrF (d + 1) (σ := σ) (p := p') (f := nI f) (v := -(nI (tk b n q))) (s := s') h2
      rw [sg_X4_readComparison_67, h5]
      simp only [pm_cl_some, Option.toList_some, Option.toList_none, List.cons_append, List.nil_append]
      rw [sg_X4_readComparison_73]
      exact ⟨p', m2, s2, h1, h4, rfl⟩
    | .inr (c2, v2, q2), ha, hk =>
      have ha : _ = _ := ha
      obtain ⟨⟨b1, b2, b3⟩, -⟩ := hk
      rw [ha]
      simp only [pm_cl_some, Option.toList_some, Option.toList_none, List.cons_append, List.nil_append]
      rw [sg_X4_readComparison_67, q_wr (d + 1) (by omega)]
      simp only [pm_cl_some, Option.toList_some, Option.toList_none, List.cons_append, List.nil_append]
      rw [sg_X4_readComparison_73]
      show _ = _
      rw [pts_app, pts_app]
      simp only [List.length_append, List.length_cons, List.length_nil, pts]
      rw [show m0 + (c.length + c2.length + (0 + 1)) = m0 + c.length + c2.length + 1 by omega, show m0 + (c.length + c2.length) = m0 + c.length + c2.length by omega]
theorem q_cmp (d : Nat) {b : Nat → Nat} {n kk p m : Nat} {lv : Int32} {σ : pm_H} {s : Nat → Int32} {S : Nat → PV Int32} (h : tpX b n σ) (hok : ∀ p, p ≤ n → okV idI n kk p (S p)) (hS : ∀ p m s, p ≤ n → m ≤ p → spX σ n m s (S p) (xe (d + 2) 58 [.ref 10, .int lv] (lx σ p (-1) m s))) (hp : p ≤ n) (hm : m ≤ p) : spX σ n m s (pCmp b n S p) (xe (d + 3) 67 [.ref 10, .int lv, .int (nI 0)] (lx σ p (-1) m s)) := by
  have hn := h.1
  rw [en_X4_readComparison, sg_X4_readComparison_0, if_pos n00]
  have ha := hS p m s hp hm
  have hk := hok p hp
  unfold pCmp
  match S p, ha, hk with
  | .inl f, ha, hk =>
    obtain ⟨p', m', s', h1, h2, h3⟩ := ha
    have hf : f ≤ n := hk
    rw [h3]
    simp only [pm_cl_some, Option.toList_some, Option.toList_none, List.cons_append, List.nil_append]
    rw [sg_X4_readComparison_9, q_lk (d + 1) h h1]
    simp only [pm_cl_some, Option.toList_some, Option.toList_none, List.cons_append, List.nil_append]
    rw [sg_X4_readComparison_16, q_fl1 _ (by omega)]
    simp only [pm_cl_some, Option.toList_some, Option.toList_none, List.cons_append, List.nil_append]
    rw [sg_X4_readComparison_24, if_neg n10, q_fa1 _ _ (by omega)]
    simp only [pm_cl_some, Option.toList_some, Option.toList_none, List.cons_append, List.nil_append]
    rw [sg_X4_readComparison_48]
    exact ⟨skp b n p', m', s', skp_le b h1, h2, rfl⟩
  | .inr (c, v, q), ha, hk =>
    have ha : _ = _ := ha
    obtain ⟨⟨b1, b2, b3⟩, -⟩ := hk
    rw [ha]
    simp only [pm_cl_some, Option.toList_some, Option.toList_none, List.cons_append, List.nil_append]
    rw [sg_X4_readComparison_9]
    exact q_cmR d h hok hS c v b2 (by omega)
theorem q_unitF (d : Nat) {b : Nat → Nat} {n p m g : Nat} {lv bg : Int32} {σ : pm_H} {s : Nat → Int32} (h : tpX b n σ) (hp : p ≤ n) (hg : g ≤ n) (hm : m ≤ 240) : FX σ n g (xe (d + 2) 66 [.ref 10, .int lv, .int bg] (lx σ p (nI g) m s)) := by
  have hn := h.1
  rw [en_X4_readUnit, sg_X4_readUnit_0, q_lk d h hp]
  simp only [pm_cl_some, Option.toList_some, Option.toList_none, List.cons_append, List.nil_append]
  rw [sg_X4_readUnit_7, q_fl1 _ (by omega)]
  simp only [pm_cl_some, Option.toList_some, Option.toList_none, List.cons_append, List.nil_append]
  rw [sg_X4_readUnit_15, if_neg n10]
  exact ⟨skp b n p, m, s, skp_le b hp, hm, rfl⟩

theorem q_tru_l (d : Nat) {b : Nat → Nat} {n m0 kk : Nat} {lv : Int32} {σ : pm_H} {s : Nat → Int32} {A : Nat → PV Bool} (h : tpX b n σ) (hok : ∀ p, p ≤ n → okV b32 n kk p (A p)) (hA : ∀ p m s, p ≤ n → m ≤ p → spX σ n m s (A p) (xe (d + 2) 66 [.ref 10, .int lv, .int (nI 0)] (lx σ p (-1) m s))) : ∀ (M k : Nat) (c : List Int32) (v : LV → Bool) (q : Nat) (w2 : Value), M + k = 241 → k < q → q ≤ n → m0 + c.length ≤ q → spX σ n m0 s (pB b n 38 Bool.and A M c v q) (pm_run (xe (d + 2)) pg_X4_readTruth (8, [.ref 10, .int lv, w2, .int (nI k)], [], lx σ q (-1) (m0 + c.length) (pts s m0 c)))
  | 0, k, c, v, q, w2, e, hk, hq, hm => by have := h.1; omega
  | M + 1, k, c, v, q, w2, e, hk, hq, hm => by
    have hn := h.1
    have hsk := skp_ge b n q
    rw [sg_X4_readTruth_8, if_pos (nI_lt (by omega) (by omega)), q_fl0]
    simp only [pm_cl_some, Option.toList_some, Option.toList_none, List.cons_append, List.nil_append]
    rw [sg_X4_readTruth_22, if_pos n00, q_lk (d + 1) h hq]
    simp only [pm_cl_some, Option.toList_some, Option.toList_none, List.cons_append, List.nil_append]
    have ht := tk_le (p := q) (tpX_b h)
    rw [sg_X4_readTruth_32, lx_12, nI_add, lx_p]
    simp only [tkI_eq ht (show 38 ≤ 255 by omega)]
    unfold pB
    by_cases ct : tk b n q = 38
    · rw [if_pos ct, if_pos ct]
      have hlt := tk_lt (b := b) (n := n) (p := q) (by omega)
      have ha := hA (skp b n q + 1) (m0 + c.length) (pts s m0 c) (by omega) (by omega)
      have hk2 := hok (skp b n q + 1) (by omega)
      match A (skp b n q + 1), ha, hk2 with
      | .inl f, ha, hk2 =>
        obtain ⟨p', m', s', h1, h2, h3⟩ := ha
        rw [h3]
        simp only [pm_cl_some, Option.toList_some, Option.toList_none, List.cons_append, List.nil_append]
        obtain ⟨m2, s2, h4, h5⟩ := q_wrF (d + 1) (σ := σ) (p := p') (f := nI f) (v := -38) (s := s') h2
        rw [sg_X4_readTruth_56, h5]
        simp only [pm_cl_some, Option.toList_some, Option.toList_none, List.cons_append, List.nil_append]
        rw [sg_X4_readTruth_62, nI_add, sg_X4_readTruth_8]
        refine ⟨p', m2, s2, h1, h4, ?_⟩
        by_cases ck : k + 1 < 240
        · rw [if_pos (nI_lt ck (by omega)), q_fl1 _ (by have : f ≤ n := hk2; omega)]
          simp only [pm_cl_some, Option.toList_some, Option.toList_none, List.cons_append, List.nil_append]
          rw [sg_X4_readTruth_22, if_neg n10]
        · rw [if_neg (nI_nlt (by omega) (by omega))]
      | .inr (c2, v2, q2), ha, hk2 =>
        have ha : _ = _ := ha
        obtain ⟨⟨b1, b2, b3⟩, -⟩ := hk2
        rw [ha]
        simp only [pm_cl_some, Option.toList_some, Option.toList_none, List.cons_append, List.nil_append]
        rw [sg_X4_readTruth_56, show (-38 : Int32) = -(nI 38) from by decide, q_wr (d + 1) (by omega)]
        simp only [pm_cl_some, Option.toList_some, Option.toList_none, List.cons_append, List.nil_append]
        rw [sg_X4_readTruth_62, nI_add]
        have := q_tru_l d (m0 := m0) (s := s) h hok hA M (k + 1) (c ++ c2 ++ [-(nI 38)]) (fun L => Bool.and (v L) (v2 L)) q2 .null (by omega) (by omega) b2 (by simp only [List.length_append, List.length_cons, List.length_nil]; omega)
        rw [pts_app, pts_app] at this
        simp only [List.length_append, List.length_cons, List.length_nil, pts] at this
        rw [show m0 + (c.length + c2.length + (0 + 1)) = m0 + c.length + c2.length + 1 by omega, show m0 + (c.length + c2.length) = m0 + c.length + c2.length by omega] at this
        exact this
    · rw [if_neg ct, if_neg ct]
      rfl
theorem q_truF (d : Nat) {b : Nat → Nat} {n p m g : Nat} {lv bg : Int32} {σ : pm_H} {s : Nat → Int32} (h : tpX b n σ) (hg : g ≤ n) (hF : FX σ n g (xe (d + 2) 66 [.ref 10, .int lv, .int bg] (lx σ p (nI g) m s))) : FX σ n g (xe (d + 3) 65 [.ref 10, .int lv, .int bg] (lx σ p (nI g) m s)) := by
  have hn := h.1
  obtain ⟨p', m', s', h1, h2, h3⟩ := hF
  rw [en_X4_readTruth, sg_X4_readTruth_0, h3]
  simp only [pm_cl_some, Option.toList_some, Option.toList_none, List.cons_append, List.nil_append]
  rw [sg_X4_readTruth_6, sg_X4_readTruth_8, if_pos (nI_lt (by omega) (by omega)), q_fl1 _ (by omega)]
  simp only [pm_cl_some, Option.toList_some, Option.toList_none, List.cons_append, List.nil_append]
  rw [sg_X4_readTruth_22, if_neg n10]
  exact ⟨p', m', s', h1, h2, rfl⟩
/-- the first one's answer is r, from a state X -/
theorem q_tru (d : Nat) {b : Nat → Nat} {n kk k1 p m : Nat} {lv bg : Int32} {σ : pm_H} {s : Nat → Int32} {A : Nat → PV Bool} (h : tpX b n σ) (hok : ∀ p, p ≤ n → okV b32 n kk p (A p)) (hA : ∀ p m s, p ≤ n → m ≤ p → spX σ n m s (A p) (xe (d + 2) 66 [.ref 10, .int lv, .int (nI 0)] (lx σ p (-1) m s))) {r : PV Bool} {X : pm_H} (hr : spX σ n m s r (xe (d + 2) 66 [.ref 10, .int lv, .int bg] X)) (hk : okV b32 n k1 p r) (hm : m ≤ p) : spX σ n m s (pTr b n A r) (xe (d + 3) 65 [.ref 10, .int lv, .int bg] X) := by
  have hn := h.1
  rw [en_X4_readTruth, sg_X4_readTruth_0]
  unfold pTr
  match r, hr, hk with
  | .inl f, ha, hk =>
    obtain ⟨p', m', s', h1, h2, h3⟩ := ha
    have hf : f ≤ n := hk
    rw [h3]
    simp only [pm_cl_some, Option.toList_some, Option.toList_none, List.cons_append, List.nil_append]
    rw [sg_X4_readTruth_6, sg_X4_readTruth_8, if_pos (nI_lt (by omega) (by omega)), q_fl1 _ (by omega)]
    simp only [pm_cl_some, Option.toList_some, Option.toList_none, List.cons_append, List.nil_append]
    rw [sg_X4_readTruth_22, if_neg n10]
    exact ⟨p', m', s', h1, h2, rfl⟩
  | .inr (c, v, q), ha, hk =>
    have ha : _ = _ := ha
    obtain ⟨⟨b1, b2, b3⟩, -⟩ := hk
    rw [ha]
    simp only [pm_cl_some, Option.toList_some, Option.toList_none, List.cons_append, List.nil_append]
    rw [sg_X4_readTruth_6]
    exact q_tru_l d h hok hA 241 0 c v q _ (by omega) (by omega) b2 (by omega)

/-- a condition over its parts -/
def pCn (b : Nat → Nat) (n : Nat) (A : Nat → PV Bool) (r : PV Bool) : PV Bool := match r with
  | .inl f => .inl f
  | .inr (c, v, q) => pB b n 124 Bool.or A 241 c v q
theorem pCo_Cn (b : Nat → Nat) (n : Nat) (U : Nat → PV Bool) (r : PV Bool) : pCo b n U r = pCn b n (fun p => pTr b n U (U p)) (pTr b n U r) := rfl

theorem q_con_l (d : Nat) {b : Nat → Nat} {n m0 kk : Nat} {lv : Int32} {σ : pm_H} {s : Nat → Int32} {A : Nat → PV Bool} (h : tpX b n σ) (hok : ∀ p, p ≤ n → okV b32 n kk p (A p)) (hA : ∀ p m s, p ≤ n → m ≤ p → spX σ n m s (A p) (xe (d + 2) 65 [.ref 10, .int lv, .int (nI 0)] (lx σ p (-1) m s))) : ∀ (M k : Nat) (c : List Int32) (v : LV → Bool) (q : Nat) (w2 : Value), M + k = 241 → k < q → q ≤ n → m0 + c.length ≤ q → spX σ n m0 s (pB b n 124 Bool.or A M c v q) (pm_run (xe (d + 2)) pg_X4_readCondition (8, [.ref 10, .int lv, w2, .int (nI k)], [], lx σ q (-1) (m0 + c.length) (pts s m0 c)))
  | 0, k, c, v, q, w2, e, hk, hq, hm => by have := h.1; omega
  | M + 1, k, c, v, q, w2, e, hk, hq, hm => by
    have hn := h.1
    have hsk := skp_ge b n q
    rw [sg_X4_readCondition_8, if_pos (nI_lt (by omega) (by omega)), q_fl0]
    simp only [pm_cl_some, Option.toList_some, Option.toList_none, List.cons_append, List.nil_append]
    rw [sg_X4_readCondition_22, if_pos n00, q_lk (d + 1) h hq]
    simp only [pm_cl_some, Option.toList_some, Option.toList_none, List.cons_append, List.nil_append]
    have ht := tk_le (p := q) (tpX_b h)
    rw [sg_X4_readCondition_32, lx_12, nI_add, lx_p]
    simp only [tkI_eq ht (show 124 ≤ 255 by omega)]
    unfold pB
    by_cases ct : tk b n q = 124
    · rw [if_pos ct, if_pos ct]
      have hlt := tk_lt (b := b) (n := n) (p := q) (by omega)
      have ha := hA (skp b n q + 1) (m0 + c.length) (pts s m0 c) (by omega) (by omega)
      have hk2 := hok (skp b n q + 1) (by omega)
      match A (skp b n q + 1), ha, hk2 with
      | .inl f, ha, hk2 =>
        obtain ⟨p', m', s', h1, h2, h3⟩ := ha
        rw [h3]
        simp only [pm_cl_some, Option.toList_some, Option.toList_none, List.cons_append, List.nil_append]
        obtain ⟨m2, s2, h4, h5⟩ := q_wrF (d + 1) (σ := σ) (p := p') (f := nI f) (v := -124) (s := s') h2
        rw [sg_X4_readCondition_56, h5]
        simp only [pm_cl_some, Option.toList_some, Option.toList_none, List.cons_append, List.nil_append]
        rw [sg_X4_readCondition_62, nI_add, sg_X4_readCondition_8]
        refine ⟨p', m2, s2, h1, h4, ?_⟩
        by_cases ck : k + 1 < 240
        · rw [if_pos (nI_lt ck (by omega)), q_fl1 _ (by have : f ≤ n := hk2; omega)]
          simp only [pm_cl_some, Option.toList_some, Option.toList_none, List.cons_append, List.nil_append]
          rw [sg_X4_readCondition_22, if_neg n10]
        · rw [if_neg (nI_nlt (by omega) (by omega))]
      | .inr (c2, v2, q2), ha, hk2 =>
        have ha : _ = _ := ha
        obtain ⟨⟨b1, b2, b3⟩, -⟩ := hk2
        rw [ha]
        simp only [pm_cl_some, Option.toList_some, Option.toList_none, List.cons_append, List.nil_append]
        rw [sg_X4_readCondition_56, show (-124 : Int32) = -(nI 124) from by decide, q_wr (d + 1) (by omega)]
        simp only [pm_cl_some, Option.toList_some, Option.toList_none, List.cons_append, List.nil_append]
        rw [sg_X4_readCondition_62, nI_add]
        have := q_con_l d (m0 := m0) (s := s) h hok hA M (k + 1) (c ++ c2 ++ [-(nI 124)]) (fun L => Bool.or (v L) (v2 L)) q2 .null (by omega) (by omega) b2 (by simp only [List.length_append, List.length_cons, List.length_nil]; omega)
        rw [pts_app, pts_app] at this
        simp only [List.length_append, List.length_cons, List.length_nil, pts] at this
        rw [show m0 + (c.length + c2.length + (0 + 1)) = m0 + c.length + c2.length + 1 by omega, show m0 + (c.length + c2.length) = m0 + c.length + c2.length by omega] at this
        exact this
    · rw [if_neg ct, if_neg ct]
      rfl
theorem q_conF (d : Nat) {b : Nat → Nat} {n p m g : Nat} {lv bg : Int32} {σ : pm_H} {s : Nat → Int32} (h : tpX b n σ) (hg : g ≤ n) (hF : FX σ n g (xe (d + 2) 65 [.ref 10, .int lv, .int bg] (lx σ p (nI g) m s))) : FX σ n g (xe (d + 3) 64 [.ref 10, .int lv, .int bg] (lx σ p (nI g) m s)) := by
  have hn := h.1
  obtain ⟨p', m', s', h1, h2, h3⟩ := hF
  rw [en_X4_readCondition, sg_X4_readCondition_0, h3]
  simp only [pm_cl_some, Option.toList_some, Option.toList_none, List.cons_append, List.nil_append]
  rw [sg_X4_readCondition_6, sg_X4_readCondition_8, if_pos (nI_lt (by omega) (by omega)), q_fl1 _ (by omega)]
  simp only [pm_cl_some, Option.toList_some, Option.toList_none, List.cons_append, List.nil_append]
  rw [sg_X4_readCondition_22, if_neg n10]
  exact ⟨p', m', s', h1, h2, rfl⟩
/-- the first one's answer is r, from a state X -/
theorem q_con (d : Nat) {b : Nat → Nat} {n kk k1 p m : Nat} {lv bg : Int32} {σ : pm_H} {s : Nat → Int32} {A : Nat → PV Bool} (h : tpX b n σ) (hok : ∀ p, p ≤ n → okV b32 n kk p (A p)) (hA : ∀ p m s, p ≤ n → m ≤ p → spX σ n m s (A p) (xe (d + 2) 65 [.ref 10, .int lv, .int (nI 0)] (lx σ p (-1) m s))) {r : PV Bool} {X : pm_H} (hr : spX σ n m s r (xe (d + 2) 65 [.ref 10, .int lv, .int bg] X)) (hk : okV b32 n k1 p r) (hm : m ≤ p) : spX σ n m s (pCn b n A r) (xe (d + 3) 64 [.ref 10, .int lv, .int bg] X) := by
  have hn := h.1
  rw [en_X4_readCondition, sg_X4_readCondition_0]
  unfold pCn
  match r, hr, hk with
  | .inl f, ha, hk =>
    obtain ⟨p', m', s', h1, h2, h3⟩ := ha
    have hf : f ≤ n := hk
    rw [h3]
    simp only [pm_cl_some, Option.toList_some, Option.toList_none, List.cons_append, List.nil_append]
    rw [sg_X4_readCondition_6, sg_X4_readCondition_8, if_pos (nI_lt (by omega) (by omega)), q_fl1 _ (by omega)]
    simp only [pm_cl_some, Option.toList_some, Option.toList_none, List.cons_append, List.nil_append]
    rw [sg_X4_readCondition_22, if_neg n10]
    exact ⟨p', m', s', h1, h2, rfl⟩
  | .inr (c, v, q), ha, hk =>
    have ha : _ = _ := ha
    obtain ⟨⟨b1, b2, b3⟩, -⟩ := hk
    rw [ha]
    simp only [pm_cl_some, Option.toList_some, Option.toList_none, List.cons_append, List.nil_append]
    rw [sg_X4_readCondition_6]
    exact q_con_l d h hok hA 241 0 c v q _ (by omega) (by omega) b2 (by omega)

theorem q_coFF (d : Nat) {b : Nat → Nat} {n p m g : Nat} {lv bg : Int32} {σ : pm_H} {s : Nat → Int32} (h : tpX b n σ) (hp : p ≤ n) (hg : g ≤ n) (hm : m ≤ 240) : FX σ n g (xe (d + 4) 64 [.ref 10, .int lv, .int bg] (lx σ p (nI g) m s)) :=
  q_conF (d + 1) h hg (q_truF d h hg (q_unitF d h hp hg hm))
/-- a whole condition, its first unit's answer being r -/
theorem q_cond (d : Nat) {b : Nat → Nat} {n kk p m : Nat} {lv bg : Int32} {σ : pm_H} {s : Nat → Int32} {U : Nat → PV Bool} (h : tpX b n σ) (hok : ∀ p, p ≤ n → okV b32 n kk p (U p)) (hU : ∀ p m s, p ≤ n → m ≤ p → spX σ n m s (U p) (xe (d + 2) 66 [.ref 10, .int lv, .int (nI 0)] (lx σ p (-1) m s))) {r : PV Bool} {X : pm_H} (hr : spX σ n m s r (xe (d + 2) 66 [.ref 10, .int lv, .int bg] X)) (hk : okV b32 n kk p r) (hm : m ≤ p) : spX σ n m s (pCo b n U r) (xe (d + 4) 64 [.ref 10, .int lv, .int bg] X) := by
  rw [pCo_Cn]
  exact q_con (d + 1) (kk := kk + 1) (k1 := kk + 1) h (fun p hp => pTr_ok hok (hok p hp)) (fun p m s hp hm => q_tru d h hok hU (hU p m s hp hm) (hok p hp) hm) (q_tru d h hok hU hr hk hm) (pTr_ok hok hk) hm
theorem q_unit (d : Nat) {b : Nat → Nat} {n kk k2 j : Nat} {σ : pm_H} {low : Option (Nat → PV Bool)} {S : Nat → PV Int32} (h : tpX b n σ) (hok : ∀ p, p ≤ n → okV idI n kk p (S p)) (hS : ∀ p m s, p ≤ n → m ≤ p → spX σ n m s (S p) (xe (d + 3) 58 [.ref 10, .int (nI j)] (lx σ p (-1) m s))) (h6 : low = none → j = 6) (hU : ∀ U, low = some U → j < 6 ∧ (∀ p, p ≤ n → okV b32 n k2 p (U p)) ∧ ∀ e p m s, p ≤ n → m ≤ p → spX σ n m s (U p) (xe (d + e + 2) 66 [.ref 10, .int (nI (j + 1)), .int (nI 0)] (lx σ p (-1) m s))) (p m : Nat) (s : Nat → Int32) (hp : p ≤ n) (hm : m ≤ p) : spX σ n m s (pUnit b n low S p) (xe (d + 5) 66 [.ref 10, .int (nI j), .int (nI 0)] (lx σ p (-1) m s)) := by
  have hn := h.1
  have hsk := skp_ge b n p
  have ht := tk_le (p := p) (tpX_b h)
  rw [en_X4_readUnit, sg_X4_readUnit_0, q_lk (d + 3) h hp]
  simp only [pm_cl_some, Option.toList_some, Option.toList_none, List.cons_append, List.nil_append]
  rw [sg_X4_readUnit_7, q_fl0]
  simp only [pm_cl_some, Option.toList_some, Option.toList_none, List.cons_append, List.nil_append]
  rw [sg_X4_readUnit_15]
  simp only [if_pos n00, tkI_eq ht (show 33 ≤ 255 by omega), tkI_eq ht (show 40 ≤ 255 by omega)]
  unfold pUnit
  by_cases t33 : tk b n p = 33
  · have hlt := tk_lt (b := b) (n := n) (p := p) (by omega)
    rw [if_pos t33, if_pos t33, en_X4_goesDeeper, sg_X4_goesDeeper_0, lx_12, nI_add, lx_p]
    match low, h6, hU with
    | none, h6, hU =>
      rw [h6 rfl, if_neg (show ¬ nI 6 < nI 6 from by decide), q_fa0]
      simp only [pm_cl_some, Option.toList_some, Option.toList_none, List.cons_append, List.nil_append]
      rw [sg_X4_goesDeeper_20]
      simp only [pm_cl_some, Option.toList_some, Option.toList_none, List.cons_append, List.nil_append]
      rw [sg_X4_readUnit_34, if_pos n00]
      exact ⟨skp b n p, m, s, by omega, by omega, rfl⟩
    | some U, h6, hU =>
      obtain ⟨hj, hoU, hs⟩ := hU U rfl
      rw [if_pos (nI_lt hj (by omega))]
      simp only [pm_cl_some, Option.toList_some, Option.toList_none, List.cons_append, List.nil_append]
      rw [sg_X4_readUnit_34, if_neg n10, nI_add]
      have ha := hs 2 (skp b n p + 1) m s (by omega) (by omega)
      have hk := hoU (skp b n p + 1) (by omega)
      match U (skp b n p + 1), ha, hk with
      | .inl f, ha, hk =>
        obtain ⟨p', m', s', h1, h2, h3⟩ := ha
        rw [h3]
        simp only [pm_cl_some, Option.toList_some, Option.toList_none, List.cons_append, List.nil_append]
        obtain ⟨m2, s2, h4, h5⟩ := q_wrF (d + 3) (σ := σ) (p := p') (f := nI f) (v := -33) (s := s') h2
        rw [sg_X4_readUnit_45, h5]
        simp only [pm_cl_some, Option.toList_some, Option.toList_none, List.cons_append, List.nil_append]
        rw [sg_X4_readUnit_51]
        exact ⟨p', m2, s2, h1, h4, rfl⟩
      | .inr (c, v, q), ha, hk =>
        have ha : _ = _ := ha
        obtain ⟨⟨b1, b2, b3⟩, -⟩ := hk
        rw [ha]
        simp only [pm_cl_some, Option.toList_some, Option.toList_none, List.cons_append, List.nil_append]
        rw [sg_X4_readUnit_45, q_wr (d + 3) (by omega)]
        simp only [pm_cl_some, Option.toList_some, Option.toList_none, List.cons_append, List.nil_append]
        rw [sg_X4_readUnit_51]
        show _ = _
        rw [pts_app, List.length_append]
        rfl
  · rw [if_neg t33, if_neg t33]
    by_cases t40 : tk b n p = 40
    · have hlt := tk_lt (b := b) (n := n) (p := p) (by omega)
      rw [if_pos t40, if_pos t40, en_X4_goesDeeper, sg_X4_goesDeeper_0, lx_12, nI_add, lx_p]
      match low, h6, hU with
      | none, h6, hU =>
        rw [h6 rfl, if_neg (show ¬ nI 6 < nI 6 from by decide), q_fa0]
        simp only [pm_cl_some, Option.toList_some, Option.toList_none, List.cons_append, List.nil_append]
        rw [sg_X4_goesDeeper_20]
        simp only [pm_cl_some, Option.toList_some, Option.toList_none, List.cons_append, List.nil_append]
        rw [sg_X4_readUnit_69, if_pos n00]
        exact ⟨skp b n p, m, s, by omega, by omega, rfl⟩
      | some U, h6, hU =>
        obtain ⟨hj, hoU, hs⟩ := hU U rfl
        rw [if_pos (nI_lt hj (by omega))]
        simp only [pm_cl_some, Option.toList_some, Option.toList_none, List.cons_append, List.nil_append]
        rw [sg_X4_readUnit_69, if_neg n10, nI_add]
        have ha := q_cond d (lv := nI (j + 1)) (bg := nI 0) h hoU (hs 0) (hs 0 (skp b n p + 1) m s (by omega) (by omega)) (hoU _ (by omega)) (show m ≤ skp b n p + 1 by omega)
        have hk := pCo_ok (b := b) hoU (hoU (skp b n p + 1) (by omega))
        match pCo b n U (U (skp b n p + 1)), ha, hk with
        | .inl f, ha, hk =>
          obtain ⟨p', m', s', h1, h2, h3⟩ := ha
          rw [h3]
          simp only [pm_cl_some, Option.toList_some, Option.toList_none, List.cons_append, List.nil_append]
          obtain ⟨p2, h4, h5⟩ := q_exF (d + 2) (m := m') (s := s') h h1 (show f ≤ n from hk) (show 41 ≠ 0 by omega) (by omega)
          rw [sg_X4_readUnit_80, h5]
          simp only [pm_cl_some, Option.toList_some, Option.toList_none, List.cons_append, List.nil_append]
          rw [sg_X4_readUnit_89]
          exact ⟨p2, m', s', h4, h2, rfl⟩
        | .inr (c, v, q), ha, hk =>
          have ha : _ = _ := ha
          obtain ⟨⟨b1, b2, b3⟩, -⟩ := hk
          rw [ha]
          simp only [pm_cl_some, Option.toList_some, Option.toList_none, List.cons_append, List.nil_append]
          rw [sg_X4_readUnit_80]
          by_cases t41 : tk b n q = 41
          · rw [q_exy (d + 2) h b2 t41]
            simp only [pm_cl_some, Option.toList_some, Option.toList_none, List.cons_append, List.nil_append]
            rw [sg_X4_readUnit_89]
            simp only [t41, if_true]
            rfl
          · rw [q_exn (d + 2) h b2 (by omega) t41]
            simp only [pm_cl_some, Option.toList_some, Option.toList_none, List.cons_append, List.nil_append]
            rw [sg_X4_readUnit_89]
            simp only [t41, if_false]
            exact ⟨skp b n q, _, _, skp_le b b2, by omega, rfl⟩
    · rw [if_neg t40, if_neg t40]
      have ha := q_cmp (d + 1) (s := s) h hok hS (skp_le b hp) (show m ≤ skp b n p by omega)
      match pCmp b n S (skp b n p), ha with
      | .inl f, ha =>
        obtain ⟨p', m', s', h1, h2, h3⟩ := ha
        rw [h3]
        simp only [pm_cl_some, Option.toList_some, Option.toList_none, List.cons_append, List.nil_append]
        rw [sg_X4_readUnit_98]
        exact ⟨p', m', s', h1, h2, rfl⟩
      | .inr (c, v, q), ha =>
        have ha : _ = _ := ha
        rw [ha]
        simp only [pm_cl_some, Option.toList_some, Option.toList_none, List.cons_append, List.nil_append]
        rw [sg_X4_readUnit_98]
        rfl
theorem q_Un {b : Nat → Nat} {n : Nat} {σ : pm_H} (h : tpX b n σ) : ∀ (l : Nat), l ≤ 6 → ∀ (d p m : Nat) (s : Nat → Int32), p ≤ n → m ≤ p → spX σ n m s (pUn b n l p) (xe (d + 3 * l + 9) 66 [.ref 10, .int (nI (6 - l)), .int (nI 0)] (lx σ p (-1) m s))
  | 0, _, d, p, m, s, hp, hm => q_unit (kk := 3) (k2 := 0) (d + 4) h (pS_ok 0) (fun p m s hp hm => q_Sm h (by omega) d p m s hp hm) (fun _ => rfl) (fun _ e => by cases e) p m s hp hm
  | l + 1, hl, d, p, m, s, hp, hm => by
    rw [show d + 3 * (l + 1) + 9 = (d + 3 * l + 7) + 5 by omega]
    refine q_unit (kk := 2 * (l + 1) + 3) (k2 := 2 * l + 4) (d + 3 * l + 7) h (pS_ok (l + 1)) (fun p m s hp hm => ?_) (fun e => by cases e) (fun U e => ?_) p m s hp hm
    · rw [show d + 3 * l + 7 + 3 = d + 3 * (l + 1) + 7 by omega]
      exact q_Sm h hl d p m s hp hm
    · cases e
      refine ⟨by omega, pUn_ok l, fun e p m s hp hm => ?_⟩
      rw [show 6 - (l + 1) + 1 = 6 - l by omega, show d + 3 * l + 7 + e + 2 = (d + e) + 3 * l + 9 by omega]
      exact q_Un h l (by omega) (d + e) p m s hp hm
theorem pCmpR_skp {b : Nat → Nat} {n q : Nat} {S : Nat → PV Int32} {c : List Int32} {v : LV → Int32} : pCmpR b n S c v (skp b n q) = pCmpR b n S c v q := by
  unfold pCmpR
  rw [tk_skp, skp_skp]
/-- a unit whose first sum was read already -/
theorem q_unitB (d : Nat) {b : Nat → Nat} {n kk m0 q : Nat} {lv : Int32} {σ : pm_H} {s : Nat → Int32} {S : Nat → PV Int32} (h : tpX b n σ) (hok : ∀ p, p ≤ n → okV idI n kk p (S p)) (hS : ∀ p m s, p ≤ n → m ≤ p → spX σ n m s (S p) (xe (d + 2) 58 [.ref 10, .int lv] (lx σ p (-1) m s))) (c : List Int32) (v : LV → Int32) (hq : q ≤ n) (hm : m0 + c.length ≤ q) : spX σ n m0 s (pCmpR b n S c v q) (xe (d + 4) 66 [.ref 10, .int lv, .int (nI 1)] (lx σ q (-1) (m0 + c.length) (pts s m0 c))) := by
  have hsk := skp_ge b n q
  rw [en_X4_readUnit, sg_X4_readUnit_0, q_lk (d + 2) h hq]
  simp only [pm_cl_some, Option.toList_some, Option.toList_none, List.cons_append, List.nil_append]
  rw [sg_X4_readUnit_7, q_fl0]
  simp only [pm_cl_some, Option.toList_some, Option.toList_none, List.cons_append, List.nil_append]
  rw [sg_X4_readUnit_15, if_pos n00, if_neg n10, if_neg n10, en_X4_readComparison, sg_X4_readComparison_0, if_neg n10]
  have ha := q_cmR d (l2 := nI 1) (s := s) h hok hS c v (skp_le b hq) (show m0 + c.length ≤ skp b n q by omega)
  rw [pCmpR_skp] at ha
  match pCmpR b n S c v q, ha with
  | .inl f, ha =>
    obtain ⟨p', m', s', h1, h2, h3⟩ := ha
    rw [h3]
    simp only [pm_cl_some, Option.toList_some, Option.toList_none, List.cons_append, List.nil_append]
    rw [sg_X4_readUnit_98]
    exact ⟨p', m', s', h1, h2, rfl⟩
  | .inr (c, v, q), ha =>
    have ha : _ = _ := ha
    rw [ha]
    simp only [pm_cl_some, Option.toList_some, Option.toList_none, List.cons_append, List.nil_append]
    rw [sg_X4_readUnit_98]
    rfl
/-! clauses -/
theorem q_cl78F (d : Nat) {b : Nat → Nat} {n p m g : Nat} {l1 l2 : Int32} {σ : pm_H} {s : Nat → Int32} (h : tpX b n σ) (hp : p ≤ n) (hg : g ≤ n) (hm : m ≤ 240) : FX σ n g (pm_run (xe (d + 4)) pg_X4_readClause (78, [.ref 10, .int l1, .int l2], [], lx σ p (nI g) m s)) := by
  obtain ⟨p1, h1, e1⟩ := q_exF (d + 2) (m := m) (s := s) h hp hg (show 63 ≠ 0 by omega) (by omega)
  rw [sg_X4_readClause_78, e1]
  simp only [pm_cl_some, Option.toList_some, Option.toList_none, List.cons_append, List.nil_append]
  obtain ⟨m2, s2, h2, e2⟩ := q_wrF (d + 3) (σ := σ) (p := p1) (f := nI g) (v := -63) (s := s) hm
  rw [sg_X4_readClause_87, e2]
  simp only [pm_cl_some, Option.toList_some, Option.toList_none, List.cons_append, List.nil_append]
  obtain ⟨p3, m3, s3, h3, h3', e3⟩ := q_sumFF d (lv := nI 0) (s := s2) h h1 hg h2
  rw [sg_X4_readClause_93, e3]
  simp only [pm_cl_some, Option.toList_some, Option.toList_none, List.cons_append, List.nil_append]
  obtain ⟨m4, s4, h4, e4⟩ := q_wrF (d + 3) (σ := σ) (p := p3) (f := nI g) (v := -59) (s := s3) h3'
  rw [sg_X4_readClause_98, e4]
  simp only [pm_cl_some, Option.toList_some, Option.toList_none, List.cons_append, List.nil_append]
  rw [sg_X4_readClause_104]
  exact ⟨p3, m4, s4, h3, h4, rfl⟩
theorem q_cl69F (d : Nat) {b : Nat → Nat} {n p m g : Nat} {l1 l2 : Int32} {σ : pm_H} {s : Nat → Int32} (w : Bool) (h : tpX b n σ) (hp : p ≤ n) (hg : g ≤ n) (hm : m ≤ 240) : FX σ n g (pm_run (xe (d + 4)) pg_X4_readClause (69, [.ref 10, .int l1, .int l2], [.int (b32 w)], lx σ p (nI g) m s)) := by
  rw [sg_X4_readClause_69]
  cases w
  · rw [if_pos bf0]
    obtain ⟨m4, s4, h4, e4⟩ := q_wrF (d + 3) (σ := σ) (p := p) (f := nI g) (v := -59) (s := s) hm
    rw [e4]
    simp only [pm_cl_some, Option.toList_some, Option.toList_none, List.cons_append, List.nil_append]
    rw [sg_X4_readClause_104]
    exact ⟨p, m4, s4, hp, h4, rfl⟩
  · rw [if_neg bt0]
    obtain ⟨p3, m3, s3, h3, h3', e3⟩ := q_coFF d (lv := nI 0) (bg := l2) (s := s) h hp hg hm
    rw [e3]
    simp only [pm_cl_some, Option.toList_some, Option.toList_none, List.cons_append, List.nil_append]
    exact q_cl78F d h h3 hg h3'
theorem q_cl53F (d : Nat) {b : Nat → Nat} {n p m g : Nat} {l1 : Int32} {σ : pm_H} {s : Nat → Int32} (h : tpX b n σ) (hp : p ≤ n) (hg : g ≤ n) (hm : m ≤ 240) : FX σ n g (pm_run (xe (d + 4)) pg_X4_readClause (53, [.ref 10, .int l1, .int (nI 1)], [], lx σ p (nI g) m s)) := by
  rw [sg_X4_readClause_53, q_lk (d + 3) h hp]
  simp only [pm_cl_some, Option.toList_some, Option.toList_none, List.cons_append, List.nil_append]
  rw [sg_X4_readClause_60, if_neg n10, q_isC (d + 3) (tk_le (p := p) (tpX_b h))]
  simp only [pm_cl_some, Option.toList_some, Option.toList_none, List.cons_append, List.nil_append]
  exact q_cl69F d _ h (skp_le b hp) hg hm
theorem q_cl18F (d : Nat) {b : Nat → Nat} {n p m g : Nat} {σ : pm_H} {s : Nat → Int32} (h : tpX b n σ) (hp : p ≤ n) (hg : g ≤ n) (hm : m ≤ 240) : FX σ n g (pm_run (xe (d + 4)) pg_X4_readClause (18, [.ref 10, .null, .null], [], lx σ p (nI g) m s)) := by
  rw [sg_X4_readClause_18, q_lk (d + 3) h hp]
  simp only [pm_cl_some, Option.toList_some, Option.toList_none, List.cons_append, List.nil_append]
  have ht := tk_le (p := p) (tpX_b h)
  obtain ⟨p3, m3, s3, h3, h3', e3⟩ := q_coFF d (lv := nI 0) (bg := nI 0) (s := s) h (skp_le b hp) hg hm
  obtain ⟨p5, m5, s5, h5, h5', e5⟩ := q_sumFF d (lv := nI 0) (s := s) h (skp_le b hp) hg hm
  rw [sg_X4_readClause_25]
  simp only [if_pos n00, if_neg n10]
  split
  · rw [e3]
    simp only [pm_cl_some, Option.toList_some, Option.toList_none, List.cons_append, List.nil_append]
    exact q_cl78F d h h3 hg h3'
  · split
    · rw [e3]
      simp only [pm_cl_some, Option.toList_some, Option.toList_none, List.cons_append, List.nil_append]
      exact q_cl78F d h h3 hg h3'
    · rw [e5]
      simp only [pm_cl_some, Option.toList_some, Option.toList_none, List.cons_append, List.nil_append]
      exact q_cl53F d h h5 hg h5'
theorem q_clF (d : Nat) {b : Nat → Nat} {n p m g : Nat} {σ : pm_H} {s : Nat → Int32} (h : tpX b n σ) (hp : p ≤ n) (hg : g ≤ n) (hm : m ≤ 240) : FX σ n g (xe (d + 5) 57 [.ref 10] (lx σ p (nI g) m s)) := by
  obtain ⟨p1, h1, e1⟩ := q_exF (d + 2) (m := m) (s := s) h hp hg (show 121 ≠ 0 by omega) (by omega)
  rw [en_X4_readClause, sg_X4_readClause_0, e1]
  simp only [pm_cl_some, Option.toList_some, Option.toList_none, List.cons_append, List.nil_append]
  obtain ⟨p2, h2, e2⟩ := q_exF (d + 2) (m := m) (s := s) h h1 hg (show 58 ≠ 0 by omega) (by omega)
  rw [sg_X4_readClause_9, e2]
  simp only [pm_cl_some, Option.toList_some, Option.toList_none, List.cons_append, List.nil_append]
  exact q_cl18F d h h2 hg hm
theorem q_pQ (d : Nat) {b : Nat → Nat} {n kk p m : Nat} {l1 l2 : Int32} {σ : pm_H} {s : Nat → Int32} (h : tpX b n σ) {r : PV Bool} {o : Option pm_R} (hr : spX σ n m s r o) (hk : okV b32 n kk p r) (hm : m + 1 ≤ p) : spX σ n m s (pQ b n r) (pm_cl o (fun r => pm_run (xe (d + 29)) pg_X4_readClause (78, [.ref 10, .int l1, .int l2], r.1.toList ++ [], r.2))) := by
  have hn := h.1
  unfold pQ
  match r, hr, hk with
  | .inl f, ha, hk =>
    obtain ⟨p', m', s', h1, h2, h3⟩ := ha
    rw [h3]
    simp only [pm_cl_some, Option.toList_some, Option.toList_none, List.cons_append, List.nil_append]
    exact q_cl78F (d + 25) h h1 hk h2
  | .inr (c, v, q), ha, hk =>
    have ha : _ = _ := ha
    obtain ⟨⟨b1, b2, b3⟩, -⟩ := hk
    have hsk := skp_ge b n q
    rw [ha]
    simp only [pm_cl_some, Option.toList_some, Option.toList_none, List.cons_append, List.nil_append]
    rw [sg_X4_readClause_78]
    by_cases t63 : tk b n q = 63
    · have hlt := tk_lt (b := b) (n := n) (p := q) (by omega)
      rw [q_exy (d + 27) h b2 t63]
      simp only [pm_cl_some, Option.toList_some, Option.toList_none, List.cons_append, List.nil_append]
      rw [sg_X4_readClause_87, q_wr (d + 28) (by omega)]
      simp only [pm_cl_some, Option.toList_some, Option.toList_none, List.cons_append, List.nil_append]
      rw [sg_X4_readClause_93]
      simp only [t63, if_true]
      have hs := q_Sm h (show 6 ≤ 6 by omega) (d + 4) (skp b n q + 1) (m + c.length + 1) (upd (pts s m c) (m + c.length) (-63)) (by omega) (by omega)
      have hk2 := pS_ok (b := b) (n := n) 6 (skp b n q + 1) (by omega)
      match pSum b n (pAt b n 6) (skp b n q + 1), hs, hk2 with
      | .inl f, hs, hk2 =>
        obtain ⟨p', m', s', h1, h2, h3⟩ := hs
        rw [h3]
        simp only [pm_cl_some, Option.toList_some, Option.toList_none, List.cons_append, List.nil_append]
        obtain ⟨m4, s4, h4, e4⟩ := q_wrF (d + 28) (σ := σ) (p := p') (f := nI f) (v := -59) (s := s') h2
        rw [sg_X4_readClause_98, e4]
        simp only [pm_cl_some, Option.toList_some, Option.toList_none, List.cons_append, List.nil_append]
        rw [sg_X4_readClause_104]
        exact ⟨p', m4, s4, h1, h4, rfl⟩
      | .inr (c2, v2, q2), hs, hk2 =>
        have hs : _ = _ := hs
        obtain ⟨⟨d1, d2, d3⟩, -⟩ := hk2
        rw [hs]
        simp only [pm_cl_some, Option.toList_some, Option.toList_none, List.cons_append, List.nil_append]
        rw [sg_X4_readClause_98, q_wr (d + 28) (by omega)]
        simp only [pm_cl_some, Option.toList_some, Option.toList_none, List.cons_append, List.nil_append]
        rw [sg_X4_readClause_104]
        show _ = _
        rw [pts_app, pts_app, pts_app]
        simp only [List.length_append, List.length_cons, List.length_nil, pts]
        rw [show m + (c.length + (0 + 1) + c2.length + (0 + 1)) = m + c.length + 1 + c2.length + 1 by omega, show m + (c.length + (0 + 1) + c2.length) = m + c.length + 1 + c2.length by omega, show m + (c.length + (0 + 1)) = m + c.length + 1 by omega]
    · rw [q_exn (d + 27) h b2 (by omega) t63]
      simp only [pm_cl_some, Option.toList_some, Option.toList_none, List.cons_append, List.nil_append]
      simp only [t63, if_false]
      have := q_cl78F
      obtain ⟨m2, s2, h2, e2⟩ := q_wrF (d + 28) (σ := σ) (p := skp b n q) (f := nI (skp b n q)) (v := -63) (s := pts s m c) (show m + c.length ≤ 240 by omega)
      rw [sg_X4_readClause_87, e2]
      simp only [pm_cl_some, Option.toList_some, Option.toList_none, List.cons_append, List.nil_append]
      obtain ⟨p3, m3, s3, h3, h3', e3⟩ := q_sumFF (d + 25) (lv := nI 0) (s := s2) h (skp_le b b2) (skp_le b b2) h2
      rw [sg_X4_readClause_93, e3]
      simp only [pm_cl_some, Option.toList_some, Option.toList_none, List.cons_append, List.nil_append]
      obtain ⟨m4, s4, h4, e4⟩ := q_wrF (d + 28) (σ := σ) (p := p3) (f := nI (skp b n q)) (v := -59) (s := s3) h3'
      rw [sg_X4_readClause_98, e4]
      simp only [pm_cl_some, Option.toList_some, Option.toList_none, List.cons_append, List.nil_append]
      rw [sg_X4_readClause_104]
      exact ⟨p3, m4, s4, h3, h4, rfl⟩
theorem q_body (d : Nat) {b : Nat → Nat} {n r m : Nat} {σ : pm_H} {s : Nat → Int32} (h : tpX b n σ) (hr : r ≤ n) (hm : m + 1 ≤ r) : spX σ n m s (pBody b n r) (pm_run (xe (d + 29)) pg_X4_readClause (18, [.ref 10, .null, .null], [], lx σ r (-1) m s)) := by
  have hn := h.1
  have hsk := skp_ge b n r
  have ht := tk_le (p := r) (tpX_b h)
  have hU : ∀ p m s, p ≤ n → m ≤ p → spX σ n m s (pUn b n 6 p) (xe (d + 25 + 2) 66 [.ref 10, .int (nI 0), .int (nI 0)] (lx σ p (-1) m s)) := fun p m s hp hm => q_Un h 6 (by omega) d p m s hp hm
  rw [sg_X4_readClause_18, q_lk (d + 28) h hr]
  simp only [pm_cl_some, Option.toList_some, Option.toList_none, List.cons_append, List.nil_append]
  rw [sg_X4_readClause_25]
  unfold pBody
  by_cases t0 : tk b n r = 33 ∨ tk b n r = 40
  · rw [if_pos t0]
    have ha := q_cond (d + 25) (lv := nI 0) (bg := nI 0) h (pUn_ok 6) hU (hU (skp b n r) m s (skp_le b hr) (by omega)) (pUn_ok 6 _ (skp_le b hr)) (show m ≤ skp b n r by omega)
    have hk := pCo_ok (b := b) (U := pUn b n 6) (pUn_ok 6) (pUn_ok (b := b) (n := n) 6 (skp b n r) (skp_le b hr))
    have hq := fun l1 l2 => q_pQ d (l1 := l1) (l2 := l2) h ha hk (show m + 1 ≤ skp b n r by omega)
    rcases t0 with t0 | t0
    · rw [t0, if_pos rfl]
      simp only [if_pos n00]
      exact hq _ _
    · rw [t0, if_neg (by decide), if_pos rfl]
      simp only [if_pos n00]
      exact hq _ _
  · rw [if_neg t0, if_neg (fun e => t0 (Or.inl ((nI_eq (by omega) (by omega)).mp e))), if_neg (fun e => t0 (Or.inr ((nI_eq (by omega) (by omega)).mp e))), if_neg n10]
    have hs := q_Sm h (show 6 ≤ 6 by omega) (d + 4) (skp b n r) m s (skp_le b hr) (by omega)
    have hk2 := pS_ok (b := b) (n := n) 6 (skp b n r) (skp_le b hr)
    match pSum b n (pAt b n 6) (skp b n r), hs, hk2 with
    | .inl f, hs, hk2 =>
      obtain ⟨p', m', s', h1, h2, h3⟩ := hs
      rw [h3]
      simp only [pm_cl_some, Option.toList_some, Option.toList_none, List.cons_append, List.nil_append]
      exact q_cl53F (d + 25) h h1 hk2 h2
    | .inr (c, v, q), hs, hk2 =>
      have hs : _ = _ := hs
      obtain ⟨⟨d1, d2, d3⟩, d4⟩ := hk2
      rw [hs]
      simp only [pm_cl_some, Option.toList_some, Option.toList_none, List.cons_append, List.nil_append]
      have hsq := skp_ge b n q
      rw [sg_X4_readClause_53, q_lk (d + 28) h d2]
      simp only [pm_cl_some, Option.toList_some, Option.toList_none, List.cons_append, List.nil_append]
      rw [sg_X4_readClause_60, if_neg n10, q_isC (d + 28) (tk_le (p := q) (tpX_b h))]
      simp only [pm_cl_some, Option.toList_some, Option.toList_none, List.cons_append, List.nil_append]
      rw [sg_X4_readClause_69]
      cases hc : isS (tk b n q) with
      | false =>
        rw [if_pos bf0, q_wr (d + 28) (by omega)]
        simp only [pm_cl_some, Option.toList_some, Option.toList_none, List.cons_append, List.nil_append]
        rw [sg_X4_readClause_104, if_neg (show ¬ (false = true) by decide)]
        show _ = _
        rw [pts_app]
        simp only [List.length_append, List.length_cons, List.length_nil, pts]
        rfl
      | true =>
        rw [if_neg bt0, if_pos (show true = true from rfl)]
        have hB := q_unitB (d + 23) (lv := nI 0) (s := s) h (pS_ok 6) (fun p m s hp hm => q_Sm h (show 6 ≤ 6 by omega) d p m s hp hm) c v (skp_le b d2) (show m + c.length ≤ skp b n q by omega)
        rw [pCmpR_skp] at hB
        have hkB := pCmpR_ok (b := b) (S := pSum b n (pAt b n 6)) (pS_ok 6) (c := c) (v := v) (q := q) (p := skp b n r) ⟨⟨d1, d2, d3⟩, d4⟩
        have ha := q_cond (d + 25) (lv := nI 0) (bg := nI 1) (kk := 16) h (pUn_ok 6) hU hB (okV_mono hkB (by omega)) (show m ≤ skp b n r by omega)
        have hk := pCo_ok (b := b) (U := pUn b n 6) (k := 16) (pUn_ok 6) (okV_mono hkB (by omega))
        exact q_pQ d h ha hk (show m + 1 ≤ skp b n r by omega)
theorem q_clause (d : Nat) {b : Nat → Nat} {n p m : Nat} {σ : pm_H} {s : Nat → Int32} (h : tpX b n σ) (hp : p ≤ n) (hm : m ≤ p) : spX σ n m s (pClause b n p) (xe (d + 30) 57 [.ref 10] (lx σ p (-1) m s)) := by
  have hn := h.1
  have hsk := skp_ge b n p
  rw [en_X4_readClause, sg_X4_readClause_0]
  unfold pClause
  by_cases t1 : tk b n p = 121
  · have hlt := tk_lt (b := b) (n := n) (p := p) (by omega)
    rw [if_pos t1, q_exy (d + 27) h hp t1]
    simp only [pm_cl_some, Option.toList_some, Option.toList_none, List.cons_append, List.nil_append]
    rw [sg_X4_readClause_9]
    by_cases t2 : tk b n (skp b n p + 1) = 58
    · have hlt2 := tk_lt (b := b) (n := n) (p := skp b n p + 1) (by omega)
      have hsk2 := skp_ge b n (skp b n p + 1)
      rw [if_pos t2, q_exy (d + 27) h (by omega) t2]
      simp only [pm_cl_some, Option.toList_some, Option.toList_none, List.cons_append, List.nil_append]
      exact q_body d h (by omega) (by omega)
    · rw [if_neg t2, q_exn (d + 27) h (by omega) (by omega) t2]
      simp only [pm_cl_some, Option.toList_some, Option.toList_none, List.cons_append, List.nil_append]
      exact q_cl18F (d + 25) h (skp_le b (by omega)) (skp_le b (by omega)) (by omega)
  · rw [if_neg t1, q_exn (d + 27) h hp (by omega) t1]
    simp only [pm_cl_some, Option.toList_some, Option.toList_none, List.cons_append, List.nil_append]
    obtain ⟨p2, h2, e2⟩ := q_exF (d + 27) (m := m) (s := s) h (skp_le b hp) (skp_le b hp) (show 58 ≠ 0 by omega) (by omega)
    rw [sg_X4_readClause_9, e2]
    simp only [pm_cl_some, Option.toList_some, Option.toList_none, List.cons_append, List.nil_append]
    exact q_cl18F (d + 25) h h2 (skp_le b hp) (by omega)
/-- what read answers -/
def spR (σ : pm_H) (n : Nat) (s : Nat → Int32) (r : PV (Option Int32)) (o : Option pm_R) : Prop := match r with
  | .inl f => ∃ p m s', p ≤ n ∧ m ≤ 240 ∧ o = some (some (.int (nI f)), lx σ p (nI f) m s')
  | .inr (c, _, q) => o = some (some (.int (-1)), lx σ q (-1) c.length (pts s 0 c))
theorem q_rdF (d : Nat) {b : Nat → Nat} {n p m g : Nat} {l1 : Int32} {σ : pm_H} {s : Nat → Int32} (h : tpX b n σ) (hp : p ≤ n) (hg : g ≤ n) (hm : m ≤ 240) : ∃ p' m' s', p' ≤ n ∧ m' ≤ 240 ∧ pm_run (xe (d + 5)) pg_X4_read (14, [.ref 10, .int l1], [], lx σ p (nI g) m s) = some (some (.int (nI g)), lx σ p' (nI g) m' s') := by
  have hn := h.1
  rw [sg_X4_read_14]
  by_cases c : l1 < nI 240
  · rw [if_pos c]
    obtain ⟨p3, m3, s3, h3, h3', e3⟩ := q_clF d (s := s) h hp hg hm
    rw [e3]
    simp only [pm_cl_some, Option.toList_some, Option.toList_none, List.cons_append, List.nil_append]
    rw [sg_X4_read_25, q_fl1 _ (by omega)]
    simp only [pm_cl_some, Option.toList_some, Option.toList_none, List.cons_append, List.nil_append]
    rw [sg_X4_read_32, if_neg n10, lx_13]
    exact ⟨p3, m3, s3, h3, h3', rfl⟩
  · rw [if_neg c, lx_13]
    exact ⟨p, m, s, hp, hm, rfl⟩
theorem q_rd_l (d : Nat) {b : Nat → Nat} {n : Nat} {σ : pm_H} {s : Nat → Int32} (h : tpX b n σ) : ∀ (M k : Nat) (c : List Int32) (v : LV → Option Int32) (q : Nat), M + k = 241 → 2 * k < q → q ≤ n → c.length ≤ q → spR σ n s (pLw b n M c v q) (pm_run (xe (d + 30)) pg_X4_read (25, [.ref 10, .int (nI k)], [], lx σ q (-1) c.length (pts s 0 c)))
  | 0, k, c, v, q, e, hk, hq, hm => by have := h.1; omega
  | M + 1, k, c, v, q, e, hk, hq, hm => by
    have hn := h.1
    have hsk := skp_ge b n q
    have ht := tk_le (p := q) (tpX_b h)
    rw [sg_X4_read_25, q_fl0]
    simp only [pm_cl_some, Option.toList_some, Option.toList_none, List.cons_append, List.nil_append]
    rw [sg_X4_read_32, if_pos n00, q_lk (d + 29) h hq]
    simp only [pm_cl_some, Option.toList_some, Option.toList_none, List.cons_append, List.nil_append]
    rw [sg_X4_read_42]
    unfold pLw
    by_cases t0 : tk b n q = 0
    · rw [t0, if_pos n00, if_neg (by decide), if_neg (by have := tk_0 (tpX_b h) t0; omega), lx_13]
      rfl
    · have hlt := tk_lt t0
      rw [if_neg (nI_ne0 (by omega) (by omega))]
      have e0 : tk b n (skp b n q) = tk b n q := tk_skp b n q
      by_cases t59 : tk b n q = 59
      · rw [if_pos t59, q_exy (d + 28) h (skp_le b hq) (by rw [e0]; exact t59), skp_skp]
        simp only [pm_cl_some, Option.toList_some, Option.toList_none, List.cons_append, List.nil_append]
        rw [sg_X4_read_57, nI_add, sg_X4_read_14, if_pos (nI_lt (by omega) (by omega))]
        have ha := q_clause d (s := pts s 0 c) h (show skp b n q + 1 ≤ n by omega) (show c.length ≤ skp b n q + 1 by omega)
        have hk2 := pClause_ok (b := b) (n := n) (p := skp b n q + 1) (by omega)
        match pClause b n (skp b n q + 1), ha, hk2 with
        | .inl f, ha, hk2 =>
          obtain ⟨p3, m3, s3, h3, h3', e3⟩ := ha
          have hf : f ≤ n := hk2
          rw [e3]
          simp only [pm_cl_some, Option.toList_some, Option.toList_none, List.cons_append, List.nil_append]
          rw [sg_X4_read_25, q_fl1 _ (by omega)]
          simp only [pm_cl_some, Option.toList_some, Option.toList_none, List.cons_append, List.nil_append]
          rw [sg_X4_read_32, if_neg n10, lx_13]
          exact ⟨p3, m3, s3, h3, h3', rfl⟩
        | .inr (c2, v2, q2), ha, hk2 =>
          have ha : _ = _ := ha
          obtain ⟨⟨d1, d2, d3⟩, -⟩ := hk2
          rw [ha]
          simp only [pm_cl_some, Option.toList_some, Option.toList_none, List.cons_append, List.nil_append]
          have := q_rd_l d (s := s) h M (k + 1) (c ++ c2) (fun L => (v L).or (v2 L)) q2 (by omega) (by omega) d2 (by simp only [List.length_append]; omega)
          rw [pts_app, List.length_append, Nat.zero_add] at this
          exact this
      · rw [if_neg t59, if_pos hlt, q_exn (d + 28) h (skp_le b hq) (by omega) (by rw [e0]; exact t59), skp_skp]
        simp only [pm_cl_some, Option.toList_some, Option.toList_none, List.cons_append, List.nil_append]
        rw [sg_X4_read_57]
        exact q_rdF (d + 25) h (skp_le b hq) (skp_le b hq) (by omega)
theorem lx_0 (σ : pm_H) : pm_wI (pm_wI (pm_wI σ 1 2 (nI 0)) 1 3 (-1)) 10 2 (nI 0) = lx σ 0 (-1) 0 (σ.1 11) := by
  rw [wI_wC, wI_wC, wI_wC]
  refine Prod.ext (funext fun q => ?_) rfl
  by_cases h : q = 10
  · subst h
    rw [wC_at, wC_ne _ _ (by decide), wC_ne _ _ (by decide)]
    rfl
  · rw [wC_ne _ _ h]
    by_cases h1 : q = 1
    · subst h1
      rw [wC_at, wC_at]
      rfl
    · rw [wC_ne _ _ h1, wC_ne _ _ h1]
      by_cases h2 : q = 11
      · subst h2
        rfl
      · simp only [lx, h, h1, h2, if_false]
theorem q_readLaw (d : Nat) {b : Nat → Nat} {n : Nat} {σ : pm_H} (h : tpX b n σ) : spR σ n (σ.1 11) (pLaw b n) (xe (d + 31) 56 [.ref 10] σ) := by
  have hn := h.1
  rw [en_X4_read, sg_X4_read_0, en_X10_start, sg_X10_start_0]
  simp only [pm_cl_some, Option.toList_some, Option.toList_none, List.cons_append, List.nil_append]
  rw [sg_X4_read_7, lx_0, sg_X4_read_14, if_pos (nI_lt (by omega) (by omega))]
  have ha := q_clause d (s := σ.1 11) h (show 0 ≤ n by omega) (show 0 ≤ 0 by omega)
  have hk2 := pClause_ok (b := b) (n := n) (p := 0) (by omega)
  unfold pLaw
  match pClause b n 0, ha, hk2 with
  | .inl f, ha, hk2 =>
    obtain ⟨p3, m3, s3, h3, h3', e3⟩ := ha
    have hf : f ≤ n := hk2
    rw [e3]
    simp only [pm_cl_some, Option.toList_some, Option.toList_none, List.cons_append, List.nil_append]
    rw [sg_X4_read_25, q_fl1 _ (by omega)]
    simp only [pm_cl_some, Option.toList_some, Option.toList_none, List.cons_append, List.nil_append]
    rw [sg_X4_read_32, if_neg n10, lx_13]
    exact ⟨p3, m3, s3, h3, h3', rfl⟩
  | .inr (c2, v2, q2), ha, hk2 =>
    have ha : _ = _ := ha
    obtain ⟨⟨d1, d2, d3⟩, -⟩ := hk2
    rw [ha]
    simp only [pm_cl_some, Option.toList_some, Option.toList_none, List.cons_append, List.nil_append]
    have := q_rd_l d (s := σ.1 11) h 241 0 c2 v2 q2 (by omega) (by omega) d2 (by omega)
    rw [Nat.zero_add]
    exact this

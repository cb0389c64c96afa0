/-! ===== rests: the reference, both ===== -/
def Gr (L : List Nat) (σ : pm_H) : Prop := σ.1 133 41 = nI L.length ∧ ∀ j, j < L.length → σ.1 151 j = nI (L.getD j 0)
theorem sameX_m (σ : pm_H) (v : Int32) : sameX σ (pm_wI σ 133 41 v) := ⟨sameB_m σ v (by decide), sameL_m σ v (by decide), sameO_m σ 41 v⟩
theorem r_ga_l (d : Nat) {k sz n a e : Nat} {T R F : Nat → Nat} {σ : pm_H} (h : RelB k sz T R n a e σ) (f1 : rp (σ.1 24) F) (f2 : okN k sz (R 1) F) : ∀ (m i : Nat) (L : List Nat) (σ' : pm_H), i + m = sz → sameX σ σ' → Gr L σ' → L.length ≤ i → ∃ σ2 b, pm_run (xe (d + 1)) pg_X12_isGame (7, [.ref 133, .int (nI i)], [], σ') = some (some (.int b), σ2) ∧ sameX σ σ2 ∧ ((b = nI 1 ∧ (σ.1 24 0 = nI 1 ∧ gokA (R 1) F (s_in (σ.1 5) (σ.1 24)) i m ∧ 0 < (L ++ pls (s_in (σ.1 5) (σ.1 24)) i m).length ∧ (L ++ pls (s_in (σ.1 5) (σ.1 24)) i m).length ≤ 3) ∧ Gr (L ++ pls (s_in (σ.1 5) (σ.1 24)) i m) σ2) ∨ (b = nI 0 ∧ ¬ (σ.1 24 0 = nI 1 ∧ gokA (R 1) F (s_in (σ.1 5) (σ.1 24)) i m ∧ 0 < (L ++ pls (s_in (σ.1 5) (σ.1 24)) i m).length ∧ (L ++ pls (s_in (σ.1 5) (σ.1 24)) i m).length ≤ 3)))
  | 0, i, L, σ', ei, s, g, hL => by
    have h3 := h.1.2.2.1
    have w66 : σ'.1 142 66 = σ.1 24 0 := by
      rw [s.1.1 142 rfl]
      exact h.2.1.1.2.2.1.1.1
    rw [sg_X12_isGame_7, s.1.2 22 (by omega), h.1.2.1, if_neg (nI_nlt (by omega) (by omega)), ck_n _ (by omega) (by omega), nI_clamp (by omega), w66, g.1]
    unfold pls
    rw [List.append_nil]
    by_cases c0 : σ.1 24 0 = nI 1
    · rw [if_pos c0]
      by_cases c : 0 < L.length
      · rw [if_pos (nI_gt0 c (by omega))]
        by_cases c4 : L.length < 4
        · exact ⟨σ', nI 1, by rw [if_pos (nI_lt c4 (by omega))], s, Or.inl ⟨rfl, ⟨c0, fun l h1 h2 _ => absurd h2 (by omega), c, by omega⟩, g⟩⟩
        · exact ⟨σ', nI 0, by rw [if_neg (nI_nlt (by omega) (by omega))], s, Or.inr ⟨rfl, fun q => by have := q.2.2.2; omega⟩⟩
      · refine ⟨σ', nI 0, ?_, s, Or.inr ⟨rfl, fun e => c e.2.2.1⟩⟩
        rw [show L.length = 0 by omega, if_neg (by decide)]
    · exact ⟨σ', nI 0, by rw [if_neg c0], s, Or.inr ⟨rfl, fun e => c0 e.1⟩⟩
  | m + 1, i, L, σ', ei, s, g, hL => by
    have hh := h
    obtain ⟨⟨h1, h2, h3, h4, h5, h6, h7⟩, ⟨h8, h9⟩, -⟩ := hh
    have hT := h5 (by omega)
    have hR1 := hT.2.2.1
    have hi6 : i < 6 := by omega
    have e140 := s.1.1 140 rfl
    have e142 := s.1.1 142 rfl
    rw [sg_X12_isGame_7, s.1.2 22 (by omega), h2, if_pos (nI_lt (by omega) (by omega)), r_isOn d σ' rw_now hi6, e140, e142, relM_in (t := σ.1 4) (T := T) (h7 1 (by omega)) h8 (show i < sz by omega)]
    simp only [pm_cl_some, Option.toList_some, Option.toList_none, List.cons_append, List.nil_append]
    rw [sg_X12_isGame_24, nI_add]
    cases hin : s_in (σ.1 5) (σ.1 24) i with
    | false =>
      rw [if_pos bf0]
      obtain ⟨σ2, b, i1, i2, i3⟩ := r_ga_l d h f1 f2 m (i + 1) L σ' (by omega) s g (by omega)
      refine ⟨σ2, b, i1, i2, ?_⟩
      have hg : gokA (R 1) F (s_in (σ.1 5) (σ.1 24)) i (m + 1) ↔ gokA (R 1) F (s_in (σ.1 5) (σ.1 24)) (i + 1) m := by
        constructor
        · intro q l l1 l2 l3
          exact q l (by omega) (by omega) l3
        · intro q l l1 l2 l3
          by_cases el : l = i
          · subst el
            rw [hin] at l3
            cases l3
          · exact q l (by omega) (by omega) l3
      rw [show pls (s_in (σ.1 5) (σ.1 24)) i (m + 1) = pls (s_in (σ.1 5) (σ.1 24)) (i + 1) m by show (if _ then _ else _) = _; rw [if_neg (by rw [hin]; decide)]]
      simp only [hg]
      exact i3
    | true =>
      have hok := (f2.2.2.2.2 i (by omega))
      unfold okL at hok
      have hpl : pls (s_in (σ.1 5) (σ.1 24)) i (m + 1) = i :: pls (s_in (σ.1 5) (σ.1 24)) (i + 1) m := by
        show (if _ then _ else _) = _
        rw [if_pos hin]
      rw [hpl, if_neg bt0, pk_mul, nI_add, ck_n _ (by omega) (by omega), ck_n _ (by omega) (by omega), nI_clamp (by omega), nI_clamp (by omega), e140, e142, (h8.2.2.1.2 i (by omega)).1.2.1, h7 1 (by omega), hT.2.1 1 (by omega), f1 (11 + i) (by omega) (by omega), pk_sub (by omega)]
      by_cases c1 : F (11 + i) = R 1 - 1
      · rw [if_pos (by rw [c1]), g.1, ck_n _ (by omega) (by omega), nI_clamp (by omega), wI_wC σ' 151, wC_ne _ _ (show (133 : Nat) ≠ 151 by decide), g.1, nI_add, sg_X12_isGame_74, nI_add]
        obtain ⟨σ2, b, i1, i2, i3⟩ := r_ga_l d h f1 f2 m (i + 1) (L ++ [i]) (pm_wI (pm_wC σ' 151 (upd (σ'.1 151) L.length (nI i))) 133 41 (nI (L.length + 1))) (by omega) (sameX_tr (sameX_w s _ ⟨rfl, rfl⟩ (by decide)) (sameX_m _ _)) (by
          refine ⟨by rw [wI_wC, wC_at, up_at, List.length_append]; rfl, fun j hj => ?_⟩
          rw [wI_wC, wC_ne _ _ (by decide), wC_at]
          rw [List.length_append] at hj
          have hj' : j < L.length + 1 := hj
          by_cases ej : j = L.length
          · subst ej
            rw [up_at, getD_snoc]
          · rw [up_ne _ _ ej, getD_app _ _ _ _ (by omega)]
            exact g.2 j (by omega)) (by rw [List.length_append]; show L.length + 1 ≤ i + 1; omega)
        refine ⟨σ2, b, i1, i2, ?_⟩
        have hg : gokA (R 1) F (s_in (σ.1 5) (σ.1 24)) i (m + 1) ↔ gokA (R 1) F (s_in (σ.1 5) (σ.1 24)) (i + 1) m := by
          constructor
          · intro q l l1 l2 l3
            exact q l (by omega) (by omega) l3
          · intro q l l1 l2 l3
            by_cases el : l = i
            · subst el
              omega
            · exact q l (by omega) (by omega) l3
        rw [List.append_assoc] at i3
        simp only [hg]
        exact i3
      · refine ⟨σ', nI 0, by rw [if_neg (fun e => c1 ((nI_eq (by omega) (by omega)).mp e))], s, Or.inr ⟨rfl, fun q => ?_⟩⟩
        have := q.2.1 i (Nat.le_refl _) (by omega) hin
        omega
theorem r_cho (d : Nat) {np k row : Nat} {σ : pm_H} (h : σ.1 133 41 = nI np) (hn : np ≤ 3) (hk : k < np) (hr : row < 64) : xe (d + 1) 247 [.ref 133, .int (nI row), .int (nI k)] σ = some (some (.int (nI (dig np row k))), σ) := by
  rw [en_X12_choiceOf, sg_X12_choiceOf_0, h]
  show some (some (Value.int ((nI row >>> (sft np k &&& 31)) &&& nI 3)), σ) = _
  rw [dig_d np (by omega) k hk row hr]
theorem r_fou (d : Nat) {np : Nat} {σ : pm_H} (hn : np ≤ 3) : xe (d + 1) 246 [.int (nI np)] σ = some (some (.int (nI (4 ^ np))), σ) := by
  rw [en_X12_fours, sg_X12_fours_0, fou_d np (by omega)]
theorem Gr_w {L : List Nat} {σ : pm_H} (g : Gr L σ) {c : Nat} (u : Nat → Int32) (h : c ≠ 133 ∧ c ≠ 151) : Gr L (pm_wC σ c u) := by
  refine ⟨by rw [wC_ne _ _ (by omega)]; exact g.1, fun j hj => ?_⟩
  rw [wC_ne _ _ (by omega)]
  exact g.2 j hj
theorem r_ask_l (d : Nat) {sz row : Nat} {f : Nat → Int32} {L : List Nat} {lo : Nat → Nat} {σ : pm_H} (hs : sz ≤ 6) (hp : okPl sz f L lo) (g : Gr L σ) (hw : relW sz f (σ.1 142)) (hr : row < 64) : ∀ (m k : Nat) (u : Nat → Int32), k + m = L.length → pm_run (xe (d + 1)) pg_X12_layGame (26, [.ref 133, .int (nI row), .int (nI k)], [], pm_wC σ 143 u) = pm_cl (xe (d + 1) 222 [.ref 133, .ref 143] (pm_wC σ 143 (asW L.length row lo L m k u))) (fun r => pm_run (xe (d + 1)) pg_X12_layGame (90, [.ref 133, .int (nI row), .int (nI L.length)], r.1.toList ++ [], r.2))
  | 0, k, u, e => by
    obtain ⟨p1, p2⟩ := hp
    rw [sg_X12_layGame_26, wC_ne _ _ (by decide), g.1, if_neg (nI_nlt (by omega) (by omega)), show k = L.length by omega]
    rfl
  | m + 1, k, u, e => by
    have hp' := hp
    obtain ⟨p1, p2⟩ := hp
    obtain ⟨a1, a2, a3, a4⟩ := p2 k (by omega)
    have gw := Gr_w g (c := 143) u (by omega)
    rw [sg_X12_layGame_26, gw.1, if_pos (nI_lt (by omega) (by omega)), ck_n _ (by omega) (by omega), ck_n _ (by omega) (by omega), nI_clamp (by omega), gw.2 k (by omega), r_least d _ rw_now (show L.getD k 0 < 6 by omega), wC_ne _ _ (show (142 : Nat) ≠ 143 by decide), least_eq hw a1, a4, pk_mul, nI_add]
    simp only [pm_cl_some, Option.toList_some, Option.toList_none, List.cons_append, List.nil_append]
    rw [sg_X12_layGame_65, r_cho d gw.1 p1 (by omega) hr]
    simp only [pm_cl_some, Option.toList_some, Option.toList_none, List.cons_append, List.nil_append]
    rw [sg_X12_layGame_71, ck_n _ (by omega) (by omega), nI_clamp (by omega), aw_d a3, wI_wC, wC_at, wC_wC, nI_add]
    exact r_ask_l d hs hp' g hw hr m (k + 1) _ (by omega)
theorem r_note_l (d : Nat) {sz row : Nat} {f : Nat → Int32} {L : List Nat} {lo : Nat → Nat} {M : Nat → Nat → Int32} {σ0 : pm_H} (hs : sz ≤ 6) (hp : okPl sz f L lo) (hr : row < 64) : ∀ (m k : Nat) (σ : pm_H), k + m = L.length → sameQ σ0 σ → Gr L σ → NT 152 M L.length row k σ → (∀ j, j < L.length → ((σ.2 149 (L.getD j 0)) / (1000000000 : Int64)).toInt32 = M row j) → ∃ σ2, pm_run (xe d) pg_X12_layGame (92, [.ref 133, .int (nI row), .int (nI k)], [], σ) = pm_run (xe d) pg_X12_layGame (2, [.ref 133, .int (nI (row + 1)), .int (nI L.length)], [], σ2) ∧ sameQ σ0 σ2 ∧ Gr L σ2 ∧ NT 152 M L.length (row + 1) 0 σ2 ∧ (σ2.2 = σ.2 ∧ ∀ c, c ≠ 152 → σ2.1 c = σ.1 c)
  | 0, k, σ, e, s, g, hn, hM => by
    obtain ⟨p1, p2⟩ := hp
    refine ⟨σ, ?_, s, g, NT_nx (by rw [show k = L.length by omega] at hn; exact hn), rfl, fun _ _ => rfl⟩
    rw [sg_X12_layGame_92, g.1, if_neg (nI_nlt (by omega) (by omega)), nI_add, show k = L.length by omega]
  | m + 1, k, σ, e, s, g, hn, hM => by
    have hp' := hp
    obtain ⟨p1, p2⟩ := hp
    obtain ⟨a1, a2, a3, a4⟩ := p2 k (by omega)
    rw [sg_X12_layGame_92, g.1, if_pos (nI_lt (by omega) (by omega)), ck_n _ (by omega) (by omega), nI_clamp (by omega), g.2 k (by omega), ck_n _ (by omega) (by omega), nI_clamp (by omega), hM k (by omega), pk_mul, nI_add, ck_n _ (by omega) (by omega), nI_clamp (by omega), wI_wC, nI_add, Nat.mul_comm 3 row]
    obtain ⟨σ2, i1, i2, i3, i4, i5, i6⟩ := r_note_l d (σ0 := σ0) hs hp' hr m (k + 1) (pm_wC σ 152 (upd (σ.1 152) (row * 3 + k) (M row k))) (by omega) (sameQ_tr s (sameQ_w _ _ ⟨rfl, rfl⟩ (by decide))) (Gr_w g _ (by decide)) (NT_up hn p1 (by omega)) hM
    exact ⟨σ2, i1, i2, i3, i4, i5, fun c hc => (i6 c hc).trans (wC_ne _ _ hc)⟩
theorem r_rows_l (d : Nat) {k sz n nl : Nat} {T R : Nat → Nat} {V : Nat → LV → Int32} {t r f : Nat → Int32} {lg : Nat → Nat → Int32} {o1 o2 : Int32} {σ : pm_H} {L : List Nat} {lo : Nat → Nat} (hk : k ≤ 5000) (hs : sz ≤ 6) (hT : okT sz t r T R) (hE : EnM sz nl V t r o1 o2 σ) (hM : relM k sz r (R 1) f lg (σ.1 142) n) (hp : okPl sz f L lo) (hlf : lft (R 1) sz r f ≤ 12) : ∀ (m row : Nat) (σ' : pm_H) (w2 : Value), row + m = 4 ^ L.length → sameQ σ σ' → DyM nl V σ' → Gr L σ' → NT 152 (rsM V o1 o2 sz t r f L lo) L.length row 0 σ' → ∃ σ2, pm_run (xe (d + 48)) pg_X12_layGame (2, [.ref 133, .int (nI row), w2], [], σ') = some (none, σ2) ∧ sameQ σ σ2 ∧ DyM nl V σ2 ∧ Gr L σ2 ∧ NT 152 (rsM V o1 o2 sz t r f L lo) L.length (4 ^ L.length) 0 σ2
  | 0, row, σ', w2, e, s, hD, g, hn => by
    have h64 := p4_64 L.length (by have := hp.1; omega)
    refine ⟨σ', ?_, s, hD, g, by rw [show row = 4 ^ L.length by omega] at hn; exact hn⟩
    rw [sg_X12_layGame_2, g.1, r_fou (d + 47) hp.1]
    simp only [pm_cl_some, Option.toList_some, Option.toList_none, List.cons_append, List.nil_append]
    rw [sg_X12_layGame_10, if_neg (nI_nlt (by omega) (by omega))]
  | m + 1, row, σ', w2, e, s, hD, g, hn => by
    have h64 := p4_64 L.length (by have := hp.1; omega)
    have e142 := s.1.1 142 rfl
    obtain ⟨hn36, f4, w70⟩ := relM_n hs hT.2.2.1.2.1 hM
    rw [sg_X12_layGame_2, g.1, r_fou (d + 47) hp.1]
    simp only [pm_cl_some, Option.toList_some, Option.toList_none, List.cons_append, List.nil_append]
    rw [sg_X12_layGame_10, if_pos (nI_lt (by omega) (by omega)), r_copy (d + 47) σ' rw_now rw_trial (by decide) hn36 (by rw [e142]; exact w70)]
    simp only [pm_cl_some, Option.toList_some, Option.toList_none, List.cons_append, List.nil_append]
    rw [sg_X12_layGame_24, r_ask_l (d + 47) hs hp g (by rw [e142]; exact hM.2.2.1) (by omega) L.length 0 _ (by omega)]
    have s1 : sameQ σ (pm_wC σ' 143 (asW L.length row lo L L.length 0 (u_copy (σ'.1 142) (σ'.1 143) n))) := sameQ_tr s (sameQ_w σ' _ ⟨rfl, rfl⟩ (by decide))
    have hMa := as_M (np := L.length) (row := row) hs (fun j hj => ⟨(hp.2 j hj).1, (hp.2 j hj).2.1, (hp.2 j hj).2.2.1⟩) L.length 0 f _ (by omega) (relM_ext (w' := u_copy (σ'.1 142) (σ'.1 143) n) hs (fun _ _ => rfl) (fun j hj => by rw [← e142]; exact if_pos hj) (fun _ _ _ _ => rfl) hM)
    have g1 := Gr_w g (c := 143) (asW L.length row lo L L.length 0 (u_copy (σ'.1 142) (σ'.1 143) n)) (by decide)
    obtain ⟨σ2, i1, i2, i3, i4⟩ := r_layOn d (n := n) (f := asF L.length row lo L L.length 0 f) (lg := lg) (σ := pm_wC σ' 143 (asW L.length row lo L L.length 0 (u_copy (σ'.1 142) (σ'.1 143) n))) hs hk hT (EnM_Q hE s1) ⟨fun p hp => by rw [wC_ne _ _ (show (145 : Nat) ≠ 143 by decide)]; exact hD.1 p hp, by rw [LM_same (wC_ne _ _ (by decide))]; exact hD.2⟩ (by rw [wC_at]; exact hMa) (by rw [lft_as hs (fun j hj => (hp.2 j hj).1) _ _ _ (by omega)]; exact hlf)
    rw [i1]
    simp only [pm_cl_some, Option.toList_some, Option.toList_none, List.cons_append, List.nil_append]
    have g2 : Gr L σ2 := by
      refine ⟨by rw [i2.2.2.2 41 rfl]; exact g1.1, fun j hj => ?_⟩
      rw [i2.1 151 (by decide) (by decide) (by decide) (by decide) (by decide)]
      exact g1.2 j hj
    obtain ⟨σ3, j1, j2, j3, j4, j5, j6⟩ := r_note_l (d + 48) (M := rsM V o1 o2 sz t r f L lo) hs hp (show row < 64 by omega) L.length 0 σ2 (by omega) (sameQ_tr s1 (FRM_Q i2)) g2 (NT_w (c' := 0) hn (by rw [i2.1 152 (by decide) (by decide) (by decide) (by decide) (by decide), wC_ne _ _ (by decide)])) (fun j hj => by
      rw [(i4 (L.getD j 0) (hp.2 j hj).1).1]
      rfl)
    rw [sg_X12_layGame_90, j1]
    exact r_rows_l d hk hs hT hE hM hp hlf m (row + 1) σ3 _ (by omega) j2 ⟨fun p hp => by rw [j5, j6 145 (by decide)]; exact i3.1 p hp, by rw [LM_same (j6 137 (by decide))]; exact i3.2⟩ j3 j4
theorem r_rv (d : Nat) {np row k : Nat} {M : Nat → Nat → Int32} {σ : pm_H} (hn : np ≤ 3) (hk : k < np) (hr : row < 4 ^ np) (h41 : σ.1 133 41 = nI np) (hM : NT 152 M np (4 ^ np) 0 σ) : ∀ (m v : Nat), v + m = 4 → pm_run (xe (d + 1)) pg_X12_isRest (25, [.ref 133, .int (nI row), .int (nI k), .int (nI 1 <<< (sft np k &&& 31)), .int (nI v)], [], σ) = if rvB M np row k m v = true then pm_run (xe (d + 1)) pg_X12_isRest (2, [.ref 133, .int (nI row), .int (nI (k + 1)), .int (nI 1 <<< (sft np k &&& 31)), .int (nI 4)], [], σ) else some (some (.int (nI 0)), σ)
  | 0, v, e => by
    rw [sg_X12_isRest_25, if_neg (nI_nlt (by omega) (by omega)), nI_add, show v = 4 by omega]
    rfl
  | m + 1, v, e => by
    have h64 := p4_64 np (by omega)
    have c1 := chg_lt np (by omega) k hk row hr v (by omega)
    rw [sg_X12_isRest_25, if_pos (nI_lt (by omega) (by omega)), r_cho d h41 hn hk (by omega)]
    simp only [pm_cl_some, Option.toList_some, Option.toList_none, List.cons_append, List.nil_append]
    rw [sg_X12_isRest_45, chg_r np (by omega) k hk row hr v (by omega), pk_mul, pk_mul, nI_add, nI_add, ck_n _ (by omega) (by omega), ck_n _ (by omega) (by omega), nI_clamp (by omega), nI_clamp (by omega), Nat.mul_comm 3 row, Nat.mul_comm 3 (chg np row k v), hM row k hk (Or.inl hr), hM _ k hk (Or.inl c1), nI_add]
    unfold rvB
    by_cases c : M row k < M (chg np row k v) k
    · rw [if_pos c, if_pos c]
      rfl
    · rw [if_neg c, if_neg c]
      exact r_rv d hn hk hr h41 hM m (v + 1) (by omega)
theorem r_rk (d : Nat) {np row : Nat} {M : Nat → Nat → Int32} {σ : pm_H} (hn : np ≤ 3) (hr : row < 4 ^ np) (h41 : σ.1 133 41 = nI np) (hM : NT 152 M np (4 ^ np) 0 σ) : ∀ (m k : Nat) (w3 w4 : Value), k + m = np → pm_run (xe (d + 1)) pg_X12_isRest (2, [.ref 133, .int (nI row), .int (nI k), w3, w4], [], σ) = some (some (.int (b32 (rkB M np row m k))), σ)
  | 0, k, w3, w4, e => by
    rw [sg_X12_isRest_2, h41, if_neg (nI_nlt (by omega) (by omega))]
    rfl
  | m + 1, k, w3, w4, e => by
    rw [sg_X12_isRest_2, h41, if_pos (nI_lt (by omega) (by omega)), en_X12_fours, sg_X12_fours_0]
    simp only [pm_cl_some, Option.toList_some, Option.toList_none, List.cons_append, List.nil_append]
    rw [sg_X12_isRest_21, show nI 1 <<< ((nI 2 * ((nI np - nI 1) - nI k)) &&& 31) = nI 1 <<< (sft np k &&& 31) from rfl, r_rv d hn (by omega) hr h41 hM 4 0 (by omega)]
    unfold rkB
    cases rvB M np row k 4 0 with
    | false => rw [if_neg (by decide)]; rfl
    | true => rw [if_pos rfl]; exact r_rk d hn hr h41 hM m (k + 1) _ _ (by omega)
theorem r_dgs (d : Nat) {np row : Nat} {σ : pm_H} (hn : np ≤ 3) (hr : row < 64) (h41 : σ.1 133 41 = nI np) : ∀ (m k : Nat) (x : Int32) (w1 w2 : Value), k + m = np → pm_run (xe (d + 1)) pg_X12_rests (64, [.ref 133, w1, w2, .int (nI row), .int x, .int (nI k)], [], σ) = some (some (.int (dgs np row m k x)), σ)
  | 0, k, x, w1, w2, e => by
    rw [sg_X12_rests_64, h41, if_neg (nI_nlt (by omega) (by omega))]
    rfl
  | m + 1, k, x, w1, w2, e => by
    rw [sg_X12_rests_64, h41, if_pos (nI_lt (by omega) (by omega)), r_cho d h41 hn (by omega) hr]
    simp only [pm_cl_some, Option.toList_some, Option.toList_none, List.cons_append, List.nil_append]
    rw [sg_X12_rests_85, nI_add, Int32.mul_comm (nI 10) x]
    exact r_dgs d hn hr h41 m (k + 1) _ _ _ (by omega)
theorem r_an (d : Nat) {np : Nat} {M : Nat → Nat → Int32} {σ : pm_H} {i : Int32} (hn : np ≤ 3) (h41 : σ.1 133 41 = nI np) (hM : NT 152 M np (4 ^ np) 0 σ) : ∀ (m row c : Nat) (w4 w5 : Value), row + m = 4 ^ np → c ≤ row → pm_run (xe (d + 2)) pg_X12_rests (31, [.ref 133, .int i, .int (nI c), .int (nI row), w4, w5], [], σ) = some (some (.int (anB M np i m row c)), σ)
  | 0, row, c, w4, w5, e, hc => by
    have h64 := p4_64 np (by omega)
    rw [sg_X12_rests_31, h41, r_fou (d + 1) hn]
    simp only [pm_cl_some, Option.toList_some, Option.toList_none, List.cons_append, List.nil_append]
    rw [sg_X12_rests_39, if_neg (nI_nlt (by omega) (by omega))]
    unfold anB
    split <;> rfl
  | m + 1, row, c, w4, w5, e, hc => by
    have h64 := p4_64 np (by omega)
    rw [sg_X12_rests_31, h41, r_fou (d + 1) hn]
    simp only [pm_cl_some, Option.toList_some, Option.toList_none, List.cons_append, List.nil_append]
    rw [sg_X12_rests_39, if_pos (nI_lt (by omega) (by omega)), en_X12_isRest, sg_X12_isRest_0, r_rk d hn (show row < 4 ^ np by omega) h41 hM np 0 _ _ (by omega)]
    simp only [pm_cl_some, Option.toList_some, Option.toList_none, List.cons_append, List.nil_append]
    rw [sg_X12_rests_47, nI_add, nI_add]
    unfold anB
    cases rkB M np row np 0 with
    | false =>
      rw [if_pos bf0, if_neg (by decide)]
      exact r_an d hn h41 hM m (row + 1) c _ _ (by omega) (by omega)
    | true =>
      rw [if_neg bt0, if_pos rfl]
      by_cases c1 : nI c = i
      · rw [if_pos c1, if_pos c1, r_dgs (d + 1) hn (by omega) h41 np 0 _ _ _ (by omega)]
      · rw [if_neg c1, if_neg c1]
        exact r_an d hn h41 hM m (row + 1) (c + 1) _ _ (by omega) (by omega)
/-- no number below -1 is met -/
theorem an_low {M : Nat → Nat → Int32} {np : Nat} {i : Int32} (hi : i < -1) : ∀ (m row c : Nat), c + m < 2 ^ 31 → anB M np i m row c = -1
  | 0, row, c, h => by
    unfold anB
    rw [if_neg (fun e => by rw [e] at hi; exact absurd hi (by decide))]
  | m + 1, row, c, h => by
    unfold anB
    have hne : ¬ nI c = i := fun e => by
      rw [← e, Int32.lt_iff_toInt_lt, nI_toInt (by omega), show (-1 : Int32).toInt = -1 from by decide] at hi
      omega
    rw [if_neg hne, an_low hi m (row + 1) (c + 1) (by omega), an_low hi m (row + 1) c (by omega)]
    exact ite_self _
theorem lo_ex {k sz n : Nat} {t r f w : Nat → Int32} {T R : Nat → Nat} {lg : Nat → Nat → Int32} (hs : sz ≤ 6) (ht : okT sz t r T R) (h : relM k sz r (R 1) f lg w n) {L : List Nat} (h3 : L.length ≤ 3) (hL : ∀ x, x ∈ L → x < sz ∧ s_in r f x = true) : ∃ lo, okPl sz f L lo := by
  refine ⟨fun j => (s_least f (L.getD j 0)).toNatClampNeg, h3, fun j hj => ?_⟩
  obtain ⟨a1, a2⟩ := hL _ (getD_mem 0 L j hj)
  obtain ⟨lo, l1, l2, l3⟩ := rel_lo99 hs ht h a1 a2
  show _ ∧ 1 ≤ (s_least f (L.getD j 0)).toNatClampNeg ∧ (s_least f (L.getD j 0)).toNatClampNeg ≤ 99 ∧ s_least f (L.getD j 0) = nI (s_least f (L.getD j 0)).toNatClampNeg
  rw [l1, nI_clamp (by omega)]
  exact ⟨a1, l2, l3, rfl⟩
theorem b_rests (d : Nat) {k sz n a e nl : Nat} {T R : Nat → Nat} {V : Nat → LV → Int32} {σ : pm_H} (hk : k ≤ 5000) (h : RelB k sz T R n a e σ) (w : LW nl V σ) (x : Int32) : Both (d + 20) (d + 50) 231 243 [.int x] σ (PostW k sz T R nl V) := by
  have hh := h
  obtain ⟨⟨h1, h2, h3, h4, h5, h6, h7⟩, ⟨h8, h9⟩, -⟩ := hh
  obtain ⟨F, f1, f2, f3⟩ := h8.1
  -- who is in
  have hq : ∃ σ2 b, xe (d + 19) 232 [.ref 72, .ref 23] σ = some (some (.int b), σ2) ∧ sameX σ σ2 ∧ ((b = nI 1 ∧ (σ.1 24 0 = nI 1 ∧ gokA (R 1) F (s_in (σ.1 5) (σ.1 24)) 0 sz ∧ 0 < (pls (s_in (σ.1 5) (σ.1 24)) 0 sz).length ∧ (pls (s_in (σ.1 5) (σ.1 24)) 0 sz).length ≤ 3) ∧ Gt (σ.1 24) (pls (s_in (σ.1 5) (σ.1 24)) 0 sz) σ2) ∨ (b = nI 0 ∧ ¬ (σ.1 24 0 = nI 1 ∧ gokA (R 1) F (s_in (σ.1 5) (σ.1 24)) 0 sz ∧ 0 < (pls (s_in (σ.1 5) (σ.1 24)) 0 sz).length ∧ (pls (s_in (σ.1 5) (σ.1 24)) 0 sz).length ≤ 3))) := by
    have s0 : sameX σ (pm_wC σ 72 (upd (σ.1 72) 4 (nI 0))) := sameX_w (sameX_rfl σ) _ ⟨rfl, rfl⟩ (by decide)
    rw [en_X3_gather, sg_X3_gather_0, wI_wC, wC_ne _ _ (show (3 : Nat) ≠ 72 by decide), h1]
    by_cases z : sz = 0
    · subst z
      exact ⟨_, nI 0, by rw [if_pos n00], s0, Or.inr ⟨rfl, fun q => absurd q.2.2.1 (by show ¬ 0 < 0; omega)⟩⟩
    · rw [if_neg (nI_ne0 (by omega) (by omega)), q_round (d + 17) _ st_23, show (pm_wC σ 72 (upd (σ.1 72) 4 (nI 0))).1 (23 + 1) 0 = σ.1 24 0 from rfl]
      simp only [pm_cl_some, Option.toList_some, Option.toList_none, List.cons_append, List.nil_append]
      rw [sg_X3_gather_19]
      by_cases c0 : σ.1 24 0 = nI 1
      · rw [if_pos c0]
        obtain ⟨σ2, b, i1, i2, i3⟩ := q_ga_l (d + 16) h (by omega) f1 f2 sz 0 [] _ (by omega) s0 ⟨by rw [wC_at, up_at]; rfl, fun j hj => absurd hj (Nat.not_lt_zero j)⟩ (by show 0 ≤ 3; omega)
        refine ⟨σ2, b, i1, i2, ?_⟩
        rcases i3 with ⟨b1, b2, b3, b4, b5⟩ | ⟨b1, b2⟩
        · exact Or.inl ⟨b1, ⟨c0, b2, b3, b4⟩, b5⟩
        · exact Or.inr ⟨b1, fun q => b2 ⟨q.2.1, q.2.2.1, q.2.2.2⟩⟩
      · exact ⟨_, nI 0, by rw [if_neg c0], s0, Or.inr ⟨rfl, fun q => c0 q.1⟩⟩
  have hr : ∀ σ1, sameX σ (th0 σ1) → ∃ σ2 b, xe (d + 50) 243 [.ref 133, .int x] σ1 = pm_run (xe (d + 49)) pg_X12_rests (9, [.ref 133, .int x, .null, .null, .null, .null], [.int b], σ2) ∧ sameX σ σ2 ∧ ((b = nI 1 ∧ (σ.1 24 0 = nI 1 ∧ gokA (R 1) F (s_in (σ.1 5) (σ.1 24)) 0 sz ∧ 0 < (pls (s_in (σ.1 5) (σ.1 24)) 0 sz).length ∧ (pls (s_in (σ.1 5) (σ.1 24)) 0 sz).length ≤ 3) ∧ Gr (pls (s_in (σ.1 5) (σ.1 24)) 0 sz) σ2) ∨ (b = nI 0 ∧ ¬ (σ.1 24 0 = nI 1 ∧ gokA (R 1) F (s_in (σ.1 5) (σ.1 24)) 0 sz ∧ 0 < (pls (s_in (σ.1 5) (σ.1 24)) 0 sz).length ∧ (pls (s_in (σ.1 5) (σ.1 24)) 0 sz).length ≤ 3))) := by
    intro σ1 sX
    obtain ⟨σ2, b, i1, i2, i3⟩ := r_ga_l (d + 47) h f1 f2 sz 0 [] (pm_wI (th0 σ1) 133 41 (nI 0)) (by omega) (sameX_tr sX (sameX_m _ _)) ⟨by rw [wI_wC, wC_at, up_at]; rfl, fun j hj => absurd hj (Nat.not_lt_zero j)⟩ (by show 0 ≤ 0; omega)
    refine ⟨σ2, b, ?_, i2, i3⟩
    rw [en_X12_rests, sg_X12_rests_0, show pm_wI σ1 133 0 (nI 0) = th0 σ1 from rfl, en_X12_isGame, sg_X12_isGame_0, i1]
    simp only [pm_cl_some, Option.toList_some, Option.toList_none, List.cons_append, List.nil_append]
  obtain ⟨σ2, b, i1, i2, i3⟩ := hq
  unfold Both
  rw [en_X11_rests, sg_X11_rests_0, i1]
  simp only [pm_cl_some, Option.toList_some, Option.toList_none, List.cons_append, List.nil_append]
  rw [sg_X11_rests_11]
  rcases i3 with ⟨rfl, hC, g⟩ | ⟨rfl, hC⟩
  · rw [if_neg n10]
    have hsz : 0 < sz := by
      rcases Nat.eq_zero_or_pos sz with z | z
      · rw [z] at hC
        exact absurd hC.2.2.1 (by show ¬ 0 < 0; omega)
      · exact z
    have hT := h5 hsz
    generalize hLe : pls (s_in (σ.1 5) (σ.1 24)) 0 sz = L at hC g hr
    obtain ⟨lo, hp⟩ := lo_ex h3 hT h8 hC.2.2.2 (fun y hy => by
      rw [← hLe] at hy
      obtain ⟨y1, y2, y3⟩ := pls_in _ sz 0 y hy
      exact ⟨by omega, y3⟩)
    have hlf : lft (R 1) sz (σ.1 5) (σ.1 24) ≤ 12 := by
      have := lft_g (r := σ.1 5) h3 h4 f1 f2 hC.1 hC.2.1
      omega
    obtain ⟨σ3, j1, j2, j3, j4⟩ := q_rows_l d hk h w hsz hp hlf x (4 ^ L.length) 0 σ2 (by omega) i2 g (fun row' k' _ hc => by omega)
    rw [j1, q_answer (d + 15) hp.1 j3 j4]
    simp only [pm_cl_some, Option.toList_some, Option.toList_none, List.cons_append, List.nil_append]
    rw [sg_X11_rests_98]
    have sX := sameX_th j2
    obtain ⟨σ4, b, r1, r2, r3⟩ := hr σ3 sX
    rcases r3 with ⟨rfl, -, gr⟩ | ⟨-, hC'⟩
    · obtain ⟨hB, hW'⟩ := sameX_R r2 h w
      by_cases cx : x < -1
      · refine ⟨_, σ3, σ4, rfl, ?_, PostW_Q hB hW' (sameQ_rfl _) hW'.2.2.2.1 hW'.2.2.2.2.1⟩
        have h64 := p4_64 L.length (by have := hp.1; omega)
        rw [r1, sg_X12_rests_9, if_neg n10, if_pos cx, an_low cx _ _ _ (by omega)]
      · obtain ⟨σ5, u1, u2, u3, u4, u5⟩ := r_rows_l d hk h3 hT (EnM_X (EnM_of h w) r2) (lg := lgs σ 28) (n := n) (f := σ.1 24) (by rw [r2.1.1 142 rfl]; exact h8) hp hlf (4 ^ L.length) 0 σ4 .null (by omega) (sameQ_rfl _) ⟨hW'.2.2.2.1, hW'.2.2.2.2.1⟩ gr (fun row' k' _ hc => by omega)
        refine ⟨_, σ3, σ5, rfl, ?_, PostW_Q hB hW' u2 u3.1 u3.2⟩
        rw [r1, sg_X12_rests_9, if_neg n10, if_neg cx, en_X12_layGame, sg_X12_layGame_0, u1]
        simp only [pm_cl_some, Option.toList_some, Option.toList_none, List.cons_append, List.nil_append]
        rw [sg_X12_rests_27, r_an (d + 47) hp.1 u4.1 u5 (4 ^ L.length) 0 0 _ _ (by omega) (by omega)]
    · exact absurd hC hC'
  · refine ⟨.int (-2000000), σ2, ?_⟩
    obtain ⟨σ4, b, r1, r2, r3⟩ := hr σ2 (sameX_th i2)
    rcases r3 with ⟨-, hC', -⟩ | ⟨rfl, -⟩
    · exact absurd hC' hC
    · obtain ⟨hB, hW'⟩ := sameX_R r2 h w
      refine ⟨σ4, by rw [if_pos n00], ?_, PostW_Q hB hW' (sameQ_rfl _) hW'.2.2.2.1 hW'.2.2.2.2.1⟩
      rw [r1, sg_X12_rests_9, if_pos n00]

/-! ===== what a PLACE is worth; ODDS and VALUE alike ===== -/
theorem q_fill_l (d : Nat) {q n : Nat} (hq : pm_kd q = .inl (0, n, 0)) (hn : n < 2 ^ 31) (v : Int32) : ∀ (k i : Nat) (σ : pm_H), i + k = n → pm_run (xe d) pg_J7_fill_53178 (5, [.ref q, .int v, .int (nI i), .int (nI n)], [], σ) = some (none, pm_wC σ q (fun j => if i ≤ j ∧ j < n then v else σ.1 q j))
  | 0, i, σ, e => by
    rw [sg_J7_fill_53178_5 hq, if_neg (nI_nlt (by omega) (by omega)), show (fun j => if i ≤ j ∧ j < n then v else σ.1 q j) = σ.1 q from funext fun j => if_neg (by omega), wC_self]
  | k + 1, i, σ, e => by
    rw [sg_J7_fill_53178_5 hq, if_pos (nI_lt (by omega) (by omega)), ck_n _ (show i < n by omega) hn, nI_clamp (by omega), nI_add, q_fill_l d hq hn v k (i + 1) _ (by omega), wI_wC, wC_wC, wC_at]
    congr 3
    funext j
    by_cases c1 : j = i
    · subst c1
      rw [if_neg (by omega), up_at, if_pos (by omega)]
    · rw [up_ne _ _ c1]
      by_cases c2 : i ≤ j ∧ j < n
      · rw [if_pos c2, if_pos (by omega)]
      · rw [if_neg c2, if_neg (by omega)]
theorem q_fill (d : Nat) (σ : pm_H) {q n : Nat} (hq : pm_kd q = .inl (0, n, 0)) (hn : n < 2 ^ 31) (v : Int32) : xe (d + 1) 110 [.ref q, .int v] σ = some (none, pm_wC σ q (fun j => if j < n then v else σ.1 q j)) := by
  rw [en_J7_fill_53178, sg_J7_fill_53178_0 hq, q_fill_l d hq hn v n 0 σ (by omega)]
  simp only [Nat.zero_le, true_and]
def LplN (P S B : Nat) : LV := fun i => if i = 0 then nI 0 else if i = 1 then nI 0 else if i = 2 then nI 0 else if i = 3 then nI 0 else if i = 4 then nI 0 else if i = 5 then nI P else if i = 6 then nI S else nI B
theorem bd_Lp {P S B : Nat} (h : P ≤ 1000 ∧ S ≤ 1000 ∧ B ≤ 1000) : bdL (LplN P S B) := by
  intro i _
  unfold LplN
  repeat' split
  all_goals exact bd_nI (by omega)
def plv (V : Nat → LV → Int32) (o : Int32) (P S B : Nat) : Int32 := if o = -1 then (if P = 0 then nI 0 else if 3 < P then nI 0 else nI (4 - P)) else V o.toNatClampNeg (LplN P S B)
theorem q_wop (d : Nat) {nl c l sz P S B : Nat} {V : Nat → LV → Int32} {σ : pm_H} (hC : CLw nl V σ) (ho : lawok nl (σ.1 12 7)) (hc : st_ok c) (hl : l < 6) (hz : σ.1 3 2 = nI sz) (hs : sz ≤ 6) (hP : s_place sz (σ.1 4) (σ.1 5) (σ.1 (c + 1)) l = nI P) (hS : s_sum (σ.1 (c + 1)) l = nI S) (hB : σ.1 4 (l * 10 + 2) = nI B) (hb : P ≤ 1000 ∧ S ≤ 1000 ∧ B ≤ 1000) : ∃ g21 g22, xe (d + 4) 163 [.ref 12, .ref c, .int (nI l)] σ = some (some (.int (plv V (σ.1 12 7) P S B)), pm_wC (pm_wC σ 21 g21) 22 g22) := by
  have n21 : c + 1 ≠ 21 := fun e => by have := hc.2; rw [e, kd_21] at this; cases this
  rw [en_X5_worthOfPlace, sg_X5_worthOfPlace_0 hc.1 hc.2, q_place d σ hc hz hs hl, hP]
  simp only [pm_cl_some, Option.toList_some, Option.toList_none, List.cons_append, List.nil_append]
  rw [sg_X5_worthOfPlace_5 hc.1 hc.2]
  unfold plv
  rcases ho with ho | ⟨j, hj, ho⟩
  · rw [if_pos ho, if_pos ho]
    refine ⟨σ.1 21, σ.1 22, ?_⟩
    rw [wC_self, wC_self]
    by_cases c0 : P = 0
    · subst c0
      rw [if_pos n00, if_pos rfl]
    · rw [if_neg (nI_ne0 (by omega) (by omega)), if_neg c0]
      by_cases c3 : 3 < P
      · rw [if_pos (nI_lt c3 (by omega)), if_pos c3]
      · rw [if_neg (nI_nlt (by omega) (by omega)), if_neg c3, pk_sub (by omega)]
  · obtain ⟨hn6, -, hj6⟩ := hC
    obtain ⟨cc, c1, c2, c3, c4⟩ := hj6 j hj
    have hne : ¬ σ.1 12 7 = -1 := by rw [ho]; exact nI_nm1 (by omega)
    rw [if_neg hne, if_neg hne, ho, nI_clamp (show j < 2 ^ 31 by omega), q_fill (d + 2) σ kd_21 (by decide)]
    simp only [pm_cl_some, Option.toList_some, Option.toList_none, List.cons_append, List.nil_append]
    rw [sg_X5_worthOfPlace_39 hc.1 hc.2]
    simp (disch := omega) only [ck_n, nI_clamp, wI_wC, wC_at, wC_wC]
    rw [q_sum (d + 1) _ hc hl, wC_ne _ _ n21, hS]
    simp only [pm_cl_some, Option.toList_some, Option.toList_none, List.cons_append, List.nil_append]
    rw [sg_X5_worthOfPlace_57 hc.1 hc.2]
    simp (disch := omega) only [ck_n, nI_clamp, wI_wC, wC_at, wC_wC]
    rw [q_hof (d + 2) _ (by omega) hl, wC_ne _ _ (show (4 : Nat) ≠ 21 by decide), hB]
    simp only [pm_cl_some, Option.toList_some, Option.toList_none, List.cons_append, List.nil_append]
    rw [sg_X5_worthOfPlace_73 hc.1 hc.2]
    simp (disch := omega) only [ck_n, nI_clamp, wI_wC, wC_at, wC_wC, wC_ne _ _ (show (12 : Nat) ≠ 21 by decide), ho]
    obtain ⟨w1, w2⟩ := c4 _ (bd_Lp hb)
    obtain ⟨g', hg⟩ := q_worth d (L := LplN P S B) (j := j) (show j < 6 by omega) (pm_wC σ 21 (upd (upd (upd (fun j => if j < 8 then nI 0 else σ.1 21 j) 5 (nI P)) 6 (nI S)) 7 (nI B))) (fun z hz => by
      rw [wC_at]
      unfold LplN
      rcases (show z = 0 ∨ z = 1 ∨ z = 2 ∨ z = 3 ∨ z = 4 ∨ z = 5 ∨ z = 6 ∨ z = 7 by omega) with rfl | rfl | rfl | rfl | rfl | rfl | rfl | rfl <;> rfl) (by rw [wC_ne _ _ (by decide)]; exact c1) c2 (by rw [wC_ne _ _ (by omega)]; exact c3) w1
    rw [hg]
    simp only [pm_cl_some, Option.toList_some, Option.toList_none, List.cons_append, List.nil_append]
    rw [sg_X5_worthOfPlace_82 hc.1 hc.2]
    exact ⟨_, g', rfl⟩
def z137 (h : Nat → Int32) : Nat → (Nat → Int32)
  | 0 => h
  | i + 1 => upd (z137 h i) (lcd i) (nI 0)
theorem ct_w : ∀ i, i < 8 → pm_ct 8 i = nI (lcd i) ∧ lcd i < 128 := by decide
theorem r_vo_l (d : Nat) {q l P S B : Nat} {σ : pm_H} (hq : rw_ok q) (hl : l < 6) (hS : m_sum (σ.1 q) l = nI S) (hB : σ.1 138 (10 * l + 2) = nI B) (hn : q ≠ 137) (h : Nat → Int32) : ∀ (k i : Nat), i + k = 8 → pm_run (xe (d + 4)) pg_X12_valueOf (35, [.ref 133, .ref q, .int (nI l), .int (nI P), .int (nI i)], [], pm_wC σ 137 (z137 h i)) = pm_run (xe (d + 4)) pg_X12_valueOf (102, [.ref 133, .ref q, .int (nI l), .int (nI P), .int (nI 8)], [], pm_wC σ 137 (upd (upd (upd (z137 h 8) 114 (nI P)) 107 (nI S)) 98 (nI B)))
  | 0, i, e => by
    have e : i = 8 := e
    subst e
    rw [sg_X12_valueOf_35 hq, q_slen (d + 2) _ kd_w kd_wv]
    simp only [pm_cl_some, Option.toList_some, Option.toList_none, List.cons_append, List.nil_append]
    rw [sg_X12_valueOf_42 hq, if_neg (nI_nlt (by omega) (by omega))]
    simp (disch := omega) only [ck_n, nI_clamp, wI_wC, wC_at, wC_wC]
    rw [r_sumOf (d + 3) _ hq hl, wC_ne _ _ hn, hS]
    simp only [pm_cl_some, Option.toList_some, Option.toList_none, List.cons_append, List.nil_append]
    rw [sg_X12_valueOf_83 hq, pk_mul, nI_add]
    simp (disch := omega) only [ck_n, nI_clamp, wI_wC, wC_at, wC_wC, wC_ne _ _ (show (138 : Nat) ≠ 137 by decide), hB]
  | k + 1, i, e => by
    obtain ⟨a1, a2⟩ := ct_w i (by omega)
    rw [sg_X12_valueOf_35 hq, q_slen (d + 2) _ kd_w kd_wv]
    simp only [pm_cl_some, Option.toList_some, Option.toList_none, List.cons_append, List.nil_append]
    rw [sg_X12_valueOf_42 hq, if_pos (nI_lt (by omega) (by omega)), q_chat d _ kd_w kd_wv (by omega) (by decide) a2 a1]
    simp only [pm_cl_some, Option.toList_some, Option.toList_none, List.cons_append, List.nil_append]
    rw [sg_X12_valueOf_56 hq, ck_n _ a2 (by omega), nI_clamp (by omega), wI_wC, wC_at, wC_wC, nI_add]
    exact r_vo_l d hq hl hS hB hn h k (i + 1) (by omega)
theorem LM_p {σ : pm_H} {h : Nat → Int32} {P S B : Nat} (e : σ.1 137 = upd (upd (upd (z137 h 8) 114 (nI P)) 107 (nI S)) 98 (nI B)) : LM σ = LplN P S B := by
  funext i
  unfold LM LplN lcd
  rw [e]
  by_cases c0 : i = 0
  · rw [if_pos c0, if_pos c0]; rfl
  rw [if_neg c0, if_neg c0]
  by_cases c1 : i = 1
  · rw [if_pos c1, if_pos c1]; rfl
  rw [if_neg c1, if_neg c1]
  by_cases c2 : i = 2
  · rw [if_pos c2, if_pos c2]; rfl
  rw [if_neg c2, if_neg c2]
  by_cases c3 : i = 3
  · rw [if_pos c3, if_pos c3]; rfl
  rw [if_neg c3, if_neg c3]
  by_cases c4 : i = 4
  · rw [if_pos c4, if_pos c4]; rfl
  rw [if_neg c4, if_neg c4]
  by_cases c5 : i = 5
  · rw [if_pos c5, if_pos c5]; rfl
  rw [if_neg c5, if_neg c5]
  by_cases c6 : i = 6
  · rw [if_pos c6, if_pos c6]; rfl
  rw [if_neg c6, if_neg c6]
  rfl
theorem r_valueOf (d : Nat) {nl q l sz P S B : Nat} {V : Nat → LV → Int32} {σ : pm_H} (hM : MLw nl V σ) (hO : MOw nl V σ) (ho : lawok nl (σ.1 133 28)) (hLM : bdL (LM σ)) (hq : rw_ok q) (hz : σ.1 133 22 = nI sz) (hs : sz ≤ 6) (hl : l < sz) (hp : okP sz (σ.1 138) (σ.1 q)) (hP : m_place sz (σ.1 138) (σ.1 140) (σ.1 q) l = nI P) (hS : m_sum (σ.1 q) l = nI S) (hB : σ.1 138 (10 * l + 2) = nI B) (hb : P ≤ 1000 ∧ S ≤ 1000 ∧ B ≤ 1000) : ∃ σ', xe (d + 33) 165 [.ref 133, .ref q, .int (nI l)] σ = some (some (.int (plv V (σ.1 133 28) P S B)), σ') ∧ rO σ σ' ∧ MOw nl V σ' ∧ bdL (LM σ') := by
  have hn : q ≠ 137 := fun e => by have := hq; unfold rw_ok at this; rw [e, kd_137] at this; cases this
  rw [en_X12_valueOf, sg_X12_valueOf_0 hq, r_placeOf (d + 29) σ hq hz hs hl hp, hP]
  simp only [pm_cl_some, Option.toList_some, Option.toList_none, List.cons_append, List.nil_append]
  rw [sg_X12_valueOf_6 hq]
  unfold plv
  rcases ho with ho | ⟨j, hj, ho⟩
  · rw [if_pos ho, if_pos ho]
    refine ⟨σ, ?_, rO_rfl σ, hO, hLM⟩
    by_cases c0 : P = 0
    · subst c0
      rw [if_pos rfl, if_neg (by decide)]
    · rw [if_neg c0, if_pos (nI_gt0 (by omega) (by omega))]
      by_cases c3 : 3 < P
      · rw [if_pos c3, if_neg (nI_nlt (by omega) (by omega))]
      · rw [if_neg c3, if_pos (nI_lt (by omega) (by omega)), pk_sub (by omega)]
  · obtain ⟨hn6, -, hj6⟩ := hM
    obtain ⟨b, n, cc, v, q', c1, c2, c3, c4, c5⟩ := hj6 j hj
    have hne : ¬ σ.1 133 28 = -1 := by rw [ho]; exact nI_nm1 (by omega)
    have hr := r_vo_l (d + 28) (P := P) hq (show l < 6 by omega) hS hB hn (σ.1 137) 8 0 (by omega)
    rw [show z137 (σ.1 137) 0 = σ.1 137 from rfl, wC_self] at hr
    rw [if_neg hne, if_neg hne, hr, sg_X12_valueOf_102 hq, wC_ne _ _ (show (133 : Nat) ≠ 137 by decide), ho, ck_n _ (show j < 6 by omega) (by omega), wC_ne _ _ (show (136 : Nat) ≠ 137 by decide), nI_clamp (show j < 2 ^ 31 by omega), pk_mul, c4]
    have hLo : LM (pm_wC σ 137 (upd (upd (upd (z137 (σ.1 137) 8) 114 (nI P)) 107 (nI S)) 98 (nI B))) = LplN P S B := LM_p (wC_at _ _ _)
    have hn2 := c1.1
    obtain ⟨σ2, e2, e3, e4⟩ := r_go_x d (B := 240 * j) (σ := pm_wC σ 137 (upd (upd (upd (z137 (σ.1 137) 8) 114 (nI P)) 107 (nI S)) 98 (nI B))) c1 (by omega) (fun i hi => by rw [wC_ne _ _ (by decide)]; exact c5 i hi) (by rw [hLo]; exact bd_Lp hb)
    rw [e2]
    simp only [pm_cl_some, Option.toList_some, Option.toList_none, List.cons_append, List.nil_append]
    rw [c2] at e4
    obtain ⟨e5, e6⟩ := e4
    obtain ⟨e7, e8, e9⟩ := e3
    rw [sg_X12_valueOf_127 hq, e6, hLo, c3]
    refine ⟨σ2, rfl, ⟨fun c h1 h2 h3 => by rw [e7 c h1, wC_ne _ _ h2], fun c _ => by rw [e8]; rfl, fun k hk => by rw [e9 k hk, wC_ne _ _ (by decide)]⟩, fun p hp => ?_, ?_⟩
    · rw [e8, e7 145 (by decide), wC_ne _ _ (by decide)]
      exact hO p hp
    · rw [LM_p (h := σ.1 137) (P := P) (S := S) (B := B) (by rw [e7 137 (by decide), wC_at])]
      exact bd_Lp hb
/-! NOW as a number -/
def nowI (a b c e g w : Nat) : Nat := c + min 5 e + 500000 - a * g - b * (w - 2)
theorem nowX_N {a b c e g w : Nat} (ha : a ≤ 9) (hb : b ≤ 9) (hc : c ≤ 99) (he : e ≤ 1000) (hg : g ≤ 1000) (hw : w < 10000) : nowX (nI a) (nI b) (nI c) (nI e) (nI g) (nI w) = isI (nowI a b c e g w) ∧ nowI a b c e g w < 1000000 := by
  have hm1 : a * g ≤ 9 * 1000 := Nat.mul_le_mul ha hg
  have hm2 : b * (w - 2) ≤ 9 * 9998 := Nat.mul_le_mul hb (by omega)
  have e1 : (if nI e < nI 5 then nI e else nI 5) = nI (min 5 e) := by
    by_cases c1 : e < 5
    · rw [if_pos (nI_lt c1 (by omega)), show min 5 e = e by omega]
    · rw [if_neg (nI_nlt (by omega) (by omega)), show min 5 e = 5 by omega]
  have e2 : (if nI 0 < nI w - nI 2 then nI w - nI 2 else nI 0) = nI (w - 2) := by
    by_cases c1 : 2 < w
    · rw [pk_sub (by omega), if_pos (nI_lt (by omega) (by omega))]
    · have e0 : (nI 0).toInt = 0 := by decide
      rw [if_neg (by rw [Int32.lt_iff_toInt_lt, pk_sub_toInt (by omega) (by omega), e0]; omega), show w - 2 = 0 by omega]
  have hI : nowI a b c e g w < 1000000 := by unfold nowI; omega
  refine ⟨Int32.toInt_inj.mp ?_, hI⟩
  rw [isI_toInt hI]
  unfold nowX nowI
  rw [e1, e2, nI_add, pk_mul, pk_mul]
  generalize a * g = x at hm1 ⊢
  generalize b * (w - 2) = y at hm2 ⊢
  have s1 : (nI (c + min 5 e) - nI x).toInt = ((c + min 5 e : Nat) : Int) - x := pk_sub_toInt (by omega) (by omega)
  rw [Int32.toInt_sub, s1, nI_toInt (by omega), Int.bmod_eq_of_le (by omega) (by omega)]
  omega
/-- ODDS of a lifter in a row of numbers -/
def oddN (V : Nat → LV → Int32) (o : Int32) (T F : Nat → Nat) (l W : Nat) : Int32 := oddv V o W (nowI (T (l * 10 + 4)) (T (l * 10 + 5)) (if F 0 = 0 then T (l * 10 + 0) else T (l * 10 + 1)) (F (29 + l)) (F (35 + l)) (F 2 - F (41 + l))) (T (l * 10 + 3)) (F (11 + l)) (F 2 - F (41 + l)) (T (l * 10 + 2))
theorem row_N {k sz l : Nat} {t r f : Nat → Int32} {T R F : Nat → Nat} (hs : sz ≤ 6) (hk : k ≤ 5000) (ht : okT sz t r T R) (h : rp f F) (ho : okN k sz (R 1) F) (hl : l < sz) : (f 2 - f (41 + l) = nI (F 2 - F (41 + l)) ∧ f (11 + l) = nI (F (11 + l)) ∧ t (l * 10 + 3) = nI (T (l * 10 + 3)) ∧ t (l * 10 + 2) = nI (T (l * 10 + 2))) ∧ s_now t f l = isI (nowI (T (l * 10 + 4)) (T (l * 10 + 5)) (if F 0 = 0 then T (l * 10 + 0) else T (l * 10 + 1)) (F (29 + l)) (F (35 + l)) (F 2 - F (41 + l))) ∧ ∀ W, W ≤ 99 → rgN W (nowI (T (l * 10 + 4)) (T (l * 10 + 5)) (if F 0 = 0 then T (l * 10 + 0) else T (l * 10 + 1)) (F (29 + l)) (F (35 + l)) (F 2 - F (41 + l))) (T (l * 10 + 3)) (F (11 + l)) (F 2 - F (41 + l)) (T (l * 10 + 2)) := by
  obtain ⟨t1, t2, t3, t4⟩ := ht
  obtain ⟨o0, o1, o2, o4, ol⟩ := ho
  obtain ⟨⟨l1, l2, l3, l4, l5, l6⟩, l7, l8, l9, l10, l11, l12⟩ := ol l hl
  obtain ⟨⟨u1, u2, u3, u4, u5, u6⟩, ⟨u7, u8, u9, u10, u11, u12⟩, u13, u14, u15⟩ := t4 l hl
  have hsum : F 4 ≤ sz * 6 := by
    rw [o4]
    exact sumN_le sz (fun q hq => by have := ol q hq; unfold okL at this; omega)
  have hf2 : F 2 ≤ 2 * 36 + 5000 := by omega
  have e2 : f 2 - f (41 + l) = nI (F 2 - F (41 + l)) := by rw [h 2 (by omega) (by omega), h (41 + l) (by omega) (by omega), pk_sub l9]
  have hcan : (if F 0 = 0 then T (l * 10 + 0) else T (l * 10 + 1)) ≤ 99 := by split <;> omega
  obtain ⟨n1, n2⟩ := nowX_N (a := T (l * 10 + 4)) (b := T (l * 10 + 5)) (c := if F 0 = 0 then T (l * 10 + 0) else T (l * 10 + 1)) (e := F (29 + l)) (g := F (35 + l)) (w := F 2 - F (41 + l)) u7 u8 hcan (by omega) (by omega) (by omega)
  refine ⟨⟨e2, h _ (by omega) (by omega), t1 l hl 3 (by omega), t1 l hl 2 (by omega)⟩, ?_, fun W hW => ⟨hW, n2, u6, by omega, by omega, u4⟩⟩
  rw [← n1]
  unfold s_now
  rw [e2, t1 l hl 4 (by omega), t1 l hl 5 (by omega), h (29 + l) (by omega) (by omega), h (35 + l) (by omega) (by omega), t1 l hl 0 (by omega), t1 l hl 1 (by omega), h 0 (by omega) (by omega)]
  congr 1
  by_cases c0 : F 0 = 0
  · rw [if_pos c0, if_pos (by rw [c0]; exact n00)]
  · rw [if_neg c0, if_neg (nI_ne0 (by omega) (by omega))]
/-- the class: take, then the chance -/
theorem q_oddT (d : Nat) {k sz nl u c l W : Nat} {V : Nat → LV → Int32} {σ : pm_H} {T R F : Nat → Nat} (hC : CLw nl V σ) (ho : lawok nl (σ.1 12 6)) (hu : mo_ok u) (hc : st_ok c) (hs : sz ≤ 6) (hk : k ≤ 5000) (ht : okT sz (σ.1 4) (σ.1 5) T R) (h : rp (σ.1 (c + 1)) F) (hN : okN k sz (R 1) F) (hl : l < sz) (hW : W ≤ 99) : ∃ g21 g22, xe (d + 4) 155 [.ref 12, .ref u, .int (nI W)] (pm_wC σ u (g_take (σ.1 4) (σ.1 (c + 1)) (σ.1 u) l)) = some (some (.int (oddN V (σ.1 12 6) T F l W)), pm_wC (pm_wC (pm_wC σ u (g_take (σ.1 4) (σ.1 (c + 1)) (σ.1 u) l)) 21 g21) 22 g22) := by
  obtain ⟨⟨e1, e2, e3, e4⟩, e5, e6⟩ := row_N hs hk ht h hN hl
  have n4 : (4 : Nat) ≠ u := mo_4 hu
  have n12 : (12 : Nat) ≠ u := mo_ne hu (by rw [kd_12]; exact fun h => by cases h)
  have n20 : (20 : Nat) ≠ u := mo_ne hu (by rw [kd_20]; exact fun h => by cases h)
  obtain ⟨g21, g22, hg⟩ := q_chance d (l := l) (W := W) (D := T (l * 10 + 3)) (T := F (11 + l)) (C := F 2 - F (41 + l)) (B := T (l * 10 + 2)) (I := nowI (T (l * 10 + 4)) (T (l * 10 + 5)) (if F 0 = 0 then T (l * 10 + 0) else T (l * 10 + 1)) (F (29 + l)) (F (35 + l)) (F 2 - F (41 + l))) (V := V) (nl := nl) (σ := pm_wC σ u (g_take (σ.1 4) (σ.1 (c + 1)) (σ.1 u) l)) ⟨hC.1, by rw [wC_ne _ _ n12]; exact hC.2.1, fun j hj => by
      obtain ⟨cc, c1, c2, c3, c4⟩ := hC.2.2 j hj
      refine ⟨cc, by rw [wC_ne _ _ n20]; exact c1, c2, ?_, c4⟩
      rw [wC_ne _ _ (mo_ne hu (by rw [kd_lw j (by have := hC.1; omega)]; exact fun h => by cases h))]
      exact c3⟩ (by rw [wC_ne _ _ n12]; exact ho) hu (show l < 6 by omega) (by rw [wC_at]; rfl) (by rw [wC_at, wC_ne _ _ n4]; exact e5) (by rw [wC_at]; exact e2) (by rw [wC_at]; exact e1) (by rw [wC_ne _ _ n4]; exact e3) (by rw [wC_ne _ _ n4]; exact e4) (e6 W hW)
  refine ⟨g21, g22, ?_⟩
  rw [hg, wC_ne _ _ n12]
  rfl
/-- the reference: oddsOf -/
theorem r_oddT (d : Nat) {k sz nl q l W : Nat} {V : Nat → LV → Int32} {σ : pm_H} {t r f : Nat → Int32} {T R F : Nat → Nat} (hM : MLw nl V σ) (hO : MOw nl V σ) (ho : lawok nl (σ.1 133 27)) (hLM : bdL (LM σ)) (hq : rw_ok q) (hs : sz ≤ 6) (hk : k ≤ 5000) (ht : okT sz t r T R) (htt : ∀ l, l < sz → ∀ j, j < 10 → σ.1 138 (10 * l + j) = t (l * 10 + j)) (hw : relW sz f (σ.1 q)) (h : rp f F) (hN : okN k sz (R 1) F) (hl : l < sz) (hW : W ≤ 99) : ∃ σ', xe (d + 34) 160 [.ref 133, .ref q, .int (nI l), .int (nI W)] σ = some (some (.int (oddN V (σ.1 133 27) T F l W)), σ') ∧ rO σ σ' ∧ MOw nl V σ' ∧ bdL (LM σ') := by
  obtain ⟨⟨e1, e2, e3, e4⟩, e5, e6⟩ := row_N hs hk ht h hN hl
  obtain ⟨⟨w0, w1, w2, w3, w4⟩, wk⟩ := hw
  obtain ⟨⟨a0, a1, a2, a3, a4⟩, a5, a6, a7, a8, a9⟩ := wk l hl
  have en := now_eq (t := t) (t' := σ.1 138) ⟨⟨w0, w1, w2, w3, w4⟩, wk⟩ hl htt
  rw [en_X12_oddsOf, sg_X12_oddsOf_0 hq, r_nowOf (d + 31) σ hq (show l < 6 by omega), en, e5]
  simp only [pm_cl_some, Option.toList_some, Option.toList_none, List.cons_append, List.nil_append]
  rw [sg_X12_oddsOf_9 hq, pk_mul, nI_add, ck_n _ (show 11 * l + 1 < 251 by omega) (by omega), nI_clamp (by omega), a1, e2, r_waitedOf (d + 32) σ hq (show l < 6 by omega), w2, a8, e1]
  simp only [pm_cl_some, Option.toList_some, Option.toList_none, List.cons_append, List.nil_append]
  rw [sg_X12_oddsOf_23 hq]
  obtain ⟨σ', s1, s2⟩ := r_oddsBy d hM hO ho hLM (show l < 6 by omega) (by rw [htt l hl 3 (by omega)]; exact e3) (by rw [htt l hl 2 (by omega)]; exact e4) (e6 W hW)
  rw [s1]
  simp only [pm_cl_some, Option.toList_some, Option.toList_none, List.cons_append, List.nil_append]
  rw [sg_X12_oddsOf_26 hq]
  exact ⟨σ', rfl, s2⟩

/-! ===== the reference: all ways ===== -/
def EnM (sz nl : Nat) (V : Nat → LV → Int32) (t r : Nat → Int32) (o1 o2 : Int32) (σ : pm_H) : Prop := σ.1 133 22 = nI sz ∧ (∀ l, l < sz → ∀ j, j < 10 → σ.1 138 (10 * l + j) = t (l * 10 + j)) ∧ (∀ j, j < 4 → σ.1 140 j = r j) ∧ MLw nl V σ ∧ (σ.1 133 27 = o1 ∧ σ.1 133 28 = o2) ∧ lawok nl o1 ∧ lawok nl o2
def DyM (nl : Nat) (V : Nat → LV → Int32) (σ : pm_H) : Prop := MOw nl V σ ∧ bdL (LM σ)
def FRM (dp : Nat) (σ σ' : pm_H) : Prop := (∀ c, c ≠ 133 → c ≠ 137 → c ≠ 145 → c ≠ 147 → c ≠ 150 → σ'.1 c = σ.1 c) ∧ (∀ j, j < 251 * dp → σ'.1 147 j = σ.1 147 j) ∧ (∀ c, c ≠ 144 → c ≠ 148 → c ≠ 149 → σ'.2 c = σ.2 c) ∧ ∀ k, gk k = true → σ'.1 133 k = σ.1 133 k
theorem FRM_rfl (dp : Nat) (σ : pm_H) : FRM dp σ σ := ⟨fun _ _ _ _ _ _ => rfl, fun _ _ => rfl, fun _ _ _ _ => rfl, fun _ _ => rfl⟩
theorem FRM_tr {dp : Nat} {σ σ1 σ2 : pm_H} (h : FRM dp σ σ1) (h' : FRM dp σ1 σ2) : FRM dp σ σ2 := ⟨fun c a b e g i => (h'.1 c a b e g i).trans (h.1 c a b e g i), fun j hj => (h'.2.1 j hj).trans (h.2.1 j hj), fun c a b e => (h'.2.2.1 c a b e).trans (h.2.2.1 c a b e), fun k hk => (h'.2.2.2 k hk).trans (h.2.2.2 k hk)⟩
theorem FRM_up {dp dp' : Nat} {σ σ' : pm_H} (h : FRM dp' σ σ') (hd : dp ≤ dp') : FRM dp σ σ' := ⟨h.1, fun j hj => h.2.1 j (by omega), h.2.2⟩
theorem FRM_O {dp : Nat} {σ σ' : pm_H} (h : rO σ σ') : FRM dp σ σ' := ⟨fun c a b e _ _ => h.1 c a b e, fun j _ => by rw [h.1 147 (by decide) (by decide) (by decide)], fun c a _ _ => h.2.1 c a, h.2.2⟩
theorem EnM_F {dp sz nl : Nat} {V : Nat → LV → Int32} {t r : Nat → Int32} {o1 o2 : Int32} {σ σ' : pm_H} (h : EnM sz nl V t r o1 o2 σ) (s : FRM dp σ σ') : EnM sz nl V t r o1 o2 σ' := by
  obtain ⟨h1, h2, h3, ⟨m1, m2, m3⟩, ⟨h5, h6⟩, h7, h8⟩ := h
  have e138 := s.1 138 (by decide) (by decide) (by decide) (by decide) (by decide)
  have e140 := s.1 140 (by decide) (by decide) (by decide) (by decide) (by decide)
  have e135 := s.1 135 (by decide) (by decide) (by decide) (by decide) (by decide)
  have e136 := s.1 136 (by decide) (by decide) (by decide) (by decide) (by decide)
  refine ⟨(s.2.2.2 22 rfl).trans h1, fun l hl j hj => by rw [e138]; exact h2 l hl j hj, fun j hj => by rw [e140]; exact h3 j hj, ⟨m1, (s.2.2.2 7 rfl).trans m2, fun j hj => ?_⟩, ⟨(s.2.2.2 27 rfl).trans h5, (s.2.2.2 28 rfl).trans h6⟩, h7, h8⟩
  obtain ⟨b', n', c', v', q', a1, a2, a3, a4, a5⟩ := m3 j hj
  exact ⟨b', n', c', v', q', a1, a2, a3, by rw [e136]; exact a4, fun i hi => by rw [e135]; exact a5 i hi⟩
def AccM (V : Nat → LV → Int32) (o2 : Int32) (sz : Nat) (t r : Nat → Int32) (σ σ' : pm_H) (es : List ((Nat → Int32) × Nat)) : Prop := ∀ l, l < sz → σ'.2 149 l = σ.2 149 l + sM (vlF V o2 sz t r) l es ∧ ∀ q, q < 7 → σ'.2 148 (7 * l + q) = σ.2 148 (7 * l + q) + sP (s_place sz t r) l q es
theorem AccM_tr {V : Nat → LV → Int32} {o2 : Int32} {sz : Nat} {t r : Nat → Int32} {σ σ1 σ2 : pm_H} {es es' : List ((Nat → Int32) × Nat)} (h : AccM V o2 sz t r σ σ1 es) (h' : AccM V o2 sz t r σ1 σ2 es') : AccM V o2 sz t r σ σ2 (es ++ es') := by
  intro l hl
  obtain ⟨a1, a2⟩ := h l hl
  obtain ⟨b1, b2⟩ := h' l hl
  exact ⟨by rw [b1, a1, sM_app, Int64.add_assoc], fun q hq => by rw [b2 q hq, a2 q hq, sP_app, Int64.add_assoc]⟩
theorem AccM_eq {V : Nat → LV → Int32} {o2 : Int32} {sz : Nat} {t r : Nat → Int32} {σ σ1 σ2 : pm_H} {es : List ((Nat → Int32) × Nat)} (e1 : σ1.2 148 = σ.2 148) (e2 : σ1.2 149 = σ.2 149) (h : AccM V o2 sz t r σ1 σ2 es) : AccM V o2 sz t r σ σ2 es := by
  intro l hl
  obtain ⟨a1, a2⟩ := h l hl
  exact ⟨by rw [a1, e2], fun q hq => by rw [a2 q hq, e1]⟩
theorem r_settle_l (d : Nat) {k sz nl q n s : Nat} {V : Nat → LV → Int32} {t r f : Nat → Int32} {T R : Nat → Nat} {lg : Nat → Nat → Int32} {o1 o2 : Int32} (hq : rw_ok q) (hq1 : q = 143 ∨ q = 150) (hs : sz ≤ 6) (ht : okT sz t r T R) : ∀ (m i : Nat) (σ : pm_H) (w2 w4 w5 w7 w8 : Value), i + m = sz → EnM sz nl V t r o1 o2 σ → DyM nl V σ → relM k sz r (R 1) f lg (σ.1 q) n → ∃ σ', pm_run (xe (d + 33)) pg_X12_goOn (16, [.ref 133, .ref q, w2, .long (lN s), w4, w5, .int (nI i), w7, w8], [], σ) = some (none, σ') ∧ rO σ (σ'.1, fun c => if c = 148 ∨ c = 149 then σ.2 c else σ'.2 c) ∧ DyM nl V σ' ∧ ∀ l, l < sz → σ'.2 149 l = σ.2 149 l + (if i ≤ l then lN s * (vlF V o2 sz t r f l).toInt64 else 0) ∧ ∀ p, p < 7 → σ'.2 148 (7 * l + p) = σ.2 148 (7 * l + p) + (if i ≤ l then (if s_place sz t r f l = nI p then lN s else 0) else 0)
  | 0, i, σ, w2, w4, w5, w7, w8, e, hE, hD, hM => by
    refine ⟨σ, ?_, ⟨fun _ _ _ _ => rfl, fun c hc => by show (if c = 148 ∨ c = 149 then σ.2 c else σ.2 c) = σ.2 c; rw [ite_self], fun _ _ => rfl⟩, hD, fun l hl => ⟨by rw [if_neg (by omega), Int64.add_zero], fun p _ => by rw [if_neg (by omega), Int64.add_zero]⟩⟩
    rw [sg_X12_goOn_16 hq, hE.1, if_neg (nI_nlt (by omega) (by omega))]
  | m + 1, i, σ, w2, w4, w5, w7, w8, e, hE, hD, hM => by
    have isz : i < sz := by omega
    have hE0 := hE
    obtain ⟨h1, h2, h3, h4, ⟨h5, h6⟩, h7, h8⟩ := hE0
    have hokP := relM_okP hs ht h2 hM
    obtain ⟨P, p1, p2⟩ := s_place_6 (t := t) (r := r) (f := f) isz
    have hpl : m_place sz (σ.1 138) (σ.1 140) (σ.1 q) i = nI P := by rw [relM_place (T := T) (R := R) hs h2 h3 hM isz]; exact p2
    obtain ⟨S, q1, q2⟩ := relM_sums hs hM i isz
    have hsm : m_sum (σ.1 q) i = nI S := by rw [sum_eq hM.2.2.1 isz]; exact q2
    obtain ⟨t1, t2⟩ := okT_2 ht i isz
    rw [sg_X12_goOn_16 hq, h1, if_pos (nI_lt isz (by omega)), r_placeOf (d + 30) σ hq h1 hs isz hokP, hpl]
    simp only [pm_cl_some, Option.toList_some, Option.toList_none, List.cons_append, List.nil_append]
    rw [sg_X12_goOn_41 hq, pk_mul, nI_add, ck_n _ (by omega) (by omega), ck_n _ (by omega) (by omega), ck_n _ (show i < 6 by omega) (by omega), nI_clamp (show 7 * i + P < 2 ^ 31 by omega), nI_clamp (show i < 2 ^ 31 by omega), (pm_wJ_ne σ _ _ (show (149 : Nat) ≠ 148 by decide)).2]
    obtain ⟨σ2, s1, s2, s3, s4⟩ := r_valueOf d (q := q) (P := P) (S := S) (B := T (i * 10 + 2)) (σ := pm_wJ σ 148 (7 * i + P) (σ.2 148 (7 * i + P) + lN s)) (nl := nl) (V := V) h4 (by intro p hp; rw [(pm_wJ_ne σ _ _ (show (144 : Nat) ≠ 148 by decide)).2]; exact hD.1 p hp) (by show lawok nl (σ.1 133 28); rw [h6]; exact h8) hD.2 hq h1 hs isz hokP hpl hsm (by show σ.1 138 (10 * i + 2) = _; rw [h2 i isz 2 (by omega)]; exact t1) (by omega)
    rw [s1]
    simp only [pm_cl_some, Option.toList_some, Option.toList_none, List.cons_append, List.nil_append]
    rw [sg_X12_goOn_63 hq, ck_n _ (show i < 6 by omega) (by omega), nI_clamp (show i < 2 ^ 31 by omega), nI_add]
    have hF : FRM 0 σ (pm_wJ σ2 149 i (σ.2 149 i + lN s * (plv V (σ.1 133 28) P S (T (i * 10 + 2))).toInt64)) := ⟨fun c a b e _ _ => s2.1 c a b e, fun j hj => by omega, fun c a b e => by rw [(pm_wJ_ne σ2 _ _ e).2, s2.2.1 c a, (pm_wJ_ne σ _ _ b).2], s2.2.2⟩
    have eq : σ2.1 q = σ.1 q := s2.1 q (by rcases hq1 with rfl | rfl <;> decide) (by rcases hq1 with rfl | rfl <;> decide) (by rcases hq1 with rfl | rfl <;> decide)
    obtain ⟨σ', e1, e2, e3, e4⟩ := r_settle_l d (k := k) (n := n) (s := s) (f := f) (lg := lg) (V := V) (nl := nl) (o1 := o1) (o2 := o2) (T := T) (R := R) (t := t) (r := r) hq hq1 hs ht m (i + 1) (pm_wJ σ2 149 i (σ.2 149 i + lN s * (plv V (σ.1 133 28) P S (T (i * 10 + 2))).toInt64)) .null .null .null .null .null (by omega) (EnM_F hE hF) ⟨by intro p hp; rw [(pm_wJ_ne σ2 _ _ (show (144 : Nat) ≠ 149 by decide)).2]; exact s3 p hp, s4⟩ (by show relM k sz r (R 1) f lg (σ2.1 q) n; rw [eq]; exact hM)
    refine ⟨σ', e1, ⟨fun c a b g => (e2.1 c a b g).trans (s2.1 c a b g), fun c hc => ?_, fun k' hk' => (e2.2.2 k' hk').trans (s2.2.2 k' hk')⟩, e3, fun l hl => ⟨?_, fun p hp => ?_⟩⟩
    · show (if c = 148 ∨ c = 149 then σ.2 c else σ'.2 c) = σ.2 c
      by_cases cc : c = 148 ∨ c = 149
      · rw [if_pos cc]
      · rw [if_neg cc]
        have := e2.2.1 c hc
        have this : (if c = 148 ∨ c = 149 then _ else σ'.2 c) = _ := this
        rw [if_neg cc] at this
        rw [this, (pm_wJ_ne σ2 _ _ (fun q => cc (Or.inr q))).2, s2.2.1 c hc, (pm_wJ_ne σ _ _ (fun q => cc (Or.inl q))).2]
    · rw [(e4 l hl).1, wJ_2]
      by_cases cl : l = i
      · subst cl
        rw [if_neg (by omega), if_pos (Nat.le_refl _), Int64.add_zero, pk_uLs]
        unfold vlF
        rw [p2, q2, nI_clamp (by omega), nI_clamp (by omega), t1, nI_clamp (by omega), h6]
      · rw [pk_uLn cl, s2.2.1 149 (by decide), (pm_wJ_ne σ _ _ (show (149 : Nat) ≠ 148 by decide)).2]
        congr 1
        by_cases c : i ≤ l <;> simp only [c, show (i + 1 ≤ l) = (i ≤ l) from propext (by omega), if_true, if_false]
    · rw [(e4 l hl).2 p hp, (pm_wJ_ne σ2 _ _ (show (148 : Nat) ≠ 149 by decide)).2, s2.2.1 148 (by decide), wJ_2]
      by_cases cl : l = i
      · subst cl
        rw [if_neg (by omega), if_pos (Nat.le_refl _), Int64.add_zero]
        by_cases cq : P = p
        · subst cq
          rw [pk_uLs, if_pos p2]
        · rw [pk_uLn (by omega), if_neg (fun e => cq ((nI_eq (by omega) (by omega)).mp (p2.symm.trans e))), Int64.add_zero]
      · rw [pk_uLn (by omega)]
        congr 1
        by_cases c : i ≤ l <;> simp only [c, show (i + 1 ≤ l) = (i ≤ l) from propext (by omega), if_true, if_false]
theorem r_sv_l (d : Nat) {q dp N l : Nat} {s : Int64} (hq : rw_ok q) (hn : q ≠ 147) (hdp : dp ≤ 13) (hN : N ≤ 251) (hl : l < 6) : ∀ (k i : Nat) (σ : pm_H) (w4 w8 : Value), i + k = N → pm_run (xe d) pg_X12_goOn (88, [.ref 133, .ref q, .int (nI dp), .long s, w4, .int (nI l), .int (nI N), .int (nI i), w8], [], σ) = pm_cl (xe d 160 [.ref 133, .ref q, .int (nI l), .int (σ.1 q (11 * l + 0))] (pm_wC σ 147 (fun j => if 251 * dp + i ≤ j ∧ j < 251 * dp + N then σ.1 q (j - 251 * dp) else σ.1 147 j))) (fun r => pm_run (xe d) pg_X12_goOn (135, [.ref 133, .ref q, .int (nI dp), .long s, .null, .int (nI l), .int (nI N), .int (nI N), .null], r.1.toList ++ [.long s], r.2))
  | 0, i, σ, w4, w8, e => by
    rw [sg_X12_goOn_88 hq, if_neg (nI_nlt (by omega) (by omega)), pk_mul, nI_add, ck_n _ (by omega) (by omega), nI_clamp (by omega), show (fun j => if 251 * dp + i ≤ j ∧ j < 251 * dp + N then σ.1 q (j - 251 * dp) else σ.1 147 j) = σ.1 147 from funext fun j => if_neg (by omega), wC_self, show i = N by omega]
  | k + 1, i, σ, w4, w8, e => by
    rw [sg_X12_goOn_88 hq, if_pos (nI_lt (by omega) (by omega)), ck_n _ (show i < 251 by omega) (by omega), pk_mul, nI_add, ck_n _ (show 251 * dp + i < 3514 by omega) (by omega), nI_clamp (by omega), nI_clamp (by omega), nI_add, r_sv_l d hq hn hdp hN hl k (i + 1) _ .null .null (by omega), wI_wC, wC_wC, wC_at, wC_ne _ _ hn]
    congr 3
    funext j
    by_cases c1 : j = 251 * dp + i
    · subst c1
      rw [if_neg (by omega), up_at, if_pos (by omega), show 251 * dp + i - 251 * dp = i by omega]
    · rw [up_ne _ _ c1]
      by_cases c2 : 251 * dp + i ≤ j ∧ j < 251 * dp + N
      · rw [if_pos c2, if_pos (by omega)]
      · rw [if_neg c2, if_neg (by omega)]
theorem r_ct_l (d : Nat) {q dp N : Nat} (hq : rw_ok q) (hn : q ≠ 147) (hdp : dp ≤ 13) (hN : N ≤ 251) : ∀ (k i : Nat) (σ : pm_H), i + k = N → pm_run (xe d) pg_X12_copyTo (22, [.ref 133, .int (nI dp), .ref q, .int (nI N), .int (nI i)], [], σ) = some (none, pm_wC σ q (fun j => if i ≤ j ∧ j < N then σ.1 147 (251 * dp + j) else σ.1 q j))
  | 0, i, σ, e => by
    rw [sg_X12_copyTo_22 hq, if_neg (nI_nlt (by omega) (by omega)), show (fun j => if i ≤ j ∧ j < N then σ.1 147 (251 * dp + j) else σ.1 q j) = σ.1 q from funext fun j => if_neg (by omega), wC_self]
  | k + 1, i, σ, e => by
    rw [sg_X12_copyTo_22 hq, if_pos (nI_lt (by omega) (by omega)), pk_mul, nI_add, ck_n _ (show 251 * dp + i < 3514 by omega) (by omega), ck_n _ (show i < 251 by omega) (by omega), nI_clamp (by omega), nI_clamp (by omega), nI_add, r_ct_l d hq hn hdp hN k (i + 1) _ (by omega), wI_wC, wC_wC, wC_at, wC_ne _ _ (Ne.symm hn)]
    congr 3
    funext j
    by_cases c1 : j = i
    · subst c1
      rw [if_neg (by omega), up_at, if_pos (by omega)]
    · rw [up_ne _ _ c1]
      by_cases c2 : i ≤ j ∧ j < N
      · rw [if_pos c2, if_pos (by omega)]
      · rw [if_neg c2, if_neg (by omega)]
theorem r_copyTo (d : Nat) {dp n : Nat} {σ : pm_H} (hdp : dp ≤ 13) (hn : n ≤ 36) (h70 : σ.1 147 (251 * dp + 70) = nI n) : xe (d + 1) 224 [.ref 133, .int (nI dp), .ref 150] σ = some (none, pm_wC σ 150 (fun j => if j < 71 + 5 * n then σ.1 147 (251 * dp + j) else σ.1 150 j)) := by
  rw [en_X12_copyTo, sg_X12_copyTo_0 (show pm_kd 150 = .inl (0, 251, 0) from rfl), pk_mul, nI_add, ck_n _ (show 251 * dp + 70 < 3514 by omega) (by omega), nI_clamp (by omega), h70, pk_mul, nI_add, r_ct_l d (show rw_ok 150 from rfl) (by decide) hdp (by omega) (71 + 5 * n) 0 σ (by omega)]
  simp only [Nat.zero_le, true_and]
theorem r_goOn (d : Nat) {k sz nl : Nat} {V : Nat → LV → Int32} {t r : Nat → Int32} {T R : Nat → Nat} {o1 o2 : Int32} (hs : sz ≤ 6) (hk : k ≤ 5000) (ht : okT sz t r T R) : ∀ (m dp s q n : Nat) (f : Nat → Int32) (lg : Nat → Nat → Int32) (σ : pm_H), dp + m = 12 → lft (R 1) sz r f ≤ m → (q = 143 ∨ q = 150) → relM k sz r (R 1) f lg (σ.1 q) n → s ≤ 1000000000 → EnM sz nl V t r o1 o2 σ → DyM nl V σ → ∃ σ', xe (d + m + 35) 223 [.ref 133, .ref q, .int (nI dp), .long (lN s)] σ = some (none, σ') ∧ FRM dp σ σ' ∧ DyM nl V σ' ∧ AccM V o2 sz t r σ σ' (ends (nxF sz r) (chF V o1 t) (stF sz t r) m f s)
  | m, dp, s, q, n, f, lg, σ, e, hl, hq1, hM, hsb, hE, hD => by
    have hq : rw_ok q := by rcases hq1 with rfl | rfl <;> rfl
    have hE0 := hE
    obtain ⟨h1, h2, h3, h4, ⟨h5, h6⟩, h7, h8⟩ := hE0
    have hR1 := ht.2.2.1.2.1
    have hR : RI k sz R r f := ⟨by obtain ⟨F, f1, f2, -⟩ := hM.1; exact ⟨F, f1, f2⟩, hM.2.1⟩
    obtain ⟨hn36, f4, w70⟩ := relM_n hs hR1 hM
    have hnx0 : xe (d + m + 34) 152 [.ref 133, .ref q] σ = some (some (.int (oi (nxF sz r f))), σ) := by
      rw [r_nextOf (d + m + 32) σ hq h1 hs (relM_sm hs hR1 hM), relM_next (R := R) (h3 1 (by omega)) hM]
      rfl
    rw [en_X12_goOn, sg_X12_goOn_0 hq, hnx0]
    simp only [pm_cl_some, Option.toList_some, Option.toList_none, List.cons_append, List.nil_append]
    rw [sg_X12_goOn_5 hq]
    cases hnx : nxF sz r f with
    | none =>
      rw [if_pos (show oi none = -1 from rfl)]
      obtain ⟨σ', e1, e2, e3, e4⟩ := r_settle_l (d + m + 1) (k := k) (n := n) (s := s) (f := f) (lg := lg) (V := V) (nl := nl) (o1 := o1) (o2 := o2) (T := T) (R := R) hq hq1 hs ht sz 0 σ (.int (nI dp)) .null (.int (oi none)) .null .null (by omega) hE hD hM
      rw [show d + m + 1 + 33 = d + m + 34 by omega] at e1
      rw [e1]
      have hen : ends (nxF sz r) (chF V o1 t) (stF sz t r) m f s = [(f, s)] := by
        cases m with
        | zero => rfl
        | succ m =>
          unfold ends
          rw [hnx]
      refine ⟨σ', rfl, ⟨fun c a b g _ _ => e2.1 c a b g, fun j _ => by rw [show σ'.1 147 = σ.1 147 from e2.1 147 (by decide) (by decide) (by decide)], fun c a b g => ?_, e2.2.2⟩, e3, ?_⟩
      · have : (if c = 148 ∨ c = 149 then σ.2 c else σ'.2 c) = σ.2 c := e2.2.1 c a
        rw [if_neg (by omega)] at this
        exact this
      · rw [hen]
        intro l hl
        obtain ⟨a1, a2⟩ := e4 l hl
        refine ⟨?_, fun p hp => ?_⟩
        · rw [a1, if_pos (Nat.zero_le _)]
          show _ = _ + (lN s * (vlF V o2 sz t r f l).toInt64 + 0)
          rw [Int64.add_zero]
        · rw [a2 p hp, if_pos (Nat.zero_le _)]
          show _ = _ + ((if s_place sz t r f l = nI p then lN s else 0) + 0)
          rw [Int64.add_zero]
    | some who =>
      obtain ⟨hw1, hin⟩ := nx1_in (s_in r f) (s_ah f) sz 0 none (fun j e => by cases e) who hnx
      have hwz : who < sz := by omega
      match m, e, hl with
      | 0, e, hl =>
        have := lft_st (t := t) true hs ht hR hwz hin
        omega
      | m + 1, e, hl =>
        obtain ⟨F, f1, f2, f3⟩ := hM.1
        have hokL := f2.2.2.2.2 who hwz
        unfold okL at hokL
        have hF5 : f (5 + who) = nI (F (5 + who)) := f1 _ (by omega) (by omega)
        have hn147 : q ≠ 147 := by rcases hq1 with rfl | rfl <;> decide
        have w5 : σ.1 q (11 * who + 0) = nI (F (5 + who)) := by rw [(hM.2.2.1.2 who hwz).1.1]; exact hF5
        rw [if_neg (show ¬ oi (some who) = -1 from nI_nm1 (by omega)), ck_n _ (by omega) (by omega), nI_clamp (show 70 < 2 ^ 31 by omega), w70, pk_mul, nI_add, show oi (some who) = nI who from rfl, r_sv_l (d + (m + 1) + 34) hq hn147 (show dp ≤ 13 by omega) (by omega) (show who < 6 by omega) (71 + 5 * n) 0 σ .null .null (by omega), w5, Nat.add_zero]
        have hs1 : FRM dp σ (pm_wC σ 147 (fun j => if 251 * dp ≤ j ∧ j < 251 * dp + (71 + 5 * n) then σ.1 q (j - 251 * dp) else σ.1 147 j)) := ⟨fun c _ _ _ h _ => wC_ne _ _ h, fun j hj => by rw [wC_at, if_neg (by omega)], fun _ _ _ _ => rfl, fun k' _ => by rw [wC_ne _ _ (by decide)]⟩
        have hsv : ∀ j, j < 71 + 5 * n → (pm_wC σ 147 (fun j => if 251 * dp ≤ j ∧ j < 251 * dp + (71 + 5 * n) then σ.1 q (j - 251 * dp) else σ.1 147 j)).1 147 (251 * dp + j) = σ.1 q j := fun j hj => by rw [wC_at, if_pos (by omega), show 251 * dp + j - 251 * dp = j by omega]
        have hD1 : DyM nl V (pm_wC σ 147 (fun j => if 251 * dp ≤ j ∧ j < 251 * dp + (71 + 5 * n) then σ.1 q (j - 251 * dp) else σ.1 147 j)) := ⟨fun p hp => by rw [wC_ne _ _ (show (145 : Nat) ≠ 147 by decide)]; exact hD.1 p hp, by rw [LM_same (wC_ne _ _ (by decide))]; exact hD.2⟩
        have hq1' : (pm_wC σ 147 (fun j => if 251 * dp ≤ j ∧ j < 251 * dp + (71 + 5 * n) then σ.1 q (j - 251 * dp) else σ.1 147 j)).1 q = σ.1 q := wC_ne _ _ hn147
        have hz1 : (pm_wC σ 147 (fun j => if 251 * dp ≤ j ∧ j < 251 * dp + (71 + 5 * n) then σ.1 q (j - 251 * dp) else σ.1 147 j)).2 = σ.2 := rfl
        generalize pm_wC σ 147 (fun j => if 251 * dp ≤ j ∧ j < 251 * dp + (71 + 5 * n) then σ.1 q (j - 251 * dp) else σ.1 147 j) = σ1 at hs1 hsv hD1 hq1' hz1 ⊢
        have hE1 := EnM_F hE hs1
        obtain ⟨σ2, o3, o4, o5, o6⟩ := r_oddT (d + (m + 1)) (k := k) (sz := sz) (σ := σ1) (q := q) (l := who) (W := F (5 + who)) (f := f) (t := t) (r := r) (T := T) (R := R) (F := F) hE1.2.2.2.1 hD1.1 (by rw [hE1.2.2.2.2.1.1]; exact h7) hD1.2 hq hs hk ht hE1.2.1 (by rw [hq1']; exact hM.2.2.1) f1 f2 hwz (by omega)
        rw [o3]
        simp only [pm_cl_some, Option.toList_some, Option.toList_none, List.cons_append, List.nil_append]
        have hch : ∃ c, c ≤ 100 ∧ oddN V o1 T F who (F (5 + who)) = nI c ∧ chF V o1 t f who = c := by
          obtain ⟨c, c1, c2⟩ := clm_r (if o1 = -1 then nI 50 + nI (T (who * 10 + 3)) * (isI (nowI (T (who * 10 + 4)) (T (who * 10 + 5)) (if F 0 = 0 then T (who * 10 + 0) else T (who * 10 + 1)) (F (29 + who)) (F (35 + who)) (F 2 - F (41 + who))) - nI (F (5 + who))) else V o1.toNatClampNeg (LofN (F (5 + who)) (nowI (T (who * 10 + 4)) (T (who * 10 + 5)) (if F 0 = 0 then T (who * 10 + 0) else T (who * 10 + 1)) (F (29 + who)) (F (35 + who)) (F 2 - F (41 + who))) (T (who * 10 + 3)) (F (11 + who)) (F 2 - F (41 + who)) (T (who * 10 + 2))))
          have e0 : oddN V o1 T F who (F (5 + who)) = nI c := c2
          refine ⟨c, c1, e0, ?_⟩
          unfold chF
          rw [hF5, nI_clamp (by omega), ← oddN_nt V o1 hs hk ht f1 f2 hwz, e0, nI_clamp (by omega)]
        obtain ⟨c, hc100, hc1, hc2⟩ := hch
        rw [hE1.2.2.2.2.1.1, hc1, sg_X12_goOn_135 hq, lN_div hsb hc100]
        have hGs := div_le (s := s) hc100
        have hen : ends (nxF sz r) (chF V o1 t) (stF sz t r) (m + 1) f s = ends (nxF sz r) (chF V o1 t) (stF sz t r) m (stF sz t r f who true) (s * c / 100) ++ ends (nxF sz r) (chF V o1 t) (stF sz t r) m (stF sz t r f who false) (s - s * c / 100) := by
          show (match nxF sz r f with
            | none => [(f, s)]
            | some who => ends (nxF sz r) (chF V o1 t) (stF sz t r) m (stF sz t r f who true) (s * chF V o1 t f who / 100) ++ ends (nxF sz r) (chF V o1 t) (stF sz t r) m (stF sz t r f who false) (s - s * chF V o1 t f who / 100)) = _
          rw [hnx]
          show ends (nxF sz r) (chF V o1 t) (stF sz t r) m (stF sz t r f who true) (s * chF V o1 t f who / 100) ++ ends (nxF sz r) (chF V o1 t) (stF sz t r) m (stF sz t r f who false) (s - s * chF V o1 t f who / 100) = _
          rw [hc2]
        rw [hen]
        generalize s * c / 100 = G at hGs ⊢
        obtain ⟨rd, hrd, rd1, rd2⟩ := relM_rd hM hwz hin
        have br : ∀ (li G : Nat) (σa : pm_H), li < 8 → G ≤ 1000000000 → EnM sz nl V t r o1 o2 σa → DyM nl V σa → (∀ j, j < 71 + 5 * n → σa.1 147 (251 * dp + j) = σ.1 q j) → ∃ σm σn σb, xe (d + (m + 1) + 34) 224 [.ref 133, .int (nI dp), .ref 150] σa = some (none, σm) ∧ xe (d + (m + 1) + 34) 179 [.ref 133, .ref 150, .int (nI who), .int (nI li)] σm = some (none, σn) ∧ xe (d + (m + 1) + 34) 223 [.ref 133, .ref 150, .int (nI (dp + 1)), .long (lN G)] σn = some (none, σb) ∧ FRM dp σa σb ∧ (∀ j, j < 71 + 5 * n → σb.1 147 (251 * dp + j) = σ.1 q j) ∧ DyM nl V σb ∧ AccM V o2 sz t r σa σb (ends (nxF sz r) (chF V o1 t) (stF sz t r) m (stF sz t r f who (gd li)) G) := by
          intro li G σa hli hG hEa hDa hva
          have hb1 := r_copyTo (d + (m + 1) + 33) (dp := dp) (n := n) (σ := σa) (by omega) hn36 (by rw [hva 70 (by omega)]; exact w70)
          have hMa : relM k sz r (R 1) f lg (fun j => if j < 71 + 5 * n then σa.1 147 (251 * dp + j) else σa.1 150 j) n := relM_ext hs (fun _ _ => rfl) (fun j hj => by rw [if_pos hj]; exact hva j hj) (fun _ _ _ _ => rfl) hM
          obtain ⟨hn', hML⟩ := relM_lift (li := li) hs ht hEa.2.1 hEa.2.2.1 hMa hwz hin hli rd1 hrd
          have hb2 := r_lifts (d + (m + 1) + 30) (q := 150) (sz := sz) (n := n) (l := who) (li := li) (rd := rd) (pm_wC σa 150 (fun j => if j < 71 + 5 * n then σa.1 147 (251 * dp + j) else σa.1 150 j)) rfl hs (by rw [wC_ne _ _ (by decide)]; exact hEa.1) (by omega) hli hn' hrd (by rw [wC_at, if_pos (by omega), hva 70 (by omega)]; exact w70) (by rw [wC_at, if_pos (by omega), hva 66 (by omega)]; exact rd2)
          rw [wC_at, wC_wC, wC_ne _ _ (show (138 : Nat) ≠ 150 by decide), wC_ne _ _ (show (140 : Nat) ≠ 150 by decide)] at hb2
          generalize h_on sz (σa.1 138) (σa.1 140) (h_made (σa.1 138) (σa.1 140) (fun j => if j < 71 + 5 * n then σa.1 147 (251 * dp + j) else σa.1 150 j) n who (nI li) (gd li) rd) = w' at hb2 hML
          have hFn : FRM dp σa (pm_wC σa 150 w') := ⟨fun c _ _ _ _ h => wC_ne _ _ h, fun j _ => by rw [wC_ne _ _ (by decide)], fun _ _ _ _ => rfl, fun k' _ => by rw [wC_ne _ _ (by decide)]⟩
          have hlf := lft_st (t := t) (gd li) hs ht hR hwz hin
          obtain ⟨σb, i1, i2, i3, i4⟩ := r_goOn d (nl := nl) (V := V) (o1 := o1) (o2 := o2) hs hk ht m (dp + 1) G 150 (n + 1) (stF sz t r f who (gd li)) _ (pm_wC σa 150 w') (by omega) (by omega) (Or.inr rfl) (by rw [wC_at]; exact hML) hG (EnM_F hEa hFn) ⟨fun p hp => by rw [wC_ne _ _ (show (145 : Nat) ≠ 150 by decide)]; exact hDa.1 p hp, by rw [LM_same (wC_ne _ _ (by decide))]; exact hDa.2⟩
          refine ⟨_, _, σb, hb1, hb2, by rw [show d + (m + 1) + 34 = d + m + 35 by omega]; exact i1, FRM_tr hFn (FRM_up i2 (by omega)), fun j hj => ?_, i3, AccM_eq rfl rfl i4⟩
          rw [i2.2.1 _ (by omega), wC_ne _ _ (by decide)]
          exact hva j hj
        have hF2 : FRM dp σ σ2 := FRM_tr hs1 (FRM_O o4)
        have hv2 : ∀ j, j < 71 + 5 * n → σ2.1 147 (251 * dp + j) = σ.1 q j := fun j hj => by rw [o4.1 147 (by decide) (by decide) (by decide)]; exact hsv j hj
        obtain ⟨σm, σn, σb, b1, b2, b3, b4, b5, b6, b7⟩ := br 7 G σ2 (by omega) (by omega) (EnM_F hE hF2) ⟨o5, o6⟩ hv2
        rw [b1]
        simp only [pm_cl_some, Option.toList_some, Option.toList_none, List.cons_append, List.nil_append]
        rw [sg_X12_goOn_152 hq, b2]
        simp only [pm_cl_some, Option.toList_some, Option.toList_none, List.cons_append, List.nil_append]
        rw [sg_X12_goOn_164 hq, nI_add, b3]
        simp only [pm_cl_some, Option.toList_some, Option.toList_none, List.cons_append, List.nil_append]
        obtain ⟨σm', σn', σb', b1', b2', b3', b4', b5', b6', b7'⟩ := br 0 (s - G) σb (by omega) (by omega) (EnM_F hE (FRM_tr hF2 b4)) b6 b5
        rw [sg_X12_goOn_177 hq, b1']
        simp only [pm_cl_some, Option.toList_some, Option.toList_none, List.cons_append, List.nil_append]
        rw [sg_X12_goOn_186 hq, b2']
        simp only [pm_cl_some, Option.toList_some, Option.toList_none, List.cons_append, List.nil_append]
        rw [sg_X12_goOn_197 hq, nI_add, lN_sub hGs, b3']
        simp only [pm_cl_some, Option.toList_some, Option.toList_none, List.cons_append, List.nil_append]
        rw [sg_X12_goOn_212 hq]
        exact ⟨σb', rfl, FRM_tr hF2 (FRM_tr b4 b4'), b6', AccM_tr (AccM_eq (by rw [o4.2.1 148 (by decide), hz1]) (by rw [o4.2.1 149 (by decide), hz1]) b7) b7'⟩

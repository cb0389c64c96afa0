/-! ===== the class's tape while it is read ===== -/
def tpX (b : Nat → Nat) (n : Nat) (σ : pm_H) : Prop := n ≤ 240 ∧ σ.1 1 1 = nI n ∧ ∀ i, i < n → σ.1 2 i = nI (b i) ∧ 1 ≤ b i ∧ b i ≤ 255
theorem tk_s {b : Nat → Nat} {n p : Nat} (h1 : p < n) (h2 : b p = 32) : tk b n p = tk b n (p + 1) ∧ skp b n p = skp b n (p + 1) := by
  have e : skp b n p = skp b n (p + 1) := by rw [skp_eq b n p, if_pos ⟨h1, h2⟩]
  exact ⟨by unfold tk; rw [e], e⟩
theorem tk_h {b : Nat → Nat} {n p : Nat} (h1 : p < n) (h2 : b p ≠ 32) : tk b n p = b p ∧ skp b n p = p := by
  have e : skp b n p = p := by rw [skp_eq b n p, if_neg (fun h => h2 h.2)]
  exact ⟨by unfold tk; rw [e, if_pos h1], e⟩
theorem tk_e {b : Nat → Nat} {n p : Nat} (h1 : n ≤ p) : tk b n p = 0 ∧ skp b n p = p := by
  have e : skp b n p = p := by rw [skp_eq b n p, if_neg (by omega)]
  exact ⟨by unfold tk; rw [e, if_neg (by omega)], e⟩
def okb (b : Nat → Nat) (n : Nat) : Prop := n ≤ 240 ∧ ∀ i, i < n → 1 ≤ b i ∧ b i ≤ 255
theorem tpX_b {b : Nat → Nat} {n : Nat} {σ : pm_H} (h : tpX b n σ) : okb b n := ⟨h.1, fun i hi => (h.2.2 i hi).2⟩
theorem tk_le {b : Nat → Nat} {n p : Nat} (h : okb b n) : tk b n p ≤ 255 := by
  unfold tk
  split
  · exact (h.2 _ (by assumption)).2
  · omega
theorem tk_0 {b : Nat → Nat} {n p : Nat} (h : okb b n) (h0 : tk b n p = 0) : n ≤ skp b n p := by
  unfold tk at h0
  split at h0
  · have := (h.2 _ (by assumption)).1
    omega
  · omega
/-- at p, fault f, m steps s -/
def lx (σ : pm_H) (p : Nat) (f : Int32) (m : Nat) (s : Nat → Int32) : pm_H := (fun q => if q = 11 then s else if q = 10 then upd (σ.1 10) 2 (nI m) else if q = 1 then upd (upd (σ.1 1) 2 (nI p)) 3 f else σ.1 q, σ.2)
section LX
variable {σ : pm_H} {p m : Nat} {f : Int32} {s : Nat → Int32}
theorem lx_1 : (lx σ p f m s).1 1 = upd (upd (σ.1 1) 2 (nI p)) 3 f := rfl
theorem lx_11 : (lx σ p f m s).1 1 1 = σ.1 1 1 := rfl
theorem lx_12 : (lx σ p f m s).1 1 2 = nI p := rfl
theorem lx_13 : (lx σ p f m s).1 1 3 = f := rfl
theorem lx_2 : (lx σ p f m s).1 2 = σ.1 2 := rfl
theorem lx_m : (lx σ p f m s).1 10 2 = nI m := rfl
theorem lx_10 : (lx σ p f m s).1 10 = upd (σ.1 10) 2 (nI m) := rfl
theorem lx_s : (lx σ p f m s).1 11 = s := rfl
theorem lx_p (p' : Nat) : pm_wI (lx σ p f m s) 1 2 (nI p') = lx σ p' f m s := by
  rw [wI_wC]
  refine Prod.ext (funext fun q => ?_) rfl
  by_cases h : q = 1
  · subst h
    rw [wC_at, lx_1, lx_1, up_cm _ _ _ (by decide : (2 : Nat) ≠ 3), up_cm _ _ _ (by decide : (2 : Nat) ≠ 3), up_up]
  · rw [wC_ne _ _ h]
    simp only [lx, h, if_false]
theorem lx_f (f' : Int32) : pm_wI (lx σ p f m s) 1 3 f' = lx σ p f' m s := by
  rw [wI_wC]
  refine Prod.ext (funext fun q => ?_) rfl
  by_cases h : q = 1
  · subst h
    rw [wC_at, lx_1, lx_1, up_up]
  · rw [wC_ne _ _ h]
    simp only [lx, h, if_false]
theorem lx_w (k m' : Nat) (v : Int32) : pm_wI (pm_wI (lx σ p f m s) 11 k v) 10 2 (nI m') = lx σ p f m' (upd s k v) := by
  rw [wI_wC, wI_wC]
  refine Prod.ext (funext fun q => ?_) rfl
  by_cases h : q = 10
  · subst h
    rw [wC_at, wC_ne _ _ (by decide), lx_10, lx_10, up_up]
  · rw [wC_ne _ _ h]
    by_cases h1 : q = 11
    · subst h1
      rw [wC_at]
      rfl
    · rw [wC_ne _ _ h1]
      simp only [lx, h, h1, if_false]
end LX
theorem q_lk_l (d : Nat) {b : Nat → Nat} {n m : Nat} {σ : pm_H} {f : Int32} {s : Nat → Int32} (h : tpX b n σ) : ∀ (k p : Nat), p + k = n → pm_run (xe d) pg_X10_look (5, [.ref 1, .int (nI p)], [], lx σ p f m s) = some (some (.int (nI (tk b n p))), lx σ (skp b n p) f m s)
  | 0, p, e => by
    have hn := h.1
    rw [sg_X10_look_5, lx_12, lx_11, h.2.1, if_neg (nI_nlt (by omega) (by omega)), if_neg (nI_nlt (by omega) (by omega)), (tk_e (show n ≤ p by omega)).1, (tk_e (show n ≤ p by omega)).2]
  | k + 1, p, e => by
    have hn := h.1
    obtain ⟨hb, hb1, hb2⟩ := h.2.2 p (by omega)
    rw [sg_X10_look_5, lx_12, lx_11, h.2.1, if_pos (nI_lt (by omega) (by omega)), lx_2]
    simp (disch := omega) only [ck_n, nI_clamp, hb]
    by_cases c : b p = 32
    · rw [if_pos (by rw [c]), nI_add, lx_p, q_lk_l d h k (p + 1) (by omega), (tk_s (by omega) c).1, (tk_s (by omega) c).2]
    · rw [if_neg (fun e => c ((nI_eq (by omega) (by omega)).mp e)), if_pos (nI_lt (by omega) (by omega)), (tk_h (by omega) c).1, (tk_h (by omega) c).2]
theorem q_lk (d : Nat) {b : Nat → Nat} {n m p : Nat} {σ : pm_H} {f : Int32} {s : Nat → Int32} (h : tpX b n σ) (hp : p ≤ n) : xe (d + 1) 27 [.ref 1] (lx σ p f m s) = some (some (.int (nI (tk b n p))), lx σ (skp b n p) f m s) := by
  rw [en_X10_look, sg_X10_look_0, lx_12, q_lk_l d h (n - p) p (by omega)]
theorem q_fl0 (d : Nat) {σ : pm_H} {p m : Nat} {s : Nat → Int32} : xe (d + 1) 54 [.ref 1] (lx σ p (-1) m s) = some (some (.int (nI 0)), lx σ p (-1) m s) := by
  rw [en_X10_failed, sg_X10_failed_0, lx_13, if_pos rfl]
theorem q_fl1 (d : Nat) {σ : pm_H} {p m g : Nat} {s : Nat → Int32} (hg : g < 2 ^ 31) : xe (d + 1) 54 [.ref 1] (lx σ p (nI g) m s) = some (some (.int (nI 1)), lx σ p (nI g) m s) := by
  rw [en_X10_failed, sg_X10_failed_0, lx_13, if_neg (nI_nm1 hg)]
theorem q_fa0 (d : Nat) {σ : pm_H} {p m : Nat} {s : Nat → Int32} (v : Int32) : xe (d + 1) 51 [.ref 1, .int v] (lx σ p (-1) m s) = some (none, lx σ p v m s) := by
  rw [en_X10_failAt, sg_X10_failAt_0, lx_13, if_pos rfl, lx_f]
theorem q_fa1 (d : Nat) {σ : pm_H} {p m g : Nat} {s : Nat → Int32} (v : Int32) (hg : g < 2 ^ 31) : xe (d + 1) 51 [.ref 1, .int v] (lx σ p (nI g) m s) = some (none, lx σ p (nI g) m s) := by
  rw [en_X10_failAt, sg_X10_failAt_0, lx_13, if_neg (nI_nm1 hg)]
theorem tkI_eq {t c : Nat} (ht : t ≤ 255) (hc : c ≤ 255) : (nI t = nI c) = (t = c) := propext (nI_eq (by omega) (by omega))
theorem q_exy (d : Nat) {b : Nat → Nat} {n m p c : Nat} {σ : pm_H} {s : Nat → Int32} (h : tpX b n σ) (hp : p ≤ n) (e : tk b n p = c) : xe (d + 2) 55 [.ref 1, .int (nI c)] (lx σ p (-1) m s) = some (none, lx σ (skp b n p + 1) (-1) m s) := by
  rw [en_X10_expect, sg_X10_expect_0, q_lk d h hp]
  simp only [pm_cl_some, Option.toList_some, Option.toList_none, List.cons_append, List.nil_append]
  rw [sg_X10_expect_4, if_pos (by rw [e]), lx_12, nI_add, lx_p]
theorem q_exn (d : Nat) {b : Nat → Nat} {n m p c : Nat} {σ : pm_H} {s : Nat → Int32} (h : tpX b n σ) (hp : p ≤ n) (hc : c ≤ 255) (e : tk b n p ≠ c) : xe (d + 2) 55 [.ref 1, .int (nI c)] (lx σ p (-1) m s) = some (none, lx σ (skp b n p) (nI (skp b n p)) m s) := by
  rw [en_X10_expect, sg_X10_expect_0, q_lk d h hp]
  simp only [pm_cl_some, Option.toList_some, Option.toList_none, List.cons_append, List.nil_append]
  rw [sg_X10_expect_4, if_neg (fun q => e ((nI_eq (by have := tk_le (p := p) (tpX_b h); omega) (by omega)).mp q)), q_fa0]
  simp only [pm_cl_some, Option.toList_some, Option.toList_none, List.cons_append, List.nil_append]
  rw [sg_X10_expect_29, lx_12]
theorem q_exF (d : Nat) {b : Nat → Nat} {n m p c g : Nat} {σ : pm_H} {s : Nat → Int32} (h : tpX b n σ) (hp : p ≤ n) (hg : g ≤ n) (hc0 : c ≠ 0) (hc : c ≤ 255) : ∃ p', p' ≤ n ∧ xe (d + 2) 55 [.ref 1, .int (nI c)] (lx σ p (nI g) m s) = some (none, lx σ p' (nI g) m s) := by
  have hn := h.1
  rw [en_X10_expect, sg_X10_expect_0, q_lk d h hp]
  simp only [pm_cl_some, Option.toList_some, Option.toList_none, List.cons_append, List.nil_append]
  rw [sg_X10_expect_4]
  by_cases e : tk b n p = c
  · have := tk_lt (b := b) (n := n) (p := p) (by omega)
    exact ⟨skp b n p + 1, by omega, by rw [if_pos (by rw [e]), lx_12, nI_add, lx_p]⟩
  · refine ⟨skp b n p, skp_le b hp, ?_⟩
    rw [if_neg (fun q => e ((nI_eq (by have := tk_le (p := p) (tpX_b h); omega) (by omega)).mp q)), q_fa1 _ _ (by omega)]
    simp only [pm_cl_some, Option.toList_some, Option.toList_none, List.cons_append, List.nil_append]
    rw [sg_X10_expect_29]
/-! numbers -/
def sg1 (b : Nat → Nat) (n p : Nat) : Nat := if p < n then b p else 0
theorem dg_sg {b : Nat → Nat} {n p : Nat} : dg b n p = (decide (48 ≤ sg1 b n p) && decide (sg1 b n p ≤ 57)) := by
  unfold dg sg1
  by_cases h : p < n <;> simp [h]
theorem dgd : ∀ t, t < 256 → ((nI t - nI 48 < 0) = (t < 48)) ∧ ((nI 9 < nI t - nI 48) = (57 < t)) := by
  have : ∀ t, t < 256 → ((nI t - nI 48 < 0) ↔ (t < 48)) ∧ ((nI 9 < nI t - nI 48) ↔ (57 < t)) := by decide +kernel
  exact fun t h => ⟨propext (this t h).1, propext (this t h).2⟩
theorem sg1_le {b : Nat → Nat} {n p : Nat} (h : okb b n) : sg1 b n p ≤ 255 := by
  unfold sg1
  split
  · exact (h.2 _ (by assumption)).2
  · omega
theorem q_sg (d : Nat) {b : Nat → Nat} {n m p : Nat} {σ : pm_H} {f : Int32} {s : Nat → Int32} (h : tpX b n σ) (hp : p ≤ n) : xe (d + 1) 53 [.ref 1] (lx σ p f m s) = some (some (.int (nI (sg1 b n p))), lx σ p f m s) := by
  have hn := h.1
  rw [en_X10_sign, sg_X10_sign_0, lx_12, lx_11, h.2.1, lx_2]
  unfold sg1
  by_cases c : p < n
  · rw [if_pos (nI_lt c (by omega)), if_pos c]
    simp (disch := omega) only [ck_n, nI_clamp, (h.2.2 p c).1]
  · rw [if_neg (nI_nlt (by omega) (by omega)), if_neg c]
def okNm (σ : pm_H) (m : Nat) (s : Nat → Int32) (r : Nat ⊕ (Nat × Nat)) (o : Option pm_R) : Prop := match r with
  | .inl f => ∃ v, o = some (some (.int v), lx σ f (nI f) m s)
  | .inr (v, q) => o = some (some (.int (nI v)), lx σ q (-1) m s)
theorem q_nm_l (d : Nat) {b : Nat → Nat} {n m D : Nat} {σ : pm_H} {s : Nat → Int32} (h : tpX b n σ) (hD : D ≤ 4) : ∀ (k i p v : Nat), i + k = D → p ≤ n → okNm σ m s (nmf b n k p v) (pm_run (xe (d + 1)) pg_X10_number (31, [.ref 1, .int (nI D), .int (nI v), .int (nI (sg1 b n p) - nI 48), .int (nI i)], [], lx σ p (-1) m s))
  | 0, i, p, v, e, hp => by
    obtain ⟨d1, d2⟩ := dgd (sg1 b n p) (by have := sg1_le (p := p) (tpX_b h); omega)
    rw [sg_X10_number_31, if_neg (nI_nlt (by omega) (by omega))]
    simp only [d1, d2]
    unfold nmf
    rw [dg_sg]
    by_cases c1 : sg1 b n p < 48
    · rw [if_pos c1]
      simp [show ¬ 48 ≤ sg1 b n p by omega, okNm]
    · rw [if_neg c1]
      by_cases c2 : 57 < sg1 b n p
      · rw [if_pos c2]
        simp [show ¬ sg1 b n p ≤ 57 by omega, okNm]
      · rw [if_neg c2, q_fa0]
        simp only [pm_cl_some, Option.toList_some, Option.toList_none, List.cons_append, List.nil_append]
        rw [sg_X10_number_96, lx_12]
        simp [show 48 ≤ sg1 b n p by omega, show sg1 b n p ≤ 57 by omega, okNm]
  | k + 1, i, p, v, e, hp => by
    obtain ⟨d1, d2⟩ := dgd (sg1 b n p) (by have := sg1_le (p := p) (tpX_b h); omega)
    rw [sg_X10_number_31, if_pos (nI_lt (by omega) (by omega))]
    simp only [d1, d2]
    unfold nmf
    by_cases c1 : sg1 b n p < 48
    · rw [if_pos c1, if_pos c1, dg_sg]
      simp [show ¬ 48 ≤ sg1 b n p by omega, okNm]
    · rw [if_neg c1]
      by_cases c2 : 57 < sg1 b n p
      · rw [if_pos c2, if_neg c1, if_pos c2, dg_sg]
        simp [show ¬ sg1 b n p ≤ 57 by omega, okNm]
      · have hd : dg b n p = true := by rw [dg_sg]; simp; omega
        have hpn := (dg_of hd).1
        rw [if_neg c2, lx_12, nI_add, lx_p, q_sg d h (by omega)]
        simp only [pm_cl_some, Option.toList_some, Option.toList_none, List.cons_append, List.nil_append]
        rw [sg_X10_number_68, nI_add, if_pos hd, pk_sub (show 48 ≤ sg1 b n p by omega), pk_mul, nI_add]
        have hb : sg1 b n p = b p := by unfold sg1; rw [if_pos hpn]
        rw [hb]
        exact q_nm_l d h hD k (i + 1) (p + 1) (v * 10 + (b p - 48)) (by omega) (by omega)
/-- a number of at most D digits -/
def numD (b : Nat → Nat) (n D p : Nat) : Nat ⊕ (Nat × Nat) := if dg b n p then nmf b n D p 0 else .inl p
theorem tk_sg {b : Nat → Nat} {n p : Nat} : sg1 b n (skp b n p) = tk b n p := rfl
theorem q_num (d : Nat) {b : Nat → Nat} {n m p D : Nat} {σ : pm_H} {s : Nat → Int32} (h : tpX b n σ) (hp : p ≤ n) (hD : D ≤ 4) (hD0 : 0 < D) : okNm σ m s (numD b n D (skp b n p)) (xe (d + 2) 52 [.ref 1, .int (nI D)] (lx σ p (-1) m s)) := by
  have hn := h.1
  have hq := skp_le b hp
  rw [en_X10_number, sg_X10_number_0, q_lk d h hp]
  simp only [pm_cl_some, Option.toList_some, Option.toList_none, List.cons_append, List.nil_append]
  rw [sg_X10_number_6]
  obtain ⟨d1, d2⟩ := dgd (tk b n p) (by have := tk_le (p := p) (tpX_b h); omega)
  simp only [d1, d2]
  rw [← tk_sg, lx_12]
  unfold numD
  by_cases c1 : sg1 b n (skp b n p) < 48
  · rw [if_pos c1, dg_sg, q_fa0]
    simp only [pm_cl_some, Option.toList_some, Option.toList_none, List.cons_append, List.nil_append]
    rw [sg_X10_number_28, sg_X10_number_31, if_pos (nI_lt (by omega) (by omega))]
    simp only [(dgd (sg1 b n (skp b n p)) (by omega)).1]
    rw [if_pos c1, if_pos c1]
    simp [show ¬ 48 ≤ sg1 b n (skp b n p) by omega, okNm]
  · rw [if_neg c1]
    by_cases c2 : 57 < sg1 b n (skp b n p)
    · rw [if_pos c2, dg_sg, q_fa0]
      simp only [pm_cl_some, Option.toList_some, Option.toList_none, List.cons_append, List.nil_append]
      have hs := sg1_le (p := skp b n p) (tpX_b h)
      rw [sg_X10_number_28, sg_X10_number_31, if_pos (nI_lt (by omega) (by omega))]
      simp only [(dgd (sg1 b n (skp b n p)) (by omega)).1, (dgd (sg1 b n (skp b n p)) (by omega)).2]
      rw [if_neg c1, if_pos c2, if_neg c1, if_pos c2]
      simp [show ¬ sg1 b n (skp b n p) ≤ 57 by omega, okNm]
    · have hd : dg b n (skp b n p) = true := by rw [dg_sg]; simp; omega
      rw [if_neg c2, if_pos hd]
      exact q_nm_l d h hD D 0 (skp b n p) 0 (by omega) hq
/-! steps are written -/
def pts (s : Nat → Int32) : Nat → List Int32 → (Nat → Int32)
  | _, [] => s
  | m, x :: c => pts (upd s m x) (m + 1) c
theorem pts_app (c' : List Int32) : ∀ (c : List Int32) (s : Nat → Int32) (m : Nat), pts s m (c ++ c') = pts (pts s m c) (m + c.length) c'
  | [], s, m => rfl
  | x :: c, s, m => by
    show pts (upd s m x) (m + 1) (c ++ c') = pts (pts (upd s m x) (m + 1) c) (m + (c.length + 1)) c'
    rw [pts_app c' c, show m + 1 + c.length = m + (c.length + 1) by omega]
theorem q_wr (d : Nat) {σ : pm_H} {p m : Nat} {f v : Int32} {s : Nat → Int32} (hm : m < 240) : xe (d + 1) 59 [.ref 10, .int v] (lx σ p f m s) = some (none, lx σ p f (m + 1) (upd s m v)) := by
  rw [en_X4_write, sg_X4_write_0, lx_m, if_pos (nI_lt hm (by omega))]
  simp (disch := omega) only [ck_n, nI_clamp]
  rw [show (pm_wI (lx σ p f m s) 11 m v).1 10 2 = nI m from by rw [wI_wC, wC_ne _ _ (by decide)]; rfl, nI_add, lx_w]
theorem q_wrF (d : Nat) {σ : pm_H} {p m : Nat} {f v : Int32} {s : Nat → Int32} (hm : m ≤ 240) : ∃ m' s', m' ≤ 240 ∧ xe (d + 1) 59 [.ref 10, .int v] (lx σ p f m s) = some (none, lx σ p f m' s') := by
  by_cases h : m < 240
  · exact ⟨_, _, by omega, q_wr d h⟩
  · refine ⟨m, s, hm, ?_⟩
    rw [en_X4_write, sg_X4_write_0, lx_m, if_neg (nI_nlt (by omega) (by omega))]
/-- a fault was found -/
def FX (σ : pm_H) (n g : Nat) (o : Option pm_R) : Prop := ∃ p m s, p ≤ n ∧ m ≤ 240 ∧ o = some (none, lx σ p (nI g) m s)
def spX {α : Type} (σ : pm_H) (n m : Nat) (s : Nat → Int32) (r : PV α) (o : Option pm_R) : Prop := match r with
  | .inl f => FX σ n f o
  | .inr (c, _, q) => o = some (none, lx σ q (-1) (m + c.length) (pts s m c))
theorem ite2 {α : Type} {t o1 o2 : Nat} (ht : t ≤ 255) (h1 : o1 ≤ 255) (h2 : o2 ≤ 255) (X Y : α) : (if nI t = nI o1 then X else if nI t = nI o2 then X else Y) = if t = o1 ∨ t = o2 then X else Y := by
  simp only [tkI_eq ht h1, tkI_eq ht h2]
  by_cases c1 : t = o1
  · rw [if_pos c1, if_pos (Or.inl c1)]
  · rw [if_neg c1]
    by_cases c2 : t = o2
    · rw [if_pos c2, if_pos (Or.inr c2)]
    · rw [if_neg c2, if_neg (by omega)]

theorem q_term_l (d : Nat) {b : Nat → Nat} {n m0 kk : Nat} {lv : Int32} {σ : pm_H} {s : Nat → Int32} {A : Nat → PV Int32} (h : tpX b n σ) (hok : ∀ p, p ≤ n → okV idI n kk p (A p)) (hA : ∀ p m s, p ≤ n → m ≤ p → spX σ n m s (A p) (xe (d + 2) 60 [.ref 10, .int lv] (lx σ p (-1) m s))) : ∀ (M k : Nat) (c : List Int32) (v : LV → Int32) (q : Nat) (w3 : Value), M + k = 241 → k < q → q ≤ n → m0 + c.length ≤ q → spX σ n m0 s (pL b n 42 47 A M c v q) (pm_run (xe (d + 2)) pg_X4_readTerm (7, [.ref 10, .int lv, .int (nI k), w3], [], lx σ q (-1) (m0 + c.length) (pts s m0 c)))
  | 0, k, c, v, q, w3, e, hk, hq, hm => by have := h.1; omega
  | M + 1, k, c, v, q, w3, e, hk, hq, hm => by
    have hn := h.1
    have hsk := skp_ge b n q
    rw [sg_X4_readTerm_7, if_pos (nI_lt (by omega) (by omega)), q_fl0]
    simp only [pm_cl_some, Option.toList_some, Option.toList_none, List.cons_append, List.nil_append]
    rw [sg_X4_readTerm_21, if_pos n00, q_lk (d + 1) h hq]
    simp only [pm_cl_some, Option.toList_some, Option.toList_none, List.cons_append, List.nil_append]
    have ht := tk_le (p := q) (tpX_b h)
    rw [sg_X4_readTerm_31, ite2 ht (by omega) (by omega), lx_12, nI_add, lx_p]
    unfold pL
    by_cases ct : tk b n q = 42 ∨ tk b n q = 47
    · rw [if_pos ct, if_pos ct]
      have hlt := tk_lt (b := b) (n := n) (p := q) (by omega)
      have ha := hA (skp b n q + 1) (m0 + c.length) (pts s m0 c) (by omega) (by omega)
      have hk2 := hok (skp b n q + 1) (by omega)
      match A (skp b n q + 1), ha, hk2 with
      | .inl f, ha, hk2 =>
        obtain ⟨p', m', s', h1, h2, h3⟩ := ha
        rw [h3]
        simp only [pm_cl_some, Option.toList_some, Option.toList_none, List.cons_append, List.nil_append]
        obtain ⟨m2, s2, h4, h5⟩ := q_wrF (d + 1) (σ := σ) (p := p') (f := nI f) (v := -(nI (tk b n q))) (s := s') h2
        rw [sg_X4_readTerm_63, h5]
        simp only [pm_cl_some, Option.toList_some, Option.toList_none, List.cons_append, List.nil_append]
        rw [sg_X4_readTerm_69, nI_add, sg_X4_readTerm_7]
        refine ⟨p', m2, s2, h1, h4, ?_⟩
        by_cases ck : k + 1 < 240
        · rw [if_pos (nI_lt ck (by omega)), q_fl1 _ (by have : f ≤ n := hk2; omega)]
          simp only [pm_cl_some, Option.toList_some, Option.toList_none, List.cons_append, List.nil_append]
          rw [sg_X4_readTerm_21, if_neg n10]
        · rw [if_neg (nI_nlt (by omega) (by omega))]
      | .inr (c2, v2, q2), ha, hk2 =>
        have ha : _ = _ := ha
        obtain ⟨⟨b1, b2, b3⟩, -⟩ := hk2
        rw [ha]
        simp only [pm_cl_some, Option.toList_some, Option.toList_none, List.cons_append, List.nil_append]
        rw [sg_X4_readTerm_63, q_wr (d + 1) (by omega)]
        simp only [pm_cl_some, Option.toList_some, Option.toList_none, List.cons_append, List.nil_append]
        rw [sg_X4_readTerm_69, nI_add]
        have := q_term_l d (m0 := m0) (s := s) h hok hA M (k + 1) (c ++ c2 ++ [-(nI (tk b n q))]) (fun L => opv (tk b n q) (v L) (v2 L)) q2 (.int (nI (tk b n q))) (by omega) (by omega) b2 (by simp only [List.length_append, List.length_cons, List.length_nil]; omega)
        rw [pts_app, pts_app] at this
        simp only [List.length_append, List.length_cons, List.length_nil, pts] at this
        rw [show m0 + (c.length + c2.length + (0 + 1)) = m0 + c.length + c2.length + 1 by omega, show m0 + (c.length + c2.length) = m0 + c.length + c2.length by omega] at this
        exact this
    · rw [if_neg ct, if_neg ct]
      rfl
theorem q_termF (d : Nat) {b : Nat → Nat} {n p m g : Nat} {lv : Int32} {σ : pm_H} {s : Nat → Int32} (h : tpX b n σ) (hg : g ≤ n) (hF : FX σ n g (xe (d + 2) 60 [.ref 10, .int lv] (lx σ p (nI g) m s))) : FX σ n g (xe (d + 3) 62 [.ref 10, .int lv] (lx σ p (nI g) m s)) := by
  have hn := h.1
  obtain ⟨p', m', s', h1, h2, h3⟩ := hF
  rw [en_X4_readTerm, sg_X4_readTerm_0, h3]
  simp only [pm_cl_some, Option.toList_some, Option.toList_none, List.cons_append, List.nil_append]
  rw [sg_X4_readTerm_5, sg_X4_readTerm_7, if_pos (nI_lt (by omega) (by omega)), q_fl1 _ (by omega)]
  simp only [pm_cl_some, Option.toList_some, Option.toList_none, List.cons_append, List.nil_append]
  rw [sg_X4_readTerm_21, if_neg n10]
  exact ⟨p', m', s', h1, h2, rfl⟩
theorem q_term (d : Nat) {b : Nat → Nat} {n kk : Nat} {lv : Int32} {σ : pm_H} {A : Nat → PV Int32} (h : tpX b n σ) (hok : ∀ p, p ≤ n → okV idI n kk p (A p)) (hA : ∀ p m s, p ≤ n → m ≤ p → spX σ n m s (A p) (xe (d + 2) 60 [.ref 10, .int lv] (lx σ p (-1) m s))) (p m : Nat) (s : Nat → Int32) (hp : p ≤ n) (hm : m ≤ p) : spX σ n m s (pTerm b n A p) (xe (d + 3) 62 [.ref 10, .int lv] (lx σ p (-1) m s)) := by
  have hn := h.1
  have ha := hA p m s hp hm
  have hk := hok p hp
  rw [en_X4_readTerm, sg_X4_readTerm_0]
  unfold pTerm
  match A p, ha, hk with
  | .inl f, ha, hk =>
    obtain ⟨p', m', s', h1, h2, h3⟩ := ha
    have hf : f ≤ n := hk
    rw [h3]
    simp only [pm_cl_some, Option.toList_some, Option.toList_none, List.cons_append, List.nil_append]
    rw [sg_X4_readTerm_5, sg_X4_readTerm_7, if_pos (nI_lt (by omega) (by omega)), q_fl1 _ (by omega)]
    simp only [pm_cl_some, Option.toList_some, Option.toList_none, List.cons_append, List.nil_append]
    rw [sg_X4_readTerm_21, if_neg n10]
    exact ⟨p', m', s', h1, h2, rfl⟩
  | .inr (c, v, q), ha, hk =>
    have ha : _ = _ := ha
    obtain ⟨⟨b1, b2, b3⟩, -⟩ := hk
    rw [ha]
    simp only [pm_cl_some, Option.toList_some, Option.toList_none, List.cons_append, List.nil_append]
    rw [sg_X4_readTerm_5]
    exact q_term_l d h hok hA 241 0 c v q .null (by omega) (by omega) b2 (by omega)

/-- a sum over its terms -/
def pSu (b : Nat → Nat) (n : Nat) (A : Nat → PV Int32) (p : Nat) : PV Int32 := match A p with
  | .inl f => .inl f
  | .inr (c, v, q) => pL b n 43 45 A 241 c v q
theorem pSum_Su (b : Nat → Nat) (n : Nat) (A : Nat → PV Int32) (p : Nat) : pSum b n A p = pSu b n (pTerm b n A) p := rfl

theorem q_smm_l (d : Nat) {b : Nat → Nat} {n m0 kk : Nat} {lv : Int32} {σ : pm_H} {s : Nat → Int32} {A : Nat → PV Int32} (h : tpX b n σ) (hok : ∀ p, p ≤ n → okV idI n kk p (A p)) (hA : ∀ p m s, p ≤ n → m ≤ p → spX σ n m s (A p) (xe (d + 2) 62 [.ref 10, .int lv] (lx σ p (-1) m s))) : ∀ (M k : Nat) (c : List Int32) (v : LV → Int32) (q : Nat) (w3 : Value), M + k = 241 → k < q → q ≤ n → m0 + c.length ≤ q → spX σ n m0 s (pL b n 43 45 A M c v q) (pm_run (xe (d + 2)) pg_X4_readSum (7, [.ref 10, .int lv, .int (nI k), w3], [], lx σ q (-1) (m0 + c.length) (pts s m0 c)))
  | 0, k, c, v, q, w3, e, hk, hq, hm => by have := h.1; omega
  | M + 1, k, c, v, q, w3, e, hk, hq, hm => by
    have hn := h.1
    have hsk := skp_ge b n q
    rw [sg_X4_readSum_7, if_pos (nI_lt (by omega) (by omega)), q_fl0]
    simp only [pm_cl_some, Option.toList_some, Option.toList_none, List.cons_append, List.nil_append]
    rw [sg_X4_readSum_21, if_pos n00, q_lk (d + 1) h hq]
    simp only [pm_cl_some, Option.toList_some, Option.toList_none, List.cons_append, List.nil_append]
    have ht := tk_le (p := q) (tpX_b h)
    rw [sg_X4_readSum_31, ite2 ht (by omega) (by omega), lx_12, nI_add, lx_p]
    unfold pL
    by_cases ct : tk b n q = 43 ∨ tk b n q = 45
    · rw [if_pos ct, if_pos ct]
      have hlt := tk_lt (b := b) (n := n) (p := q) (by omega)
      have ha := hA (skp b n q + 1) (m0 + c.length) (pts s m0 c) (by omega) (by omega)
      have hk2 := hok (skp b n q + 1) (by omega)
      match A (skp b n q + 1), ha, hk2 with
      | .inl f, ha, hk2 =>
        obtain ⟨p', m', s', h1, h2, h3⟩ := ha
        rw [h3]
        simp only [pm_cl_some, Option.toList_some, Option.toList_none, List.cons_append, List.nil_append]
        obtain ⟨m2, s2, h4, h5⟩ := q_wrF (d + 1) (σ := σ) (p := p') (f := nI f) (v := -(nI (tk b n q))) (s := s') h2
        rw [sg_X4_readSum_63, h5]
        simp only [pm_cl_some, Option.toList_some, Option.toList_none, List.cons_append, List.nil_append]
        rw [sg_X4_readSum_69, nI_add, sg_X4_readSum_7]
        refine ⟨p', m2, s2, h1, h4, ?_⟩
        by_cases ck : k + 1 < 240
        · rw [if_pos (nI_lt ck (by omega)), q_fl1 _ (by have : f ≤ n := hk2; omega)]
          simp only [pm_cl_some, Option.toList_some, Option.toList_none, List.cons_append, List.nil_append]
          rw [sg_X4_readSum_21, if_neg n10]
        · rw [if_neg (nI_nlt (by omega) (by omega))]
      | .inr (c2, v2, q2), ha, hk2 =>
        have ha : _ = _ := ha
        obtain ⟨⟨b1, b2, b3⟩, -⟩ := hk2
        rw [ha]
        simp only [pm_cl_some, Option.toList_some, Option.toList_none, List.cons_append, List.nil_append]
        rw [sg_X4_readSum_63, q_wr (d + 1) (by omega)]
        simp only [pm_cl_some, Option.toList_some, Option.toList_none, List.cons_append, List.nil_append]
        rw [sg_X4_readSum_69, nI_add]
        have := q_smm_l d (m0 := m0) (s := s) h hok hA M (k + 1) (c ++ c2 ++ [-(nI (tk b n q))]) (fun L => opv (tk b n q) (v L) (v2 L)) q2 (.int (nI (tk b n q))) (by omega) (by omega) b2 (by simp only [List.length_append, List.length_cons, List.length_nil]; omega)
        rw [pts_app, pts_app] at this
        simp only [List.length_append, List.length_cons, List.length_nil, pts] at this
        rw [show m0 + (c.length + c2.length + (0 + 1)) = m0 + c.length + c2.length + 1 by omega, show m0 + (c.length + c2.length) = m0 + c.length + c2.length by omega] at this
        exact this
    · rw [if_neg ct, if_neg ct]
      rfl
theorem q_smmF (d : Nat) {b : Nat → Nat} {n p m g : Nat} {lv : Int32} {σ : pm_H} {s : Nat → Int32} (h : tpX b n σ) (hg : g ≤ n) (hF : FX σ n g (xe (d + 2) 62 [.ref 10, .int lv] (lx σ p (nI g) m s))) : FX σ n g (xe (d + 3) 58 [.ref 10, .int lv] (lx σ p (nI g) m s)) := by
  have hn := h.1
  obtain ⟨p', m', s', h1, h2, h3⟩ := hF
  rw [en_X4_readSum, sg_X4_readSum_0, h3]
  simp only [pm_cl_some, Option.toList_some, Option.toList_none, List.cons_append, List.nil_append]
  rw [sg_X4_readSum_5, sg_X4_readSum_7, if_pos (nI_lt (by omega) (by omega)), q_fl1 _ (by omega)]
  simp only [pm_cl_some, Option.toList_some, Option.toList_none, List.cons_append, List.nil_append]
  rw [sg_X4_readSum_21, if_neg n10]
  exact ⟨p', m', s', h1, h2, rfl⟩
theorem q_smm (d : Nat) {b : Nat → Nat} {n kk : Nat} {lv : Int32} {σ : pm_H} {A : Nat → PV Int32} (h : tpX b n σ) (hok : ∀ p, p ≤ n → okV idI n kk p (A p)) (hA : ∀ p m s, p ≤ n → m ≤ p → spX σ n m s (A p) (xe (d + 2) 62 [.ref 10, .int lv] (lx σ p (-1) m s))) (p m : Nat) (s : Nat → Int32) (hp : p ≤ n) (hm : m ≤ p) : spX σ n m s (pSu b n A p) (xe (d + 3) 58 [.ref 10, .int lv] (lx σ p (-1) m s)) := by
  have hn := h.1
  have ha := hA p m s hp hm
  have hk := hok p hp
  rw [en_X4_readSum, sg_X4_readSum_0]
  unfold pSu
  match A p, ha, hk with
  | .inl f, ha, hk =>
    obtain ⟨p', m', s', h1, h2, h3⟩ := ha
    have hf : f ≤ n := hk
    rw [h3]
    simp only [pm_cl_some, Option.toList_some, Option.toList_none, List.cons_append, List.nil_append]
    rw [sg_X4_readSum_5, sg_X4_readSum_7, if_pos (nI_lt (by omega) (by omega)), q_fl1 _ (by omega)]
    simp only [pm_cl_some, Option.toList_some, Option.toList_none, List.cons_append, List.nil_append]
    rw [sg_X4_readSum_21, if_neg n10]
    exact ⟨p', m', s', h1, h2, rfl⟩
  | .inr (c, v, q), ha, hk =>
    have ha : _ = _ := ha
    obtain ⟨⟨b1, b2, b3⟩, -⟩ := hk
    rw [ha]
    simp only [pm_cl_some, Option.toList_some, Option.toList_none, List.cons_append, List.nil_append]
    rw [sg_X4_readSum_5]
    exact q_smm_l d h hok hA 241 0 c v q .null (by omega) (by omega) b2 (by omega)

/-! ===== the reference's reader of LAWS ===== -/
/-- a byte as it is kept -/
def byt (x : Nat) : Int32 := if x < 128 then nI x else nI x - nI 256
theorem byt_d : ∀ x, x < 256 → byt x &&& nI 255 = nI x ∧ (byt x = nI 32 ↔ x = 32) ∧ (byt x < nI 48 ↔ (x < 48 ∨ 128 ≤ x)) ∧ (nI 57 < byt x ↔ (57 < x ∧ x < 128)) := by decide +kernel
def tpM (b : Nat → Nat) (n : Nat) (σ : pm_H) : Prop := okb b n ∧ ∃ c N B, pm_kd c = .inl (1, N, 0) ∧ c < 1000 ∧ c ≠ 133 ∧ σ.1 133 5 = nI c ∧ σ.1 133 8 = nI B ∧ σ.1 133 9 = nI n ∧ B + n ≤ N ∧ N < 2 ^ 30 ∧ ∀ i, i < n → σ.1 c (B + i) = byt (b i)
/-- at p, fault f, deep dp -/
def my (σ : pm_H) (p : Nat) (f dp : Int32) : pm_H := pm_wC σ 133 (upd (upd (upd (σ.1 133) 10 (nI p)) 11 f) 12 dp)
section MY
variable {σ : pm_H} {p : Nat} {f dp : Int32}
theorem my_133 : (my σ p f dp).1 133 = upd (upd (upd (σ.1 133) 10 (nI p)) 11 f) 12 dp := wC_at _ _ _
theorem my_10 : (my σ p f dp).1 133 10 = nI p := by rw [my_133]; rfl
theorem my_11 : (my σ p f dp).1 133 11 = f := by rw [my_133]; rfl
theorem my_12 : (my σ p f dp).1 133 12 = dp := by rw [my_133]; rfl
theorem my_k {k : Nat} (h : k ≠ 10 ∧ k ≠ 11 ∧ k ≠ 12) : (my σ p f dp).1 133 k = σ.1 133 k := by rw [my_133, up_ne _ _ h.2.2, up_ne _ _ h.2.1, up_ne _ _ h.1]
theorem my_ne {c : Nat} (h : c ≠ 133) : (my σ p f dp).1 c = σ.1 c := wC_ne _ _ h
theorem my_p (p' : Nat) : pm_wI (my σ p f dp) 133 10 (nI p') = my σ p' f dp := by
  rw [wI_wC, my_133]
  unfold my
  rw [wC_wC, up_cm _ _ _ (by decide : (12 : Nat) ≠ 10), up_cm _ _ _ (by decide : (11 : Nat) ≠ 10), up_up]
theorem my_f (f' : Int32) : pm_wI (my σ p f dp) 133 11 f' = my σ p f' dp := by
  rw [wI_wC, my_133]
  unfold my
  rw [wC_wC, up_cm _ _ _ (by decide : (12 : Nat) ≠ 11), up_up]
theorem my_d (d' : Int32) : pm_wI (my σ p f dp) 133 12 d' = my σ p f d' := by
  rw [wI_wC, my_133]
  unfold my
  rw [wC_wC, up_up]
end MY
theorem tkI_is {t c : Nat} (ht : t ≤ 255) (hc : c ≤ 255) (h0 : c ≠ 0) : (tkI t = nI c) = (t = c) := by
  unfold tkI
  by_cases h : t = 0
  · rw [if_pos h]
    refine propext ⟨fun e => absurd e.symm (nI_nm1 (by omega)), fun e => by omega⟩
  · rw [if_neg h, tkI_eq ht hc]
theorem tkI_end {t : Nat} (ht : t ≤ 255) : (tkI t = -1) = (t = 0) := by
  unfold tkI
  by_cases h : t = 0
  · rw [if_pos h]
    exact propext ⟨fun _ => h, fun _ => rfl⟩
  · rw [if_neg h]
    exact propext ⟨fun e => absurd e (nI_nm1 (by omega)), fun e => absurd e h⟩
theorem r_lk_l (d : Nat) {b : Nat → Nat} {n : Nat} {σ : pm_H} {f dp : Int32} (h : tpM b n σ) : ∀ (k p : Nat), p + k = n → pm_run (xe d) pg_X12_look (0, [.ref 133], [], my σ p f dp) = some (some (.int (tkI (tk b n p))), my σ (skp b n p) f dp)
  | k, p, e => by
    obtain ⟨⟨hn, hb⟩, c, N, B, h1, h2, h3, h4, h5, h6, h7, h8, h9⟩ := h
    have ht : pm_kd (((my σ p f dp).1 133 5).toNatClampNeg) = .inl (1, N, 0) := by rw [my_k (by decide), h4, nI_clamp (by omega)]; exact h1
    rw [sg_X12_look_0 ht, my_10, my_k (show (9 : Nat) ≠ 10 ∧ (9 : Nat) ≠ 11 ∧ (9 : Nat) ≠ 12 by decide), my_k (show (8 : Nat) ≠ 10 ∧ (8 : Nat) ≠ 11 ∧ (8 : Nat) ≠ 12 by decide), my_k (show (5 : Nat) ≠ 10 ∧ (5 : Nat) ≠ 11 ∧ (5 : Nat) ≠ 12 by decide), h4, h5, h6, nI_clamp (show c < 2 ^ 31 by omega), my_ne h3, nI_add, nI_add]
    match k, e with
    | 0, e =>
      rw [if_neg (nI_nlt (by omega) (by omega)), if_neg (nI_nlt (by omega) (by omega)), (tk_e (show n ≤ p by omega)).1, (tk_e (show n ≤ p by omega)).2]
      rfl
    | k + 1, e =>
      have hx := hb p (by omega)
      obtain ⟨y1, y2, -, -⟩ := byt_d (b p) (by omega)
      rw [if_pos (nI_lt (show p < n by omega) (by omega))]
      simp (disch := omega) only [ck_n, nI_clamp, h9 p (by omega), y1]
      by_cases cc : b p = 32
      · rw [if_pos (y2.mpr cc), my_p, r_lk_l d ⟨⟨hn, hb⟩, c, N, B, h1, h2, h3, h4, h5, h6, h7, h8, h9⟩ k (p + 1) (by omega), (tk_s (by omega) cc).1, (tk_s (by omega) cc).2]
      · rw [if_neg (fun q => cc (y2.mp q)), if_pos (nI_lt (by omega) (by omega)), (tk_h (by omega) cc).1, (tk_h (by omega) cc).2]
        unfold tkI
        rw [if_neg (by omega)]
theorem r_lk (d : Nat) {b : Nat → Nat} {n p : Nat} {σ : pm_H} {f dp : Int32} (h : tpM b n σ) (hp : p ≤ n) : xe (d + 1) 74 [.ref 133] (my σ p f dp) = some (some (.int (tkI (tk b n p))), my σ (skp b n p) f dp) := by
  rw [en_X12_look, r_lk_l d h (n - p) p (by omega)]
theorem r_fa0 (d : Nat) {σ : pm_H} {p : Nat} {dp : Int32} : xe (d + 1) 75 [.ref 133] (my σ p (-1) dp) = some (some (.int (nI 0)), my σ p (nI p) dp) := by
  rw [en_X12_fails, sg_X12_fails_0, my_11, if_pos rfl, my_10, my_f]
theorem r_fa1 (d : Nat) {σ : pm_H} {p g : Nat} {dp : Int32} (hg : g < 2 ^ 31) : xe (d + 1) 75 [.ref 133] (my σ p (nI g) dp) = some (some (.int (nI 0)), my σ p (nI g) dp) := by
  rw [en_X12_fails, sg_X12_fails_0, my_11, if_neg (nI_nm1 hg)]
theorem nr0 : narrow .boolean (.int (nI 0)) = .int (nI 0) := by decide
theorem nrb (w : Bool) : narrow .boolean (.int (b32 w)) = .int (b32 w) := by cases w <;> decide
theorem r_tky (d : Nat) {b : Nat → Nat} {n p c : Nat} {σ : pm_H} {dp : Int32} (h : tpM b n σ) (hp : p ≤ n) (hc : c ≤ 255) (h0 : c ≠ 0) (e : tk b n p = c) : xe (d + 2) 93 [.ref 133, .int (nI c)] (my σ p (-1) dp) = some (some (.int (nI 1)), my σ (skp b n p + 1) (-1) dp) := by
  rw [en_X12_takes, sg_X12_takes_0, my_11, if_pos rfl, r_lk d h hp]
  simp only [pm_cl_some, Option.toList_some, Option.toList_none, List.cons_append, List.nil_append]
  rw [sg_X12_takes_12, if_pos ((tkI_is (tk_le h.1) hc h0).mpr e), my_10, nI_add, my_p]
theorem r_tkn (d : Nat) {b : Nat → Nat} {n p c : Nat} {σ : pm_H} {dp : Int32} (h : tpM b n σ) (hp : p ≤ n) (hc : c ≤ 255) (h0 : c ≠ 0) (e : tk b n p ≠ c) : xe (d + 2) 93 [.ref 133, .int (nI c)] (my σ p (-1) dp) = some (some (.int (nI 0)), my σ (skp b n p) (nI (skp b n p)) dp) := by
  rw [en_X12_takes, sg_X12_takes_0, my_11, if_pos rfl, r_lk d h hp]
  simp only [pm_cl_some, Option.toList_some, Option.toList_none, List.cons_append, List.nil_append]
  rw [sg_X12_takes_12, if_neg (fun q => e ((tkI_is (tk_le h.1) hc h0).mp q)), r_fa0]
  simp only [pm_cl_some, Option.toList_some, Option.toList_none, List.cons_append, List.nil_append]
  rw [sg_X12_takes_20, if_pos nr0]
theorem r_tkF (d : Nat) {σ : pm_H} {p g : Nat} {dp c : Int32} (hg : g < 2 ^ 31) : xe (d + 2) 93 [.ref 133, .int c] (my σ p (nI g) dp) = some (some (.int (nI 0)), my σ p (nI g) dp) := by
  rw [en_X12_takes, sg_X12_takes_0, my_11, if_neg (nI_nm1 hg), r_fa1 _ hg]
  simp only [pm_cl_some, Option.toList_some, Option.toList_none, List.cons_append, List.nil_append]
  rw [sg_X12_takes_20, if_pos nr0]
theorem r_dg (d : Nat) {b : Nat → Nat} {n p : Nat} {σ : pm_H} {f dp : Int32} (h : tpM b n σ) (hp : p ≤ n) : xe (d + 1) 88 [.ref 133] (my σ p f dp) = some (some (.int (b32 (dg b n p))), my σ p f dp) := by
  obtain ⟨⟨hn, hb⟩, c, N, B, h1, h2, h3, h4, h5, h6, h7, h8, h9⟩ := h
  have ht : pm_kd (((my σ p f dp).1 133 5).toNatClampNeg) = .inl (1, N, 0) := by rw [my_k (by decide), h4, nI_clamp (by omega)]; exact h1
  rw [en_X12_isDigit, sg_X12_isDigit_0 ht, my_10, my_k (show (9 : Nat) ≠ 10 ∧ (9 : Nat) ≠ 11 ∧ (9 : Nat) ≠ 12 by decide), my_k (show (8 : Nat) ≠ 10 ∧ (8 : Nat) ≠ 11 ∧ (8 : Nat) ≠ 12 by decide), my_k (show (5 : Nat) ≠ 10 ∧ (5 : Nat) ≠ 11 ∧ (5 : Nat) ≠ 12 by decide), h4, h5, h6, nI_clamp (show c < 2 ^ 31 by omega), my_ne h3, nI_add]
  unfold dg
  by_cases cc : p < n
  · have hx := hb p cc
    obtain ⟨-, -, y3, y4⟩ := byt_d (b p) (by omega)
    rw [if_pos (nI_lt cc (by omega))]
    simp (disch := omega) only [ck_n, nI_clamp, h9 p cc]
    by_cases c1 : byt (b p) < nI 48
    · rw [if_pos c1]
      have := y3.mp c1
      have : (decide (48 ≤ b p) && decide (b p ≤ 57)) = false := by
        by_cases q : 48 ≤ b p
        · simp [q]; omega
        · simp [q]
      simp [this, b32]
    · rw [if_neg c1]
      have n3 : ¬ (b p < 48 ∨ 128 ≤ b p) := fun q => c1 (y3.mpr q)
      by_cases c2 : nI 57 < byt (b p)
      · rw [if_pos c2]
        have := y4.mp c2
        simp [show ¬ b p ≤ 57 by omega, b32]
      · rw [if_neg c2]
        have n4 : ¬ (57 < b p ∧ b p < 128) := fun q => c2 (y4.mpr q)
        simp [cc, show 48 ≤ b p by omega, show b p ≤ 57 by omega, b32]
  · rw [if_neg (nI_nlt (by omega) (by omega))]
    simp [cc, b32]
theorem r_wi (d : Nat) (σ : pm_H) (z : Int64) : xe (d + 1) 98 [.long z] σ = some (some (.int (hld z)), σ) := by
  rw [en_X12_within, sg_X12_within_0]
  congr 4
  unfold hld
  by_cases c1 : z < 1000000
  · have n1 : ¬ (1000000 : Int64) < z := fun q => by
      rw [Int64.lt_iff_toInt_lt] at q c1
      omega
    rw [if_pos c1, if_neg n1]
    by_cases c2 : z < -1000000
    · rw [if_pos c2, if_pos c2]
      decide
    · rw [if_neg c2, if_neg c2]
  · rw [if_neg c1, if_neg (by decide)]
    by_cases c3 : (1000000 : Int64) < z
    · rw [if_pos c3]
      decide
    · have e : z = 1000000 := by
        rw [Int64.lt_iff_toInt_lt] at c1 c3
        have : z.toInt = (1000000 : Int64).toInt := by omega
        exact Int64.toInt_inj.mp this
      subst e
      decide
theorem hld_i {x : Int32} (h : bd x) : hld x.toInt64 = x := by
  unfold hld
  have e1 : (1000000 : Int64).toInt = 1000000 := by decide
  have e2 : (-1000000 : Int64).toInt = -1000000 := by decide
  obtain ⟨h1, h2⟩ := h
  rw [if_neg (by rw [Int64.lt_iff_toInt_lt, Int32.toInt_toInt64, e1]; omega), if_neg (by rw [Int64.lt_iff_toInt_lt, Int32.toInt_toInt64, e2]; omega)]
  exact Int32.toInt32_toInt64 x
theorem i64_div {x y : Int32} (h : bd x) : x.toInt64 / y.toInt64 = (x / y).toInt64 := by
  have h1 : x.toInt64 ≠ Int64.minValue := by
    intro e
    have := congrArg Int64.toInt e
    rw [Int32.toInt_toInt64] at this
    have h2 : Int64.minValue.toInt = -9223372036854775808 := by decide
    have := h.1
    omega
  refine Int64.toInt_inj.mp ?_
  rw [Int64.toInt_div_of_ne_left _ _ h1, Int32.toInt_toInt64, Int32.toInt_toInt64, Int32.toInt_toInt64, (div_bd h).1]
theorem lgc0 (y : Int32) : (lg_cmp y.toInt64 (0 : Int64) = 0) = (y = 0) := by
  have hz : (0 : Int64) = (0 : Int32).toInt64 := by decide
  have a1 := lg_cmp_lt y.toInt64 (0 : Int64)
  have a2 := lg_cmp_gt y.toInt64 (0 : Int64)
  rw [hz, i64_lt] at a1 a2
  rw [hz]
  refine propext ⟨fun e => ?_, fun e => ?_⟩
  · have n1 : ¬ y < 0 := fun q => by have := a1.mpr q; rw [e] at this; exact absurd this (by decide)
    have n2 : ¬ 0 < y := fun q => by have := a2.mpr q; rw [e] at this; exact absurd this (by decide)
    rw [Int32.lt_iff_toInt_lt] at n1 n2
    exact Int32.toInt_inj.mp (by omega)
  · subst e
    decide
theorem opv_47 (x y : Int32) : opv 47 x y = if y = 0 then 0 else x / y := by
  unfold opv
  rw [if_neg (by decide), if_neg (by decide), if_neg (by decide)]
theorem opv_45 (x y : Int32) : opv 45 x y = hld (x.toInt64 - y.toInt64) := by
  unfold opv
  rw [if_neg (by decide), if_pos rfl]
theorem opv_43 (x y : Int32) : opv 43 x y = hld (x.toInt64 + y.toInt64) := by
  unfold opv
  rw [if_pos rfl]
theorem opv_42 (x y : Int32) : opv 42 x y = hld (x.toInt64 * y.toInt64) := by
  unfold opv
  rw [if_neg (by decide), if_neg (by decide), if_pos rfl]
def LM (σ : pm_H) : LV := fun i => σ.1 137 (lcd i)
/-- what the reference answers -/
def spM {α : Type} (e : α → Int32) (σ : pm_H) (dp : Int32) (r : PV α) (o : Option pm_R) : Prop := match r with
  | .inl f => ∃ (w : α) (p' : Nat) (d' : Int32), o = some (some (.int (e w)), my σ p' (nI f) d')
  | .inr (_, v, q) => o = some (some (.int (e (v (LM σ)))), my σ q (-1) dp)
theorem r_gi6 (d : Nat) {σ : pm_H} {p : Nat} : xe (d + 2) 102 [.ref 133] (my σ p (-1) (nI 6)) = some (some (.int (nI 0)), my σ p (nI p) (nI 6)) := by
  rw [en_X12_goesIn, sg_X12_goesIn_0, my_12, if_pos rfl, r_fa0]
  simp only [pm_cl_some, Option.toList_some, Option.toList_none, List.cons_append, List.nil_append]
  rw [sg_X12_goesIn_13, if_pos nr0]
theorem r_gi (d : Nat) {σ : pm_H} {p j : Nat} (hj : j < 6) : xe (d + 2) 102 [.ref 133] (my σ p (-1) (nI j)) = some (some (.int (nI 1)), my σ (p + 1) (-1) (nI (j + 1))) := by
  rw [en_X12_goesIn, sg_X12_goesIn_0, my_12, if_neg (fun e => by have := (nI_eq (by omega) (by omega)).mp e; omega), nI_add, my_d, my_10, nI_add, my_p, sg_X12_goesIn_34]
theorem r_nm_l (d : Nat) {b : Nat → Nat} {n : Nat} {σ : pm_H} {dp : Int32} (h : tpM b n σ) : ∀ (k i p v : Nat) (w : Value), i + k = 4 → p ≤ n → spM idI σ dp (match nmf b n k p v with
    | .inl f => (.inl f : PV Int32)
    | .inr (v, q) => .inr ([nI v], fun _ => nI v, q)) (pm_run (xe (d + 1)) pg_X12_atom (90, [.ref 133, w, .int (nI v), .int (nI i)], [], my σ p (-1) dp))
  | k, i, p, v, w, e, hp => by
    have hh := h
    obtain ⟨⟨hn, hb⟩, c, N, B, h1, h2, h3, h4, h5, h6, h7, h8, h9⟩ := h
    have ht : pm_kd (((my σ p (-1) dp).1 133 5).toNatClampNeg) = .inl (1, N, 0) := by rw [my_k (by decide), h4, nI_clamp (by omega)]; exact h1
    rw [sg_X12_atom_90 ht, r_dg d hh hp]
    simp only [pm_cl_some, Option.toList_some, Option.toList_none, List.cons_append, List.nil_append]
    rw [sg_X12_atom_94 ht, my_11, if_pos (rfl : (-1 : Int32) = -1)]
    match k, e with
    | 0, e =>
      unfold nmf
      cases hd : dg b n p
      · rw [if_pos bf0, if_neg (show ¬ (false = true) by decide)]
        rfl
      · rw [if_pos (show true = true from rfl), if_neg bt0, if_pos (show nI i = nI 4 by rw [show i = 4 by omega]), r_fa0]
        simp only [pm_cl_some, Option.toList_some, Option.toList_none, List.cons_append, List.nil_append]
        have ht2 : pm_kd (((my σ p (nI p) dp).1 133 5).toNatClampNeg) = .inl (1, N, 0) := by rw [my_k (by decide), h4, nI_clamp (by omega)]; exact h1
        rw [sg_X12_atom_114 ht2]
        exact ⟨nI 0, p, dp, rfl⟩
    | k + 1, e =>
      unfold nmf
      cases hd : dg b n p
      · rw [if_pos bf0, if_neg (show ¬ (false = true) by decide)]
        rfl
      · obtain ⟨d1, d2, d3⟩ := dg_of hd
        rw [if_pos (show true = true from rfl), if_neg bt0, if_neg (fun e => by have := (nI_eq (by omega) (by omega)).mp e; omega), my_10, my_k (show (8 : Nat) ≠ 10 ∧ (8 : Nat) ≠ 11 ∧ (8 : Nat) ≠ 12 by decide), my_k (show (5 : Nat) ≠ 10 ∧ (5 : Nat) ≠ 11 ∧ (5 : Nat) ≠ 12 by decide), h4, h5, nI_clamp (show c < 2 ^ 31 by omega), my_ne h3, nI_add, nI_add, nI_add, my_p]
        simp (disch := omega) only [ck_n, nI_clamp, h9 p d1]
        rw [show byt (b p) = nI (b p) from by unfold byt; rw [if_pos (by omega)], pk_mul, nI_add, pk_sub (by omega), show 10 * v + b p - 48 = v * 10 + (b p - 48) by omega]
        exact r_nm_l d hh k (i + 1) (p + 1) (v * 10 + (b p - 48)) .null (by omega) (by omega)
theorem r_atn (d : Nat) {b : Nat → Nat} {n P : Nat} {σ : pm_H} {l1 dp : Int32} (h : tpM b n σ) (hP : P ≤ n) : spM idI σ dp (match num b n P with
    | .inl f => (.inl f : PV Int32)
    | .inr (v, q) => .inr ([nI v], fun _ => nI v, q)) (pm_cl (xe (d + 1) 88 [.ref 133] (my σ P (-1) dp)) (fun r => pm_run (xe (d + 1)) pg_X12_atom (78, [.ref 133, .int l1, .null, .null], r.1.toList ++ [], r.2))) := by
  have hh := h
  obtain ⟨⟨hn, hb⟩, c, N, B, h1, h2, h3, h4, h5, h6, h7, h8, h9⟩ := h
  have ht : ∀ f, pm_kd (((my σ P f dp).1 133 5).toNatClampNeg) = .inl (1, N, 0) := fun f => by rw [my_k (by decide), h4, nI_clamp (by omega)]; exact h1
  rw [r_dg d hh hP]
  simp only [pm_cl_some, Option.toList_some, Option.toList_none, List.cons_append, List.nil_append]
  rw [sg_X12_atom_78 (ht _)]
  unfold num
  cases hd : dg b n P
  · rw [if_neg (show ¬ (false = true) by decide), if_pos bf0, r_fa0]
    simp only [pm_cl_some, Option.toList_some, Option.toList_none, List.cons_append, List.nil_append]
    rw [sg_X12_atom_85 (ht _), sg_X12_atom_90 (ht _), r_dg d hh hP, hd]
    simp only [pm_cl_some, Option.toList_some, Option.toList_none, List.cons_append, List.nil_append]
    rw [sg_X12_atom_94 (ht _), if_pos bf0]
    exact ⟨nI 0, P, dp, rfl⟩
  · rw [if_pos (show true = true from rfl), if_neg bt0]
    exact r_nm_l d hh 4 0 P 0 _ (by omega) hP
theorem r_atom (d : Nat) {b : Nat → Nat} {n kk j : Nat} {σ : pm_H} {S : Option (Nat → PV Int32)} (h : tpM b n σ) (h6 : S = none → j = 6) (hS : ∀ S', S = some S' → j < 6 ∧ (∀ p, p ≤ n → okV idI n kk p (S' p)) ∧ ∀ p, p ≤ n → spM idI σ (nI (j + 1)) (S' p) (xe (d + 5) 97 [.ref 133] (my σ p (-1) (nI (j + 1))))) (p : Nat) (hp : p ≤ n) : spM idI σ (nI j) (pAtom b n S p) (xe (d + 6) 101 [.ref 133] (my σ p (-1) (nI j))) := by
  have hh := h
  have hsk := skp_ge b n p
  obtain ⟨⟨hn, hb⟩, c, N, B, h1, h2, h3, h4, h5, h6', h7, h8, h9⟩ := h
  have ht : ∀ (p : Nat) (f dp : Int32), pm_kd (((my σ p f dp).1 133 5).toNatClampNeg) = .inl (1, N, 0) := fun p f dp => by rw [my_k (by decide), h4, nI_clamp (by omega)]; exact h1
  have htk := tk_le (p := p) hh.1
  rw [en_X12_atom, sg_X12_atom_0 (ht _ _ _), r_lk (d + 4) hh hp]
  simp only [pm_cl_some, Option.toList_some, Option.toList_none, List.cons_append, List.nil_append]
  rw [sg_X12_atom_4 (ht _ _ _), r_amw d _ htk]
  simp only [pm_cl_some, Option.toList_some, Option.toList_none, List.cons_append, List.nil_append]
  rw [sg_X12_atom_11 (ht _ _ _)]
  unfold pAtom
  cases hl : lti (tk b n p) with
  | some i =>
    obtain ⟨hi, hi2, hi3⟩ := lti_lcd hl
    have hc : tk b n p < 128 := by
      have : ∀ c, c < 256 → (lti c).isSome = true → c < 128 := by decide +kernel
      exact this _ (by omega) (by rw [hl]; rfl)
    rw [show b32 (some i).isSome = nI 1 from rfl, if_neg n10, show tkI (tk b n p) = nI (tk b n p) from by unfold tkI; rw [if_neg hi3], my_10, nI_add, my_p, my_ne (by decide)]
    simp (disch := omega) only [ck_n, nI_clamp]
    show some (some (Value.int (σ.1 137 (tk b n p))), _) = some (some (Value.int (σ.1 137 (lcd i))), _)
    rw [hi2]
  | none =>
    rw [show b32 (none : Option Nat).isSome = nI 0 from rfl, if_pos n00]
    simp only [tkI_is htk (show 91 ≤ 255 by omega) (show 91 ≠ 0 by omega)]
    by_cases t91 : tk b n p = 91
    · have hlt := tk_lt (b := b) (n := n) (p := p) (by omega)
      rw [if_pos t91]
      simp only [t91, if_true]
      match S, h6, hS with
      | none, h6, hS =>
        rw [h6 rfl, r_gi6]
        simp only [pm_cl_some, Option.toList_some, Option.toList_none, List.cons_append, List.nil_append]
        rw [sg_X12_atom_41 (ht _ _ _), if_pos n00]
        exact ⟨nI 0, _, _, rfl⟩
      | some S', h6, hS =>
        obtain ⟨hj, hok, hs⟩ := hS S' rfl
        rw [r_gi (d + 3) hj]
        simp only [pm_cl_some, Option.toList_some, Option.toList_none, List.cons_append, List.nil_append]
        rw [sg_X12_atom_41 (ht _ _ _), if_neg n10]
        have ha := hs (skp b n p + 1) (by omega)
        have hk := hok (skp b n p + 1) (by omega)
        match S' (skp b n p + 1), ha, hk with
        | .inl f, ha, hk =>
          obtain ⟨w, p', d', ha⟩ := ha
          have hf : f ≤ n := hk
          rw [ha]
          simp only [pm_cl_some, Option.toList_some, Option.toList_none, List.cons_append, List.nil_append]
          rw [sg_X12_atom_50 (ht _ _ _), r_tkF _ (by omega)]
          simp only [pm_cl_some, Option.toList_some, Option.toList_none, List.cons_append, List.nil_append]
          rw [sg_X12_atom_57 (ht _ _ _), if_pos n00]
          exact ⟨nI 0, _, _, rfl⟩
        | .inr (c, v, q), ha, hk =>
          have ha : _ = _ := ha
          obtain ⟨⟨b1, b2, b3⟩, -⟩ := hk
          rw [ha]
          simp only [pm_cl_some, Option.toList_some, Option.toList_none, List.cons_append, List.nil_append]
          rw [sg_X12_atom_50 (ht _ _ _)]
          by_cases t93 : tk b n q = 93
          · rw [r_tky (d + 3) hh b2 (by omega) (by omega) t93]
            simp only [pm_cl_some, Option.toList_some, Option.toList_none, List.cons_append, List.nil_append]
            rw [sg_X12_atom_57 (ht _ _ _), if_neg n10, my_12, show nI (j + 1) - nI 1 = nI j from by rw [pk_sub (by omega)]; rfl, my_d]
            simp only [t93, if_true]
            rfl
          · rw [r_tkn (d + 3) hh b2 (by omega) (by omega) t93]
            simp only [pm_cl_some, Option.toList_some, Option.toList_none, List.cons_append, List.nil_append]
            rw [sg_X12_atom_57 (ht _ _ _), if_pos n00]
            simp only [t93, if_false]
            exact ⟨nI 0, _, _, rfl⟩
    · rw [if_neg t91]
      simp only [t91, if_false]
      exact r_atn (d + 4) hh (skp_le b hp)

theorem r_term_2 (d : Nat) (σ : pm_H) (x y : Int32) : ∃ z, pm_run (xe (d + 1)) pg_X12_term (60, [.ref 133, .int x, .int (nI 0), .null, .null], [.int y], σ) = pm_run (xe (d + 1)) pg_X12_term (5, [.ref 133, .int z, .int (nI 0), .long y.toInt64, .null], [], σ) := by
  rw [sg_X12_term_60, if_pos n00]
  by_cases hy : y = 0
  · refine ⟨hld 0, ?_⟩
    rw [if_pos ((lgc0 y).mpr hy), r_wi]
    simp only [pm_cl_some, Option.toList_some, Option.toList_none, List.cons_append, List.nil_append]
    rw [sg_X12_term_90]
  · refine ⟨hld (x.toInt64 / y.toInt64), ?_⟩
    rw [if_neg (fun e => hy ((lgc0 y).mp e)), if_neg (fun e => hy (by
      have : y.toInt64 = (0 : Int32).toInt64 := e.trans (by decide)
      have := congrArg Int64.toInt this
      rw [Int32.toInt_toInt64, Int32.toInt_toInt64] at this
      exact Int32.toInt_inj.mp this)), r_wi]
    simp only [pm_cl_some, Option.toList_some, Option.toList_none, List.cons_append, List.nil_append]
    rw [sg_X12_term_90]
theorem r_term_3 (d : Nat) (σ : pm_H) {x : Int32} (hx : bd x) (y : Int32) : pm_run (xe (d + 1)) pg_X12_term (60, [.ref 133, .int x, .int (nI 0), .null, .null], [.int y], σ) = pm_run (xe (d + 1)) pg_X12_term (5, [.ref 133, .int (opv 47 x y), .int (nI 0), .long y.toInt64, .null], [], σ) := by
  rw [sg_X12_term_60, if_pos n00]
  rw [opv_47]
  by_cases hy : y = 0
  · rw [if_pos ((lgc0 y).mpr hy), r_wi]
    simp only [pm_cl_some, Option.toList_some, Option.toList_none, List.cons_append, List.nil_append]
    rw [sg_X12_term_90, if_pos hy, show hld 0 = 0 from by decide]
  · rw [if_neg (fun e => hy ((lgc0 y).mp e)), if_neg (fun e => hy (by
      have : y.toInt64 = (0 : Int32).toInt64 := e.trans (by decide)
      have := congrArg Int64.toInt this
      rw [Int32.toInt_toInt64, Int32.toInt_toInt64] at this
      exact Int32.toInt_inj.mp this)), r_wi]
    simp only [pm_cl_some, Option.toList_some, Option.toList_none, List.cons_append, List.nil_append]
    rw [sg_X12_term_90, if_neg hy, i64_div hx, hld_i (div_bd hx).2]
theorem r_sum_2 (d : Nat) (σ : pm_H) (x y : Int32) : ∃ z, pm_run (xe (d + 1)) pg_X12_sum (60, [.ref 133, .int x, .int (nI 0), .null, .null], [.int y], σ) = pm_run (xe (d + 1)) pg_X12_sum (5, [.ref 133, .int z, .int (nI 0), .long y.toInt64, .null], [], σ) := by
  refine ⟨hld (x.toInt64 - y.toInt64), ?_⟩
  rw [sg_X12_sum_60, if_pos n00, r_wi]
  simp only [pm_cl_some, Option.toList_some, Option.toList_none, List.cons_append, List.nil_append]
  rw [sg_X12_sum_80]
theorem r_sum_3 (d : Nat) (σ : pm_H) {x : Int32} (hx : bd x) (y : Int32) : pm_run (xe (d + 1)) pg_X12_sum (60, [.ref 133, .int x, .int (nI 0), .null, .null], [.int y], σ) = pm_run (xe (d + 1)) pg_X12_sum (5, [.ref 133, .int (opv 45 x y), .int (nI 0), .long y.toInt64, .null], [], σ) := by
  rw [sg_X12_sum_60, if_pos n00, r_wi]
  simp only [pm_cl_some, Option.toList_some, Option.toList_none, List.cons_append, List.nil_append]
  rw [sg_X12_sum_80, opv_45]

theorem r_term_l (d : Nat) {b : Nat → Nat} {n kk : Nat} {dp : Int32} {σ : pm_H} {A : Nat → PV Int32} (h : tpM b n σ) (hL : bdL (LM σ)) (hok : ∀ p, p ≤ n → okV idI n kk p (A p)) (hA : ∀ p, p ≤ n → spM idI σ dp (A p) (xe (d + 2) 101 [.ref 133] (my σ p (-1) dp))) : ∀ (M : Nat) (c : List Int32) (v : LV → Int32) (q : Nat) (w2 w3 w4 : Value), n < M + q → q ≤ n → bd (v (LM σ)) → spM idI σ dp (pL b n 42 47 A M c v q) (pm_run (xe (d + 2)) pg_X12_term (5, [.ref 133, .int (v (LM σ)), w2, w3, w4], [], my σ q (-1) dp))
  | 0, c, v, q, w2, w3, w4, e, hq, hb => by omega
  | M + 1, c, v, q, w2, w3, w4, e, hq, hb => by
    have hn := h.1.1
    have hsk := skp_ge b n q
    have ht := tk_le (p := q) h.1
    have e0 : tk b n (skp b n q) = tk b n q := tk_skp b n q
    have hqs := skp_le b hq
    rw [sg_X12_term_5, my_11, if_pos (rfl : (-1 : Int32) = -1), r_lk (d + 1) h hq]
    simp only [pm_cl_some, Option.toList_some, Option.toList_none, List.cons_append, List.nil_append]
    rw [sg_X12_term_17, r_lk (d + 1) h hqs, e0, skp_skp]
    simp only [tkI_is ht (show 42 ≤ 255 by omega) (show 42 ≠ 0 by omega)]
    simp only [pm_cl_some, Option.toList_some, Option.toList_none, List.cons_append, List.nil_append]
    unfold pL
    by_cases c1 : tk b n q = 42
    · have hlt := tk_lt (b := b) (n := n) (p := q) (by omega)
      rw [if_pos c1, if_pos (Or.inl c1), sg_X12_term_35, if_pos ((tkI_is ht (by omega) (by omega)).mpr c1), my_10, nI_add, my_p]
      have ha := hA (skp b n q + 1) (by omega)
      have hk := hok (skp b n q + 1) (by omega)
      match A (skp b n q + 1), ha, hk with
      | .inl f, ha, hk =>
        obtain ⟨w, p', d', ha⟩ := ha
        have hf : f ≤ n := hk
        rw [ha]
        simp only [pm_cl_some, Option.toList_some, Option.toList_none, List.cons_append, List.nil_append]
        rw [sg_X12_term_60, if_neg n10, r_wi]
        simp only [pm_cl_some, Option.toList_some, Option.toList_none, List.cons_append, List.nil_append]
        rw [sg_X12_term_90, sg_X12_term_5, my_11, if_neg (nI_nm1 (by omega))]
        exact ⟨_, p', d', rfl⟩
      | .inr (c2, v2, q2), ha, hk =>
        have ha : _ = _ := ha
        obtain ⟨⟨b1, b2, b3⟩, b4⟩ := hk
        rw [ha]
        simp only [pm_cl_some, Option.toList_some, Option.toList_none, List.cons_append, List.nil_append]
        rw [sg_X12_term_60, if_neg n10, r_wi]
        simp only [pm_cl_some, Option.toList_some, Option.toList_none, List.cons_append, List.nil_append]
        rw [sg_X12_term_90]
        have := r_term_l d h hL hok hA M (c ++ c2 ++ [-(nI (tk b n q))]) (fun L => opv (tk b n q) (v L) (v2 L)) q2 (.int (nI 1)) (.long (v2 (LM σ)).toInt64) .null (by omega) b2 (opv_bd hb)
        have hv : hld ((v (LM σ)).toInt64 * (idI (v2 (LM σ))).toInt64) = (fun L => opv (tk b n q) (v L) (v2 L)) (LM σ) := by
          show _ = opv (tk b n q) _ _
          rw [c1, opv_42]
          rfl
        rw [hv]
        exact this
    · rw [if_neg c1, sg_X12_term_26]
      by_cases c2 : tk b n q = 47
      · have hlt := tk_lt (b := b) (n := n) (p := q) (by omega)
        rw [if_pos ((tkI_is ht (by omega) (by omega)).mpr c2), if_pos (Or.inr c2), r_lk (d + 1) h hqs, e0, skp_skp]
        simp only [pm_cl_some, Option.toList_some, Option.toList_none, List.cons_append, List.nil_append]
        rw [sg_X12_term_35, if_neg (fun e => c1 ((tkI_is ht (by omega) (by omega)).mp e)), my_10, nI_add, my_p]
        have ha := hA (skp b n q + 1) (by omega)
        have hk := hok (skp b n q + 1) (by omega)
        match A (skp b n q + 1), ha, hk with
        | .inl f, ha, hk =>
          obtain ⟨w, p', d', ha⟩ := ha
          have hf : f ≤ n := hk
          rw [ha]
          simp only [pm_cl_some, Option.toList_some, Option.toList_none, List.cons_append, List.nil_append]
          obtain ⟨z, hz⟩ := r_term_2 (d + 1) (my σ p' (nI f) d') (v (LM σ)) (idI w)
          rw [hz, sg_X12_term_5, my_11, if_neg (nI_nm1 (by omega))]
          exact ⟨_, p', d', rfl⟩
        | .inr (c2', v2, q2), ha, hk =>
          have ha : _ = _ := ha
          obtain ⟨⟨b1, b2, b3⟩, b4⟩ := hk
          rw [ha]
          simp only [pm_cl_some, Option.toList_some, Option.toList_none, List.cons_append, List.nil_append]
          rw [r_term_3 (d + 1) (my σ q2 (-1) dp) hb (idI (v2 (LM σ)))]
          have := r_term_l d h hL hok hA M (c ++ c2' ++ [-(nI (tk b n q))]) (fun L => opv (tk b n q) (v L) (v2 L)) q2 (.int (nI 0)) (.long (v2 (LM σ)).toInt64) .null (by omega) b2 (opv_bd hb)
          have hv : opv 47 (v (LM σ)) (idI (v2 (LM σ))) = (fun L => opv (tk b n q) (v L) (v2 L)) (LM σ) := by
            show _ = opv (tk b n q) _ _
            rw [c2]
            rfl
          rw [hv]
          exact this
      · rw [if_neg (fun e => c2 ((tkI_is ht (by omega) (by omega)).mp e)), if_neg (by omega)]
        rfl
theorem r_term (d : Nat) {b : Nat → Nat} {n kk : Nat} {dp : Int32} {σ : pm_H} {A : Nat → PV Int32} (h : tpM b n σ) (hL : bdL (LM σ)) (hok : ∀ p, p ≤ n → okV idI n kk p (A p)) (hA : ∀ p, p ≤ n → spM idI σ dp (A p) (xe (d + 2) 101 [.ref 133] (my σ p (-1) dp))) (p : Nat) (hp : p ≤ n) : spM idI σ dp (pTerm b n A p) (xe (d + 3) 103 [.ref 133] (my σ p (-1) dp)) := by
  have hn := h.1.1
  have ha := hA p hp
  have hk := hok p hp
  rw [en_X12_term, sg_X12_term_0]
  unfold pTerm
  match A p, ha, hk with
  | .inl f, ha, hk =>
    obtain ⟨w, p', d', ha⟩ := ha
    have hf : f ≤ n := hk
    rw [ha]
    simp only [pm_cl_some, Option.toList_some, Option.toList_none, List.cons_append, List.nil_append]
    rw [sg_X12_term_4, sg_X12_term_5, my_11, if_neg (nI_nm1 (by omega))]
    exact ⟨_, p', d', rfl⟩
  | .inr (c, v, q), ha, hk =>
    have ha : _ = _ := ha
    obtain ⟨⟨b1, b2, b3⟩, b4⟩ := hk
    rw [ha]
    simp only [pm_cl_some, Option.toList_some, Option.toList_none, List.cons_append, List.nil_append]
    rw [sg_X12_term_4]
    exact r_term_l d h hL hok hA 241 c v q _ _ _ (by omega) b2 (b4 _ hL).1

theorem r_sum_l (d : Nat) {b : Nat → Nat} {n kk : Nat} {dp : Int32} {σ : pm_H} {A : Nat → PV Int32} (h : tpM b n σ) (hL : bdL (LM σ)) (hok : ∀ p, p ≤ n → okV idI n kk p (A p)) (hA : ∀ p, p ≤ n → spM idI σ dp (A p) (xe (d + 2) 103 [.ref 133] (my σ p (-1) dp))) : ∀ (M : Nat) (c : List Int32) (v : LV → Int32) (q : Nat) (w2 w3 w4 : Value), n < M + q → q ≤ n → bd (v (LM σ)) → spM idI σ dp (pL b n 43 45 A M c v q) (pm_run (xe (d + 2)) pg_X12_sum (5, [.ref 133, .int (v (LM σ)), w2, w3, w4], [], my σ q (-1) dp))
  | 0, c, v, q, w2, w3, w4, e, hq, hb => by omega
  | M + 1, c, v, q, w2, w3, w4, e, hq, hb => by
    have hn := h.1.1
    have hsk := skp_ge b n q
    have ht := tk_le (p := q) h.1
    have e0 : tk b n (skp b n q) = tk b n q := tk_skp b n q
    have hqs := skp_le b hq
    rw [sg_X12_sum_5, my_11, if_pos (rfl : (-1 : Int32) = -1), r_lk (d + 1) h hq]
    simp only [pm_cl_some, Option.toList_some, Option.toList_none, List.cons_append, List.nil_append]
    rw [sg_X12_sum_17, r_lk (d + 1) h hqs, e0, skp_skp]
    simp only [tkI_is ht (show 43 ≤ 255 by omega) (show 43 ≠ 0 by omega)]
    simp only [pm_cl_some, Option.toList_some, Option.toList_none, List.cons_append, List.nil_append]
    unfold pL
    by_cases c1 : tk b n q = 43
    · have hlt := tk_lt (b := b) (n := n) (p := q) (by omega)
      rw [if_pos c1, if_pos (Or.inl c1), sg_X12_sum_35, if_pos ((tkI_is ht (by omega) (by omega)).mpr c1), my_10, nI_add, my_p]
      have ha := hA (skp b n q + 1) (by omega)
      have hk := hok (skp b n q + 1) (by omega)
      match A (skp b n q + 1), ha, hk with
      | .inl f, ha, hk =>
        obtain ⟨w, p', d', ha⟩ := ha
        have hf : f ≤ n := hk
        rw [ha]
        simp only [pm_cl_some, Option.toList_some, Option.toList_none, List.cons_append, List.nil_append]
        rw [sg_X12_sum_60, if_neg n10, r_wi]
        simp only [pm_cl_some, Option.toList_some, Option.toList_none, List.cons_append, List.nil_append]
        rw [sg_X12_sum_80, sg_X12_sum_5, my_11, if_neg (nI_nm1 (by omega))]
        exact ⟨_, p', d', rfl⟩
      | .inr (c2, v2, q2), ha, hk =>
        have ha : _ = _ := ha
        obtain ⟨⟨b1, b2, b3⟩, b4⟩ := hk
        rw [ha]
        simp only [pm_cl_some, Option.toList_some, Option.toList_none, List.cons_append, List.nil_append]
        rw [sg_X12_sum_60, if_neg n10, r_wi]
        simp only [pm_cl_some, Option.toList_some, Option.toList_none, List.cons_append, List.nil_append]
        rw [sg_X12_sum_80]
        have := r_sum_l d h hL hok hA M (c ++ c2 ++ [-(nI (tk b n q))]) (fun L => opv (tk b n q) (v L) (v2 L)) q2 (.int (nI 1)) (.long (v2 (LM σ)).toInt64) .null (by omega) b2 (opv_bd hb)
        have hv : hld ((v (LM σ)).toInt64 + (idI (v2 (LM σ))).toInt64) = (fun L => opv (tk b n q) (v L) (v2 L)) (LM σ) := by
          show _ = opv (tk b n q) _ _
          rw [c1, opv_43]
          rfl
        rw [hv]
        exact this
    · rw [if_neg c1, sg_X12_sum_26]
      by_cases c2 : tk b n q = 45
      · have hlt := tk_lt (b := b) (n := n) (p := q) (by omega)
        rw [if_pos ((tkI_is ht (by omega) (by omega)).mpr c2), if_pos (Or.inr c2), r_lk (d + 1) h hqs, e0, skp_skp]
        simp only [pm_cl_some, Option.toList_some, Option.toList_none, List.cons_append, List.nil_append]
        rw [sg_X12_sum_35, if_neg (fun e => c1 ((tkI_is ht (by omega) (by omega)).mp e)), my_10, nI_add, my_p]
        have ha := hA (skp b n q + 1) (by omega)
        have hk := hok (skp b n q + 1) (by omega)
        match A (skp b n q + 1), ha, hk with
        | .inl f, ha, hk =>
          obtain ⟨w, p', d', ha⟩ := ha
          have hf : f ≤ n := hk
          rw [ha]
          simp only [pm_cl_some, Option.toList_some, Option.toList_none, List.cons_append, List.nil_append]
          obtain ⟨z, hz⟩ := r_sum_2 (d + 1) (my σ p' (nI f) d') (v (LM σ)) (idI w)
          rw [hz, sg_X12_sum_5, my_11, if_neg (nI_nm1 (by omega))]
          exact ⟨_, p', d', rfl⟩
        | .inr (c2', v2, q2), ha, hk =>
          have ha : _ = _ := ha
          obtain ⟨⟨b1, b2, b3⟩, b4⟩ := hk
          rw [ha]
          simp only [pm_cl_some, Option.toList_some, Option.toList_none, List.cons_append, List.nil_append]
          rw [r_sum_3 (d + 1) (my σ q2 (-1) dp) hb (idI (v2 (LM σ)))]
          have := r_sum_l d h hL hok hA M (c ++ c2' ++ [-(nI (tk b n q))]) (fun L => opv (tk b n q) (v L) (v2 L)) q2 (.int (nI 0)) (.long (v2 (LM σ)).toInt64) .null (by omega) b2 (opv_bd hb)
          have hv : opv 45 (v (LM σ)) (idI (v2 (LM σ))) = (fun L => opv (tk b n q) (v L) (v2 L)) (LM σ) := by
            show _ = opv (tk b n q) _ _
            rw [c2]
            rfl
          rw [hv]
          exact this
      · rw [if_neg (fun e => c2 ((tkI_is ht (by omega) (by omega)).mp e)), if_neg (by omega)]
        rfl
theorem r_sum (d : Nat) {b : Nat → Nat} {n kk : Nat} {dp : Int32} {σ : pm_H} {A : Nat → PV Int32} (h : tpM b n σ) (hL : bdL (LM σ)) (hok : ∀ p, p ≤ n → okV idI n kk p (A p)) (hA : ∀ p, p ≤ n → spM idI σ dp (A p) (xe (d + 2) 103 [.ref 133] (my σ p (-1) dp))) (p : Nat) (hp : p ≤ n) : spM idI σ dp (pSu b n A p) (xe (d + 3) 97 [.ref 133] (my σ p (-1) dp)) := by
  have hn := h.1.1
  have ha := hA p hp
  have hk := hok p hp
  rw [en_X12_sum, sg_X12_sum_0]
  unfold pSu
  match A p, ha, hk with
  | .inl f, ha, hk =>
    obtain ⟨w, p', d', ha⟩ := ha
    have hf : f ≤ n := hk
    rw [ha]
    simp only [pm_cl_some, Option.toList_some, Option.toList_none, List.cons_append, List.nil_append]
    rw [sg_X12_sum_4, sg_X12_sum_5, my_11, if_neg (nI_nm1 (by omega))]
    exact ⟨_, p', d', rfl⟩
  | .inr (c, v, q), ha, hk =>
    have ha : _ = _ := ha
    obtain ⟨⟨b1, b2, b3⟩, b4⟩ := hk
    rw [ha]
    simp only [pm_cl_some, Option.toList_some, Option.toList_none, List.cons_append, List.nil_append]
    rw [sg_X12_sum_4]
    exact r_sum_l d h hL hok hA 241 c v q _ _ _ (by omega) b2 (b4 _ hL).1

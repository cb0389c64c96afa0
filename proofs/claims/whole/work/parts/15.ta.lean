/-! ===== the JDK's texts: length, charAt, indexOf ===== -/
theorem q_coder (d : Nat) (σ : pm_H) {q v n j : Nat} (hq : pm_kd q = .inr (100, [v])) (hv : pm_kd v = .inl (6, n, j)) : xe (d + 1) 30 [.ref q] σ = some (some (.int (nI 0)), σ) := by
  rw [en_J0_coder_7d493, sg_J0_coder_7d493_0 hq hv, if_neg n10]
theorem q_latin (d : Nat) (σ : pm_H) {q v n j : Nat} (hq : pm_kd q = .inr (100, [v])) (hv : pm_kd v = .inl (6, n, j)) : xe (d + 1) 33 [.ref q] σ = some (some (.int (nI 1)), σ) := by
  rw [en_J0_isLatin1_aae02, sg_J0_isLatin1_aae02_0 hq hv, if_neg n10, if_pos n00]
theorem q_slen (d : Nat) (σ : pm_H) {q v n j : Nat} (hq : pm_kd q = .inr (100, [v])) (hv : pm_kd v = .inl (6, n, j)) : xe (d + 2) 29 [.ref q] σ = some (some (.int (nI n)), σ) := by
  rw [en_J0_length_8abf5, sg_J0_length_8abf5_0 hq hv, q_coder d σ hq hv]
  simp only [pm_cl_some, Option.toList_some, List.cons_append, List.nil_append]
  rw [sg_J0_length_8abf5_9 hq hv, show (nI 0 &&& 31 : Int32) = 0 from by decide, Int32.shiftRight_zero]
theorem q_chk (d : Nat) (σ : pm_H) {i n : Nat} (hi : i < n) (hn : n < 2 ^ 31) : xe (d + 1) 81 [.int (nI i), .int (nI n), .null] σ = some (some (.int (nI i)), σ) := by
  rw [show xe (d + 1) 81 [.int (nI i), .int (nI n), .null] σ = pm_run (xe d) pg_J3_checkIndex_8e157 (0, [.int (nI i), .int (nI n), .null], [], σ) from pm_ent_run 3 rfl rfl rfl rfl]
  refine Eq.trans (x_il (hx_p rfl) rfl) (Eq.trans (x_zlt (hx_p rfl)) ?_)
  rw [if_neg (nI_pos (by omega))]
  refine Eq.trans (x_il (hx_p rfl) rfl) (Eq.trans (x_il (hx_p rfl) rfl) (Eq.trans (x_clt (hx_p rfl)) ?_))
  rw [if_pos (nI_lt hi hn)]
  exact Eq.trans (x_il (hx_p rfl) rfl) (x_iret (hx_p rfl) rfl)
theorem x_chk {ev : pm_Ev} {P : List (Nat × pm_F)} {pc : Nat} {L0 L st : List Value} {σ : pm_H} {i n : Int32} {r : pm_R} (h : pm_hx P pc L0 pm_chk L) (h0 : ¬ i < 0) (h1 : i < n) (hl : pm_sw st ≤ 8) (hev : ev 81 [.int i, .int n, .null] σ = some r) : pm_run ev P (pc, L0, .int n :: .int i :: st, σ) = pm_run ev P (pc + 6, L, .int i :: st, σ) := by
  refine pm_x h ?_
  simp only [pm_chk, hev]
  rw [if_pos ⟨⟨h0, h1⟩, hl⟩]
theorem q_chk2 (d : Nat) (σ : pm_H) {i n : Nat} (hi : i < n) (hn : n < 2 ^ 31) : xe (d + 2) 80 [.int (nI i), .int (nI n)] σ = some (none, σ) := by
  rw [show xe (d + 2) 80 [.int (nI i), .int (nI n)] σ = pm_run (xe (d + 1)) pg_J0_checkIndex_df160 (0, [.int (nI i), .int (nI n)], [], σ) from pm_ent_run 2 rfl rfl rfl rfl]
  refine Eq.trans (x_il (hx_p rfl) rfl) (Eq.trans (x_il (hx_p rfl) rfl) (Eq.trans (x_chk (hx_p rfl) (nI_pos (by omega)) (nI_lt hi hn) (Nat.le_of_ble_eq_true rfl) (q_chk d σ hi hn)) ?_))
  exact Eq.trans (x_pop (hx_p rfl) rfl) (x_vret (hx_p rfl))
theorem chr_n : ∀ c, c < 128 → ((nI c &&& nI 255).toUInt32 % 65536).toInt32 = nI c := by decide +kernel
theorem q_chat (d : Nat) (σ : pm_H) {q v n j i c : Nat} (hq : pm_kd q = .inr (100, [v])) (hv : pm_kd v = .inl (6, n, j)) (hi : i < n) (hn : n < 2 ^ 31) (hc : c < 128) (h : pm_ct j i = nI c) : xe (d + 4) 78 [.ref q, .int (nI i)] σ = some (some (.int (nI c)), σ) := by
  rw [en_J0_charAt_5068e, sg_J0_charAt_5068e_0 hq hv, q_latin (d + 2) σ hq hv]
  simp only [pm_cl_some, Option.toList_some, List.cons_append, List.nil_append]
  rw [sg_J0_charAt_5068e_4 hq hv, if_neg n10, en_J1_charAt_3b067, sg_J1_charAt_3b067_0 hv, q_chk2 d σ hi hn]
  simp only [pm_cl_some, Option.toList_none, List.nil_append]
  rw [sg_J1_charAt_3b067_6 hv]
  have hc2 := (pk_charN (q := c) (by omega)).1
  simp (disch := omega) only [ck_n, nI_clamp, h, chr_n c hc, hc2, if_true, pm_cl_some, Option.toList_some, List.cons_append, List.nil_append]
  rw [sg_J0_charAt_5068e_15 hq hv, if_pos hc2]
/-- the first place of a sign -/
def ixf (j : Nat) (t : Int32) : Nat → Nat → Int32
  | 0, _ => -1
  | k + 1, i => if pm_ct j i = t then nI i else ixf j t k (i + 1)
theorem q_ixc (d : Nat) (σ : pm_H) {v n j : Nat} (hv : pm_kd v = .inl (6, n, j)) (hn : n < 2 ^ 31) (t : Int32) : ∀ (k i : Nat) (w1 w2 : Value), i + k = n → pm_run (xe d) pg_J1_indexOfChar_4cfef (7, [.ref v, w1, w2, .int (nI n), .int t, .int (nI i)], [], σ) = some (some (.int (ixf j t k i)), σ)
  | 0, i, w1, w2, h => by
    rw [sg_J1_indexOfChar_4cfef_7 hv, if_neg (nI_nlt (by omega) (by omega))]
    rfl
  | k + 1, i, w1, w2, h => by
    rw [sg_J1_indexOfChar_4cfef_7 hv, if_pos (nI_lt (by omega) (by omega))]
    simp (disch := omega) only [ck_n, nI_clamp, nI_add]
    rw [q_ixc d σ hv hn t k (i + 1) _ _ (by omega)]
    show _ = some (some (Value.int (if pm_ct j i = t then nI i else ixf j t k (i + 1))), σ)
    split <;> rfl
theorem q_ixo (d : Nat) (σ : pm_H) {q v n j c : Nat} (hq : pm_kd q = .inr (100, [v])) (hv : pm_kd v = .inl (6, n, j)) (h0 : 0 < n) (hn : n < 2 ^ 31) (hc : c ≤ 255) : xe (d + 4) 31 [.ref q, .int (nI c)] σ = some (some (.int (ixf j (nI c).toInt8.toInt32 n 0)), σ) := by
  rw [en_J0_indexOf_0f7a4, sg_J0_indexOf_0f7a4_0 hq hv, en_J0_indexOf_7cf53, sg_J0_indexOf_7cf53_0 hq hv, q_latin (d + 1) σ hq hv]
  simp only [pm_cl_some, Option.toList_some, List.cons_append, List.nil_append]
  rw [sg_J0_indexOf_7cf53_4 hq hv, if_neg n10, q_slen d σ hq hv]
  simp only [pm_cl_some, Option.toList_some, List.cons_append, List.nil_append]
  rw [sg_J0_indexOf_7cf53_17 hq hv, en_J1_indexOf_4cfef, sg_J1_indexOf_4cfef_0 hv, en_J1_canEncode_9a6ad, sg_J1_canEncode_9a6ad_0, if_neg (nI_pos (by omega)), if_neg (nI_nlt (by omega) (by omega))]
  simp only [pm_cl_some, Option.toList_some, List.cons_append, List.nil_append]
  rw [sg_J1_indexOf_4cfef_4 hv, if_neg n10, if_neg (Int32.lt_irrefl), if_neg (Int32.lt_irrefl), if_pos (nI_lt h0 hn), en_J1_indexOfChar_4cfef, sg_J1_indexOfChar_4cfef_0 hv, q_ixc d σ hv hn _ n 0 _ _ (by omega)]
  simp only [pm_cl_some, Option.toList_some, List.cons_append, List.nil_append]
  rw [sg_J1_indexOf_4cfef_36 hv]
  simp only [pm_cl_some, Option.toList_some, List.cons_append, List.nil_append]
  rw [sg_J0_indexOf_7cf53_20 hq hv]
  simp only [pm_cl_some, Option.toList_some, List.cons_append, List.nil_append]
  rw [sg_J0_indexOf_0f7a4_6 hq hv]
/-! the four texts -/
theorem kd_s : pm_kd 170 = .inr (100, [174]) := rfl
theorem kd_sv : pm_kd 174 = .inl (6, 10, 6) := rfl
theorem kd_c : pm_kd 171 = .inr (100, [175]) := rfl
theorem kd_cv : pm_kd 175 = .inl (6, 4, 7) := rfl
theorem kd_w : pm_kd 172 = .inr (100, [176]) := rfl
theorem kd_wv : pm_kd 176 = .inl (6, 8, 8) := rfl
theorem kd_y : pm_kd 173 = .inr (100, [177]) := rfl
theorem kd_yv : pm_kd 177 = .inl (6, 1, 9) := rfl
def oi1 (o : Option Nat) : Int32 := match o with
  | some i => nI i
  | none => -1
theorem ixf_w : ∀ c, c < 256 → ixf 8 (nI c).toInt8.toInt32 8 0 = oi1 (lti c) := by decide +kernel
theorem q_ixw (d : Nat) (σ : pm_H) {c : Nat} (hc : c ≤ 255) : xe (d + 4) 31 [.ref 172, .int (nI c)] σ = some (some (.int (oi1 (lti c))), σ) := by
  rw [q_ixo d σ kd_w kd_wv (by decide) (by decide) hc, ixf_w c (by omega)]
def sti (c : Nat) : Option Nat := if c = 115 then some 0 else if c = 106 then some 1 else if c = 98 then some 2 else if c = 100 then some 3 else if c = 102 then some 4 else if c = 99 then some 5 else if c = 119 then some 6 else if c = 111 then some 7 else if c = 112 then some 8 else if c = 109 then some 9 else none
def cti (c : Nat) : Option Nat := if c = 99 then some 0 else if c = 116 then some 1 else if c = 115 then some 2 else if c = 101 then some 3 else none
theorem ixf_s : ∀ c, c < 256 → ixf 6 (nI c).toInt8.toInt32 10 0 = oi1 (sti c) := by decide +kernel
theorem ixf_c : ∀ c, c < 256 → ixf 7 (nI c).toInt8.toInt32 4 0 = oi1 (cti c) := by decide +kernel
theorem q_ixs (d : Nat) (σ : pm_H) {c : Nat} (hc : c ≤ 255) : xe (d + 4) 31 [.ref 170, .int (nI c)] σ = some (some (.int (oi1 (sti c))), σ) := by
  rw [q_ixo d σ kd_s kd_sv (by decide) (by decide) hc, ixf_s c (by omega)]
theorem q_ixr (d : Nat) (σ : pm_H) {c : Nat} (hc : c ≤ 255) : xe (d + 4) 31 [.ref 171, .int (nI c)] σ = some (some (.int (oi1 (cti c))), σ) := by
  rw [q_ixo d σ kd_c kd_cv (by decide) (by decide) hc, ixf_c c (by omega)]
/-! the reference's own way through a text -/
def ixn (j : Nat) (t : Int32) : Nat → Nat → Option Nat
  | 0, _ => none
  | k + 1, i => if pm_ct j i = t then some i else ixn j t k (i + 1)
def asc (j n : Nat) : Bool := (List.range n).all fun i => decide (pm_ct j i = nI (pm_ct j i).toNatClampNeg) && decide ((pm_ct j i).toNatClampNeg < 128)
theorem asc_at {j n i : Nat} (h : asc j n = true) (hi : i < n) : ∃ c, c < 128 ∧ pm_ct j i = nI c := by
  have := List.all_eq_true.mp h i (List.mem_range.mpr hi)
  simp only [Bool.and_eq_true, decide_eq_true_eq] at this
  exact ⟨_, this.2, this.1⟩
theorem r_am_w (d : Nat) (σ : pm_H) (t : Int32) : ∀ (k i : Nat), i + k = 8 → pm_run (xe (d + 4)) pg_X12_isAmong (2, [.ref 172, .int t, .int (nI i)], [], σ) = some (some (.int (b32 (ixn 8 t k i).isSome)), σ)
  | 0, i, h => by
    rw [sg_X12_isAmong_w_2, q_slen (d + 2) σ kd_w kd_wv]
    simp only [pm_cl_some, Option.toList_some, List.cons_append, List.nil_append]
    rw [sg_X12_isAmong_w_7, if_neg (nI_nlt (by omega) (by omega))]
    rfl
  | k + 1, i, h => by
    rw [sg_X12_isAmong_w_2, q_slen (d + 2) σ kd_w kd_wv]
    simp only [pm_cl_some, Option.toList_some, List.cons_append, List.nil_append]
    obtain ⟨c, hc, e⟩ := asc_at (j := 8) (n := 8) (i := i) (by decide +kernel) (by omega)
    rw [sg_X12_isAmong_w_7, if_pos (nI_lt (by omega) (by omega)), q_chat d σ kd_w kd_wv (by omega) (by decide) hc e]
    simp only [pm_cl_some, Option.toList_some, List.cons_append, List.nil_append]
    rw [sg_X12_isAmong_w_15, nI_add, r_am_w d σ t k (i + 1) (by omega)]
    show _ = some (some (Value.int (b32 (if pm_ct 8 i = t then some i else ixn 8 t k (i + 1)).isSome)), σ)
    rw [e]
    split <;> rfl
theorem r_am_y (d : Nat) (σ : pm_H) (t : Int32) : ∀ (k i : Nat), i + k = 1 → pm_run (xe (d + 4)) pg_X12_isAmong (2, [.ref 173, .int t, .int (nI i)], [], σ) = some (some (.int (b32 (ixn 9 t k i).isSome)), σ)
  | 0, i, h => by
    rw [sg_X12_isAmong_y_2, q_slen (d + 2) σ kd_y kd_yv]
    simp only [pm_cl_some, Option.toList_some, List.cons_append, List.nil_append]
    rw [sg_X12_isAmong_y_7, if_neg (nI_nlt (by omega) (by omega))]
    rfl
  | k + 1, i, h => by
    rw [sg_X12_isAmong_y_2, q_slen (d + 2) σ kd_y kd_yv]
    simp only [pm_cl_some, Option.toList_some, List.cons_append, List.nil_append]
    obtain ⟨c, hc, e⟩ := asc_at (j := 9) (n := 1) (i := i) (by decide +kernel) (by omega)
    rw [sg_X12_isAmong_y_7, if_pos (nI_lt (by omega) (by omega)), q_chat d σ kd_y kd_yv (by omega) (by decide) hc e]
    simp only [pm_cl_some, Option.toList_some, List.cons_append, List.nil_append]
    rw [sg_X12_isAmong_y_15, nI_add, r_am_y d σ t k (i + 1) (by omega)]
    show _ = some (some (Value.int (b32 (if pm_ct 9 i = t then some i else ixn 9 t k (i + 1)).isSome)), σ)
    rw [e]
    split <;> rfl
/-- a sign as the reference sees it: -1 at the end -/
def tkI (c : Nat) : Int32 := if c = 0 then -1 else nI c
theorem am_w_d : ∀ c, c < 256 → (ixn 8 (tkI c) 8 0).isSome = (lti c).isSome := by decide +kernel
theorem am_y_d : ∀ c, c < 256 → (ixn 9 (tkI c) 1 0).isSome = decide (c = 121) := by decide +kernel
theorem r_amw (d : Nat) (σ : pm_H) {c : Nat} (hc : c ≤ 255) : xe (d + 5) 92 [.ref 172, .int (tkI c)] σ = some (some (.int (b32 (lti c).isSome)), σ) := by
  rw [en_X12_isAmong_w, sg_X12_isAmong_w_0, r_am_w d σ _ 8 0 (by omega), am_w_d c (by omega)]
theorem r_amy (d : Nat) (σ : pm_H) {c : Nat} (hc : c ≤ 255) : xe (d + 5) 92 [.ref 173, .int (tkI c)] σ = some (some (.int (b32 (decide (c = 121)))), σ) := by
  rw [en_X12_isAmong_y, sg_X12_isAmong_y_0, r_am_y d σ _ 1 0 (by omega), am_y_d c (by omega)]

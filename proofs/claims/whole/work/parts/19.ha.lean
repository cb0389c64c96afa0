/-! ===== calls: orders ===== -/
theorem nI_or (a b : Nat) : nI a ||| nI b = nI (a ||| b) := by
  apply Int32.toBitVec_inj.mp
  rw [Int32.toBitVec_or]
  show BitVec.ofNat 32 a ||| BitVec.ofNat 32 b = BitVec.ofNat 32 (a ||| b)
  rw [BitVec.ofNat_or]
theorem sh1_d : ∀ d, d < 10 → nI 1 <<< (nI d &&& 31) = nI (1 <<< d) := by decide
theorem all_d : ∀ s, s < 5 → (nI 1 <<< (nI s &&& 31)) - nI 1 = nI (2 ^ s - 1) := by decide
theorem xor_neg (x : Int32) : (x ^^^ nI 10 < 0) ↔ x < 0 := by
  rw [Int32.lt_iff_toInt_lt, Int32.lt_iff_toInt_lt]
  have a := BitVec.msb_eq_toInt (x := (x ^^^ nI 10).toBitVec)
  have b := BitVec.msb_eq_toInt (x := x.toBitVec)
  rw [Int32.toBitVec_xor, BitVec.msb_xor, show (nI 10).toBitVec.msb = false from by decide, Bool.xor_false] at a
  exact decide_eq_decide.mp (a.symm.trans b)
theorem beq_f {a b : Nat} (h : ¬ a = b) : Nat.beq a b = false := Bool.eq_false_iff.mpr (fun e => h (Nat.eq_of_beq_eq_true e))
theorem nI_n0 (o : Nat) (h : o < 2 ^ 31) : ¬ nI o < 0 := nI_pos (by omega)
theorem q_fm (d : Nat) {o : Nat} (h : o < 2 ^ 31) (σ : pm_H) : xe (d + 1) 283 [.int (nI o), .int (nI 10)] σ = some (some (.int (nI (o % 10))), σ) := by
  rw [en_J9_floorMod_7cf53, sg_J9_floorMod_7cf53_0, if_neg (by decide), if_neg (fun e => nI_n0 o h ((xor_neg _).mp e)), pk_rem h (by omega) (by omega)]
theorem q_fd (d : Nat) {o : Nat} (h : o < 2 ^ 31) (σ : pm_H) : xe (d + 1) 284 [.int (nI o), .int (nI 10)] σ = some (some (.int (nI (o / 10))), σ) := by
  rw [en_J9_floorDiv_7cf53, sg_J9_floorDiv_7cf53_0, if_neg (by decide), if_neg (fun e => nI_n0 o h ((xor_neg _).mp e)), pk_div h (by omega) (by omega)]
theorem q_fm_n (d : Nat) (x : Int32) (σ : pm_H) : ∃ z, xe (d + 1) 283 [.int x, .int (nI 10)] σ = some (some (.int z), σ) := by
  rw [en_J9_floorMod_7cf53, sg_J9_floorMod_7cf53_0, if_neg (by decide)]
  split
  · split <;> exact ⟨_, rfl⟩
  · exact ⟨_, rfl⟩
theorem q_fd_n (d : Nat) (x : Int32) (hx : x < 0) (σ : pm_H) : ∃ z, z < 0 ∧ xe (d + 1) 284 [.int x, .int (nI 10)] σ = some (some (.int z), σ) := by
  have hx' : x.toInt < 0 := by
    have := Int32.lt_iff_toInt_lt.mp hx
    exact this
  have hl : -2147483648 ≤ x.toInt := by
    have := x.le_toInt
    omega
  have e10 : (nI 10).toInt = 10 := by decide
  have h1 : -214748365 ≤ x.toInt.tdiv 10 ∧ x.toInt.tdiv 10 ≤ 0 := by
    obtain ⟨q, hq⟩ : ∃ q : Nat, x.toInt = -(q : Int) := ⟨(-x.toInt).toNat, by omega⟩
    rw [hq, Int.neg_tdiv, show (10 : Int) = ((10 : Nat) : Int) from rfl, ← Int.ofNat_tdiv]
    omega
  have hq : (x / nI 10).toInt = x.toInt.tdiv 10 := by
    rw [Int32.toInt_div, e10]
    rw [Int.bmod_eq_of_le (by omega) (by omega)]
  rw [en_J9_floorDiv_7cf53, sg_J9_floorDiv_7cf53_0, if_neg (by decide), if_pos ((xor_neg x).mpr hx)]
  by_cases c : x / nI 10 * nI 10 = x
  · refine ⟨x / nI 10, ?_, by rw [if_pos c]⟩
    rw [Int32.lt_iff_toInt_lt]
    show (x / nI 10).toInt < 0
    by_cases z : (x / nI 10).toInt = 0
    · have : x / nI 10 = 0 := Int32.toInt_inj.mp z
      rw [this] at c
      rw [← c] at hx
      exact absurd hx (by decide)
    · omega
  · refine ⟨x / nI 10 - nI 1, ?_, by rw [if_neg c]⟩
    rw [Int32.lt_iff_toInt_lt]
    show (x / nI 10 - nI 1).toInt < 0
    rw [Int32.toInt_sub, hq, show (nI 1).toInt = 1 from by decide, Int.bmod_eq_of_le (by omega) (by omega)]
    omega
def ior (size : Nat) : Nat → Nat → Nat → Bool
  | 0, o, s => Nat.beq o 0 && Nat.beq s (2 ^ size - 1)
  | m + 1, o, s => ior size m (o / 10) (s ||| (1 <<< (o % 10)))
def lor (size : Nat) : Nat → Nat → Nat → Bool
  | 0, o, _ => Nat.beq o 0
  | m + 1, o, s => Nat.blt (o % 10) size && (!Nat.beq (s / 2 ^ (o % 10) % 2) 1 && lor size m (o / 10) (s ||| (1 <<< (o % 10))))
theorem ior_lt (size : Nat) : ∀ (m o s : Nat), ior size m o s = true → o < 10 ^ m
  | 0, o, s, h => by
    unfold ior at h
    have := Nat.eq_of_beq_eq_true ((Bool.and_eq_true _ _).mp h).1
    omega
  | m + 1, o, s, h => by
    have := ior_lt size m _ _ h
    rw [Nat.pow_succ]
    omega
theorem lor_lt (size : Nat) : ∀ (m o s : Nat), lor size m o s = true → o < 10 ^ m
  | 0, o, s, h => by
    unfold lor at h
    have := Nat.eq_of_beq_eq_true h
    omega
  | m + 1, o, s, h => by
    have := lor_lt size m _ _ ((Bool.and_eq_true _ _).mp ((Bool.and_eq_true _ _).mp h).2).2
    rw [Nat.pow_succ]
    omega
/-- the digit at a place -/
def dAt (size o k : Nat) : Nat := o / 10 ^ (size - 1 - k) % 10
def okD (size o : Nat) : Nat → Bool
  | 0 => true
  | k + 1 => Nat.blt (dAt size o k) size && (!Nat.beq (dAt size o (k - 1)) (dAt size o k) || Nat.beq k 0) && okD size o k
def ioB (size o : Nat) : Bool := ior size size o 0 == lor size size o 0 && (!lor size size o 0 || okD size o size)
theorem io_tab3 : ∀ size, size < 4 → ∀ a, a < 10 → ∀ b, b < 100 → (Nat.ble (10 ^ size) (100 * a + b) || ioB size (100 * a + b)) = true := by decide +kernel
theorem io_tab4 : ∀ a, a < 100 → ∀ b, b < 100 → ioB 4 (100 * a + b) = true := by decide +kernel
theorem io_tab (size : Nat) (hs : size < 5) (o : Nat) (ho : o < 10 ^ size) : ioB size o = true := by
  have e : 100 * (o / 100) + o % 100 = o := Nat.div_add_mod o 100
  by_cases c : size = 4
  · subst c
    have := io_tab4 (o / 100) (by omega) (o % 100) (Nat.mod_lt _ (by omega))
    rw [e] at this
    exact this
  · have hp : 10 ^ size ≤ 1000 := by
      rcases (show size = 0 ∨ size = 1 ∨ size = 2 ∨ size = 3 by omega) with rfl | rfl | rfl | rfl <;> decide
    have := io_tab3 size (by omega) (o / 100) (by omega) (o % 100) (Nat.mod_lt _ (by omega))
    rw [e, show Nat.ble (10 ^ size) o = false from Bool.eq_false_iff.mpr (fun q => by have := Nat.le_of_ble_eq_true q; omega)] at this
    exact this
theorem io_eq {size : Nat} (h : size < 5) (o : Nat) : ior size size o 0 = lor size size o 0 := by
  by_cases c : o < 10 ^ size
  · exact eq_of_beq ((Bool.and_eq_true _ _).mp (io_tab size h o c)).1
  · rw [Bool.eq_false_iff.mpr (fun e => c (ior_lt size size o 0 e)), Bool.eq_false_iff.mpr (fun e => c (lor_lt size size o 0 e))]
theorem okD_d {size o : Nat} : ∀ (m : Nat), okD size o m = true → ∀ k, k < m → dAt size o k < size ∧ (1 ≤ k → dAt size o (k - 1) ≠ dAt size o k)
  | 0, h, k, hk => absurd hk (Nat.not_lt_zero k)
  | m + 1, h, k, hk => by
    unfold okD at h
    have h1 := (Bool.and_eq_true _ _).mp h
    have h2 := (Bool.and_eq_true _ _).mp h1.1
    by_cases e : k = m
    · subst e
      refine ⟨Nat.le_of_ble_eq_true h2.1, fun h1k e => ?_⟩
      have := h2.2
      rw [e, Nat.beq_refl] at this
      rcases k with _ | k
      · omega
      · cases this
    · exact okD_d m h1.2 k (by omega)
theorem io_ok {size o : Nat} (h : size < 5) (hl : lor size size o 0 = true) : ∀ k, k < size → dAt size o k < size ∧ (1 ≤ k → dAt size o (k - 1) ≠ dAt size o k) := by
  have := ((Bool.and_eq_true _ _).mp (io_tab size h o (lor_lt size size o 0 hl))).2
  rw [hl] at this
  exact okD_d size this
theorem q_io_l (d : Nat) {size : Nat} {σ : pm_H} (hs : size < 5) : ∀ (m k o s : Nat) (w0 : Value), k + m = size → o < 2 ^ 31 → s < 2 ^ 31 → pm_run (xe (d + 1)) pg_X11_isOrder (7, [w0, .int (nI size), .int (nI s), .int (nI o), .int (nI k)], [], σ) = some (some (.int (b32 (ior size m o s))), σ)
  | 0, k, o, s, w0, e, ho, hs' => by
    have h16 : 2 ^ size - 1 < 2 ^ 31 := by
      rcases (show size = 0 ∨ size = 1 ∨ size = 2 ∨ size = 3 ∨ size = 4 by omega) with rfl | rfl | rfl | rfl | rfl <;> decide
    rw [sg_X11_isOrder_7, if_neg (nI_nlt (by omega) (by omega)), all_d size hs]
    unfold ior
    by_cases c : o = 0
    · subst c
      rw [if_pos n00]
      by_cases c2 : s = 2 ^ size - 1
      · rw [if_pos (by rw [c2]), c2, show Nat.beq (2 ^ size - 1) (2 ^ size - 1) = true from Nat.beq_refl _]
        rfl
      · rw [if_neg (fun e => c2 ((nI_eq hs' h16).mp e)), show Nat.beq s (2 ^ size - 1) = false from beq_f c2]
        rfl
    · rw [if_neg (nI_ne0 (by omega) ho), show Nat.beq o 0 = false from beq_f c]
      rfl
  | m + 1, k, o, s, w0, e, ho, hs' => by
    have hm : o % 10 < 10 := Nat.mod_lt _ (by omega)
    have hsh : 1 <<< (o % 10) < 1024 := by
      rw [Nat.shiftLeft_eq, Nat.one_mul]
      exact Nat.lt_of_le_of_lt (Nat.pow_le_pow_right (by omega) (show o % 10 ≤ 9 by omega)) (by decide)
    rw [sg_X11_isOrder_7, if_pos (nI_lt (by omega) (by omega)), q_fm d ho]
    simp only [pm_cl_some, Option.toList_some, Option.toList_none, List.cons_append, List.nil_append]
    rw [sg_X11_isOrder_21, q_fd d ho, sh1_d _ hm, nI_or]
    simp only [pm_cl_some, Option.toList_some, Option.toList_none, List.cons_append, List.nil_append]
    rw [sg_X11_isOrder_30, nI_add]
    exact q_io_l d hs m (k + 1) (o / 10) _ _ (by omega) (by omega) (Nat.or_lt_two_pow hs' (by omega))
theorem q_io_n (d : Nat) {size : Nat} {σ : pm_H} (hs : size < 5) : ∀ (m k : Nat) (x s : Int32) (w0 : Value), k + m = size → x < 0 → pm_run (xe (d + 1)) pg_X11_isOrder (7, [w0, .int (nI size), .int s, .int x, .int (nI k)], [], σ) = some (some (.int (nI 0)), σ)
  | 0, k, x, s, w0, e, hx => by
    rw [sg_X11_isOrder_7, if_neg (nI_nlt (by omega) (by omega)), if_neg (fun e => by rw [e] at hx; exact absurd hx (by decide))]
  | m + 1, k, x, s, w0, e, hx => by
    obtain ⟨z, hz⟩ := q_fm_n d x σ
    obtain ⟨y, hy1, hy2⟩ := q_fd_n d x hx σ
    rw [sg_X11_isOrder_7, if_pos (nI_lt (by omega) (by omega)), hz]
    simp only [pm_cl_some, Option.toList_some, Option.toList_none, List.cons_append, List.nil_append]
    rw [sg_X11_isOrder_21, hy2]
    simp only [pm_cl_some, Option.toList_some, Option.toList_none, List.cons_append, List.nil_append]
    rw [sg_X11_isOrder_30, nI_add]
    exact q_io_n d hs m (k + 1) y _ _ (by omega) hy1
theorem has_d : ∀ s, s < 16 → ∀ d, d < 4 → (nI s >>> (nI d &&& 31)) &&& nI 1 = nI (s / 2 ^ d % 2) := by decide +kernel
theorem or_16 : ∀ s, s < 16 → ∀ d, d < 4 → s ||| (1 <<< d) < 16 := by decide
theorem dAt_0 {size o m : Nat} (hm : m < size) : ∀ j, j < m → dAt size o j = dAt size o j := fun _ _ => rfl
/-- the reference lays the order -/
theorem r_lo_l (d : Nat) {size O : Nat} {σ0 : pm_H} (hs : size < 5) (hz : σ0.1 133 22 = nI size) : ∀ (m s : Nat) (σ : pm_H) (w1 : Value), m ≤ size → s < 16 → O < 2 ^ 31 → sameX σ0 σ → (∀ j, m ≤ j → j < size → σ.1 154 j = nI (dAt size O j)) → ∃ σ2, pm_run (xe (d + 1)) pg_X12_layOrder (18, [.ref 133, w1, .int (nI (O / 10 ^ (size - m))), .int (nI s), .int (nI m - nI 1)], [], σ) = some (some (.int (b32 (lor size m (O / 10 ^ (size - m)) s))), σ2) ∧ sameX σ0 σ2 ∧ (lor size m (O / 10 ^ (size - m)) s = true → ∀ j, j < size → σ2.1 154 j = nI (dAt size O j))
  | 0, s, σ, w1, hm, h16, hO, sX, hj => by
    have hO' : O / 10 ^ (size - 0) < 2 ^ 31 := Nat.lt_of_le_of_lt (Nat.div_le_self _ _) hO
    refine ⟨σ, ?_, sX, fun _ j hj' => hj j (by omega) hj'⟩
    rw [sg_X12_layOrder_18, if_pos (by decide)]
    unfold lor
    by_cases c : O / 10 ^ (size - 0) = 0
    · rw [c, if_pos n00]
      rfl
    · rw [if_neg (nI_ne0 (Nat.pos_of_ne_zero c) hO'), show Nat.beq (O / 10 ^ (size - 0)) 0 = false from beq_f c]
      rfl
  | m + 1, s, σ, w1, hm, h16, hO, sX, hj => by
    have hO' : O / 10 ^ (size - (m + 1)) < 2 ^ 31 := Nat.lt_of_le_of_lt (Nat.div_le_self _ _) hO
    have hdm : O / 10 ^ (size - (m + 1)) % 10 = dAt size O m := by
      unfold dAt
      rw [show size - 1 - m = size - (m + 1) by omega]
    have hdv : O / 10 ^ (size - (m + 1)) / 10 = O / 10 ^ (size - m) := by
      rw [Nat.div_div_eq_div_mul, ← Nat.pow_succ, show (size - (m + 1)).succ = size - m by omega]
    have hd10 : dAt size O m < 10 := Nat.mod_lt _ (by omega)
    have hz' : σ.1 133 22 = nI size := (sX.1.2 22 (by omega)).trans hz
    rw [sg_X12_layOrder_18, pk_sub (by omega), Nat.add_sub_cancel, if_neg (nI_pos (by omega)), ck_n _ (by omega) (by omega), ck_n _ (by omega) (by omega), ck_n _ (by omega) (by omega), nI_clamp (by omega), pk_rem hO' (by omega) (by omega), pk_div hO' (by omega) (by omega), hdm, hdv, wI_wC, wC_at, up_at, wC_ne _ _ (show (133 : Nat) ≠ 154 by decide), hz']
    have s1 : sameX σ0 (pm_wC σ 154 (upd (σ.1 154) m (nI (dAt size O m)))) := sameX_w sX _ ⟨rfl, rfl⟩ (by decide)
    rw [show lor size (m + 1) (O / 10 ^ (size - (m + 1))) s = (Nat.blt (dAt size O m) size && (!Nat.beq (s / 2 ^ (dAt size O m) % 2) 1 && lor size m (O / 10 ^ (size - m)) (s ||| (1 <<< dAt size O m)))) by
      show (Nat.blt (O / 10 ^ (size - (m + 1)) % 10) size && (!Nat.beq (s / 2 ^ (O / 10 ^ (size - (m + 1)) % 10) % 2) 1 && lor size m (O / 10 ^ (size - (m + 1)) / 10) (s ||| (1 <<< (O / 10 ^ (size - (m + 1)) % 10))))) = _
      rw [hdm, hdv]]
    by_cases c : dAt size O m < size
    · rw [if_pos (nI_lt c (by omega)), show Nat.blt (dAt size O m) size = true from Nat.ble_eq_true_of_le c, Bool.true_and, en_X12_has, sg_X12_has_0, has_d s h16 _ (by omega)]
      by_cases c2 : s / 2 ^ dAt size O m % 2 = 1
      · rw [c2, if_pos rfl]
        simp only [pm_cl_some, Option.toList_some, Option.toList_none, List.cons_append, List.nil_append]
        refine ⟨_, ?_, s1, fun e => by cases e⟩
        rw [sg_X12_layOrder_64, if_neg n10]
        rfl
      · rw [show s / 2 ^ dAt size O m % 2 = 0 by omega, if_neg (by decide)]
        simp only [pm_cl_some, Option.toList_some, Option.toList_none, List.cons_append, List.nil_append]
        rw [sg_X12_layOrder_64, if_pos n00, ck_n _ (by omega) (by omega), nI_clamp (by omega), wC_at, up_at, sh1_d _ hd10, nI_or, show nI m + (-1) = nI m - nI 1 from (Int32.sub_eq_add_neg _ _).symm]
        show ∃ σ2, _ = some (some (Value.int (b32 (lor size m (O / 10 ^ (size - m)) (s ||| (1 <<< dAt size O m))))), σ2) ∧ _
        exact r_lo_l d hs hz m (s ||| (1 <<< dAt size O m)) (pm_wC σ 154 (upd (σ.1 154) m (nI (dAt size O m)))) .null (by omega) (or_16 s h16 _ (by omega)) hO s1 (fun j j1 j2 => by
          rw [wC_at]
          by_cases ej : j = m
          · subst ej
            rw [up_at]
          · rw [up_ne _ _ ej]
            exact hj j (by omega) j2)
    · rw [if_neg (nI_nlt (by omega) (by omega)), show Nat.blt (dAt size O m) size = false from Bool.eq_false_iff.mpr (fun e => c (Nat.le_of_ble_eq_true e))]
      exact ⟨_, rfl, s1, fun e => by cases e⟩

/-! ===== rests: the class ===== -/
theorem q_shift (d : Nat) {np k : Nat} {σ : pm_H} (h : σ.1 72 4 = nI np) : xe (d + 1) 237 [.ref 72, .int (nI k)] σ = some (some (.int (sft np k)), σ) := by
  rw [en_X3_shiftOf, sg_X3_shiftOf_0, h]
  rfl
theorem q_dig (d : Nat) {np k row : Nat} {σ : pm_H} (h : σ.1 72 4 = nI np) (hn : np ≤ 3) (hk : k < np) (hr : row < 64) : xe (d + 2) 236 [.ref 72, .int (nI row), .int (nI k)] σ = some (some (.int (nI (dig np row k))), σ) := by
  rw [en_X3_digit, sg_X3_digit_0, q_shift d h]
  simp only [pm_cl_some, Option.toList_some, Option.toList_none, List.cons_append, List.nil_append]
  rw [sg_X3_digit_6, dig_d np (by omega) k hk row hr]
theorem q_wt (d : Nat) {np k row : Nat} {lo : Nat → Nat} {σ : pm_H} (h : σ.1 72 4 = nI np) (hn : np ≤ 3) (hk : k < np) (hr : row < 64) (hl : σ.1 74 k = nI (lo k)) (hlo : lo k ≤ 99) : xe (d + 3) 235 [.ref 72, .int (nI row), .int (nI k)] σ = some (some (.int (nI (aw np row lo k))), σ) := by
  rw [en_X3_weight, sg_X3_weight_0, ck_n _ (by omega) (by omega), nI_clamp (by omega), hl, q_dig d h hn hk hr]
  simp only [pm_cl_some, Option.toList_some, Option.toList_none, List.cons_append, List.nil_append]
  rw [sg_X3_weight_14, aw_d hlo]
/-- what stands of those that are in -/
def okPl (sz : Nat) (f : Nat → Int32) (L : List Nat) (lo : Nat → Nat) : Prop := L.length ≤ 3 ∧ ∀ j, j < L.length → L.getD j 0 < sz ∧ 1 ≤ lo j ∧ lo j ≤ 99 ∧ s_least f (L.getD j 0) = nI (lo j)
theorem Gt_w {f : Nat → Int32} {L : List Nat} {σ : pm_H} (g : Gt f L σ) {c : Nat} (u : Nat → Int32) (h : c < 72 ∨ 74 < c) : Gt f L (pm_wC σ c u) := by
  refine ⟨by rw [wC_ne _ _ (by omega)]; exact g.1, fun j hj => ?_⟩
  rw [wC_ne _ _ (by omega), wC_ne _ _ (by omega)]
  exact g.2 j hj
theorem q_ask_l (d : Nat) {sz row : Nat} {f : Nat → Int32} {L : List Nat} {lo : Nat → Nat} {σ : pm_H} (hs : sz ≤ 6) (hp : okPl sz f L lo) (g : Gt f L σ) (hr : row < 64) : ∀ (m k : Nat) (u : Nat → Int32), k + m = L.length → pm_run (xe (d + 3)) pg_X3_ask (2, [.ref 72, .int (nI row), .ref 25, .int (nI k)], [], pm_wC σ 26 u) = some (none, pm_wC σ 26 (asF L.length row lo L m k u))
  | 0, k, u, e => by
    obtain ⟨p1, p2⟩ := hp
    rw [sg_X3_ask_2, wC_ne _ _ (by decide), g.1, if_neg (nI_nlt (by omega) (by omega))]
    rfl
  | m + 1, k, u, e => by
    have hp' := hp
    obtain ⟨p1, p2⟩ := hp
    obtain ⟨a1, a2, a3, a4⟩ := p2 k (by omega)
    have gw := Gt_w g (c := 26) u (by omega)
    obtain ⟨g1, g2⟩ := gw.2 k (by omega)
    rw [sg_X3_ask_2, gw.1, if_pos (nI_lt (by omega) (by omega)), ck_n _ (by omega) (by omega), nI_clamp (by omega), g1, q_wt d (lo := lo) gw.1 p1 (by omega) hr (g2.trans a4) a3]
    simp only [pm_cl_some, Option.toList_some, Option.toList_none, List.cons_append, List.nil_append]
    rw [sg_X3_ask_23, w_ask (d + 2) _ st_25 (show L.getD k 0 < 6 by omega), show (25 + 1 : Nat) = 26 from rfl, wC_at, wC_wC]
    simp only [pm_cl_some, Option.toList_some, Option.toList_none, List.cons_append, List.nil_append]
    rw [sg_X3_ask_26, nI_add]
    exact q_ask_l d hs hp' g hr m (k + 1) _ (by omega)
theorem q_ask (d : Nat) {sz row : Nat} {f u : Nat → Int32} {L : List Nat} {lo : Nat → Nat} {σ : pm_H} (hs : sz ≤ 6) (hp : okPl sz f L lo) (g : Gt f L σ) (hr : row < 64) : xe (d + 4) 234 [.ref 72, .int (nI row), .ref 25] (pm_wC σ 26 u) = some (none, pm_wC σ 26 (asF L.length row lo L L.length 0 u)) := by
  rw [en_X3_ask, sg_X3_ask_0]
  exact q_ask_l d hs hp g hr L.length 0 u (by omega)
def bitsL (L : List Nat) : Nat → Nat → Int32 → Int32
  | 0, _, x => x
  | m + 1, k, x => bitsL L m (k + 1) (x ||| (nI 1 <<< (nI (L.getD k 0) &&& 31)))
def wbb (x : Int32) (l : Nat) : Bool := !decide (((x >>> (nI l &&& 31)) &&& nI 1) = 0)
theorem wbb_w {x : Int32} {l : Nat} (h : wbb x l = true) : wb x l := by
  unfold wbb at h
  unfold wb
  intro e
  rw [decide_eq_true e] at h
  cases h
def b1x (a : Nat) : Int32 := nI 0 ||| (nI 1 <<< (nI a &&& 31))
def b2x (a b : Nat) : Int32 := b1x a ||| (nI 1 <<< (nI b &&& 31))
def b3x (a b c : Nat) : Int32 := b2x a b ||| (nI 1 <<< (nI c &&& 31))
theorem bits_1 : ∀ a, a < 6 → wbb (b1x a) a = true := by decide +kernel
theorem bits_2 : ∀ a, a < 6 → ∀ b, b < 6 → (wbb (b2x a b) a && wbb (b2x a b) b) = true := by decide +kernel
theorem bits_3 : ∀ a, a < 6 → ∀ b, b < 6 → ∀ c, c < 6 → (wbb (b3x a b c) a && (wbb (b3x a b c) b && wbb (b3x a b c) c)) = true := by decide +kernel
theorem bits_w : ∀ (L : List Nat), L.length ≤ 3 → (∀ j, j < L.length → L.getD j 0 < 6) → ∀ j, j < L.length → wb (bitsL L L.length 0 (nI 0)) (L.getD j 0)
  | [], _, _, j, hj => absurd hj (Nat.not_lt_zero j)
  | [a], _, h, 0, hj => wbb_w (bits_1 a (h 0 (by simp)))
  | [a, b], _, h, 0, hj => wbb_w ((Bool.and_eq_true _ _).mp (bits_2 a (h 0 (by simp)) b (h 1 (by simp)))).1
  | [a, b], _, h, 1, hj => wbb_w ((Bool.and_eq_true _ _).mp (bits_2 a (h 0 (by simp)) b (h 1 (by simp)))).2
  | [a, b, c], _, h, 0, hj => wbb_w ((Bool.and_eq_true _ _).mp (bits_3 a (h 0 (by simp)) b (h 1 (by simp)) c (h 2 (by simp)))).1
  | [a, b, c], _, h, 1, hj => wbb_w ((Bool.and_eq_true _ _).mp ((Bool.and_eq_true _ _).mp (bits_3 a (h 0 (by simp)) b (h 1 (by simp)) c (h 2 (by simp)))).2).1
  | [a, b, c], _, h, 2, hj => wbb_w ((Bool.and_eq_true _ _).mp ((Bool.and_eq_true _ _).mp (bits_3 a (h 0 (by simp)) b (h 1 (by simp)) c (h 2 (by simp)))).2).2
  | [a], _, h, j + 1, hj => absurd hj (by simp)
  | [a, b], _, h, j + 2, hj => absurd hj (by simp)
  | [a, b, c], _, h, j + 3, hj => absurd hj (by simp)
  | a :: b :: c :: e :: L, h3, h, j, hj => absurd h3 (by simp)
theorem q_bits_l {ev : pm_Ev} {f : Nat → Int32} {L : List Nat} {σ : pm_H} (h3 : L.length ≤ 3) (g : Gt f L σ) : ∀ (m k : Nat) (x : Int32), k + m = L.length → pm_run ev pg_X3_bits (4, [.ref 72, .int x, .int (nI k)], [], σ) = some (some (.int (bitsL L m k x)), σ)
  | 0, k, x, e => by
    rw [sg_X3_bits_4, g.1, if_neg (nI_nlt (by omega) (by omega))]
    rfl
  | m + 1, k, x, e => by
    rw [sg_X3_bits_4, g.1, if_pos (nI_lt (by omega) (by omega)), ck_n _ (by omega) (by omega), nI_clamp (by omega), (g.2 k (by omega)).1, nI_add]
    exact q_bits_l h3 g m (k + 1) _ (by omega)
theorem q_bits (d : Nat) {f : Nat → Int32} {L : List Nat} {σ : pm_H} (h3 : L.length ≤ 3) (g : Gt f L σ) : xe (d + 1) 238 [.ref 72] σ = some (some (.int (bitsL L L.length 0 (nI 0))), σ) := by
  rw [en_X3_bits, sg_X3_bits_0]
  exact q_bits_l h3 g L.length 0 _ (by omega)
/-- means so far -/
def NT (c : Nat) (M : Nat → Nat → Int32) (np row k : Nat) (σ : pm_H) : Prop := ∀ row' k', k' < np → (row' < row ∨ row' = row ∧ k' < k) → σ.1 c (row' * 3 + k') = M row' k'
theorem NT_up {c np row k : Nat} {M : Nat → Nat → Int32} {σ : pm_H} (h : NT c M np row k σ) (hn : np ≤ 3) (hk : k < np) : NT c M np row (k + 1) (pm_wC σ c (upd (σ.1 c) (row * 3 + k) (M row k))) := by
  intro row' k' hk' hc
  rw [wC_at]
  by_cases e : row' = row ∧ k' = k
  · obtain ⟨rfl, rfl⟩ := e
    rw [up_at]
  · rw [up_ne _ _ (by omega)]
    exact h row' k' hk' (by omega)
theorem NT_nx {c np row : Nat} {M : Nat → Nat → Int32} {σ : pm_H} (h : NT c M np row np σ) : NT c M np (row + 1) 0 σ := fun row' k' hk' hc => h row' k' hk' (by omega)
theorem NT_w {c c' np row k : Nat} {M : Nat → Nat → Int32} {σ σ' : pm_H} (h : NT c M np row k σ) (e : σ'.1 c = σ.1 c) : NT c M np row k σ' := fun row' k' hk' hc => by
  rw [e]
  exact h row' k' hk' hc
theorem q_note_l (d : Nat) {sz row : Nat} {f : Nat → Int32} {L : List Nat} {lo : Nat → Nat} {M : Nat → Nat → Int32} {σ0 : pm_H} (hs : sz ≤ 6) (hp : okPl sz f L lo) (hr : row < 64) : ∀ (m k : Nat) (σ : pm_H), k + m = L.length → sameX σ0 σ → Gt f L σ → NT 75 M L.length row k σ → (∀ j, j < L.length → ((σ.2 71 (L.getD j 0)) / (1000000000 : Int64)).toInt32 = M row j) → ∃ σ2, pm_run (xe (d + 1)) pg_X3_note (2, [.ref 72, .int (nI row), .ref 41, .int (nI k)], [], σ) = some (none, σ2) ∧ sameX σ0 σ2 ∧ Gt f L σ2 ∧ NT 75 M L.length (row + 1) 0 σ2
  | 0, k, σ, e, s, g, hn, hM => by
    obtain ⟨p1, p2⟩ := hp
    refine ⟨σ, ?_, s, g, NT_nx (by rw [show k = L.length by omega] at hn; exact hn)⟩
    rw [sg_X3_note_2, g.1, if_neg (nI_nlt (by omega) (by omega))]
  | m + 1, k, σ, e, s, g, hn, hM => by
    have hp' := hp
    obtain ⟨p1, p2⟩ := hp
    obtain ⟨a1, a2, a3, a4⟩ := p2 k (by omega)
    rw [sg_X3_note_2, g.1, if_pos (nI_lt (by omega) (by omega)), ck_n _ (by omega) (by omega), nI_clamp (by omega), (g.2 k (by omega)).1, en_X0_meanOf, sg_X0_meanOf_0, ck_n _ (show L.getD k 0 < 6 by omega) (by omega), nI_clamp (by omega), hM k (by omega)]
    simp only [pm_cl_some, Option.toList_some, Option.toList_none, List.cons_append, List.nil_append]
    rw [sg_X3_note_29, pk_mul, nI_add, ck_n _ (by omega) (by omega), nI_clamp (by omega), wI_wC, nI_add]
    exact q_note_l d hs hp' hr m (k + 1) _ (by omega) (sameX_w s _ ⟨rfl, rfl⟩ (by decide)) (Gt_w g _ (by omega)) (NT_up hn p1 (by omega)) hM
def rsM (V : Nat → LV → Int32) (o1 o2 : Int32) (sz : Nat) (t r f : Nat → Int32) (L : List Nat) (lo : Nat → Nat) (row k : Nat) : Int32 := (sM (vlF V o2 sz t r) (L.getD k 0) (esA V o1 sz t r (asF L.length row lo L L.length 0 f)) / (1000000000 : Int64)).toInt32
theorem q_rows (d : Nat) {f : Nat → Int32} {L : List Nat} {σ : pm_H} (h3 : L.length ≤ 3) (g : Gt f L σ) : xe (d + 1) 233 [.ref 72] σ = some (some (.int (nI (4 ^ L.length))), σ) := by
  rw [en_X3_rows, sg_X3_rows_0, g.1, fou_d _ (by omega)]
theorem q_rows_l (d : Nat) {k sz n a e nl : Nat} {T R : Nat → Nat} {V : Nat → LV → Int32} {σ : pm_H} {L : List Nat} {lo : Nat → Nat} (hk : k ≤ 5000) (h : RelB k sz T R n a e σ) (w : LW nl V σ) (hsz : 0 < sz) (hp : okPl sz (σ.1 24) L lo) (hlf : lft (R 1) sz (σ.1 5) (σ.1 24) ≤ 12) (x : Int32) : ∀ (m row : Nat) (σ' : pm_H), row + m = 4 ^ L.length → sameX σ σ' → Gt (σ.1 24) L σ' → NT 75 (rsM V (σ.1 12 6) (σ.1 12 7) sz (σ.1 4) (σ.1 5) (σ.1 24) L lo) L.length row 0 σ' → ∃ σ2, pm_run (xe (d + 19)) pg_X11_rests (19, [.ref 0, .int x, .int (nI row)], [], σ') = pm_cl (xe (d + 19) 240 [.ref 72, .int x] σ2) (fun r => pm_run (xe (d + 19)) pg_X11_rests (98, [.ref 0, .int x, .int (nI (4 ^ L.length))], r.1.toList ++ [], r.2)) ∧ sameX σ σ2 ∧ Gt (σ.1 24) L σ2 ∧ NT 75 (rsM V (σ.1 12 6) (σ.1 12 7) sz (σ.1 4) (σ.1 5) (σ.1 24) L lo) L.length (4 ^ L.length) 0 σ2
  | 0, row, σ', e, s, g, hn => by
    have h64 := p4_64 L.length (by have := hp.1; omega)
    refine ⟨σ', ?_, s, g, by rw [show row = 4 ^ L.length by omega] at hn; exact hn⟩
    rw [sg_X11_rests_19, q_rows (d + 18) hp.1 g]
    simp only [pm_cl_some, Option.toList_some, Option.toList_none, List.cons_append, List.nil_append]
    rw [sg_X11_rests_27, if_neg (nI_nlt (by omega) (by omega)), show row = 4 ^ L.length by omega]
  | m + 1, row, σ', e, s, g, hn => by
    have hh := h
    obtain ⟨⟨h1, h2, h3, h4, h5, h6, h7⟩, ⟨h8, h9⟩, -⟩ := hh
    have hT := h5 hsz
    have h64 := p4_64 L.length (by have := hp.1; omega)
    rw [sg_X11_rests_19, q_rows (d + 18) hp.1 g]
    simp only [pm_cl_some, Option.toList_some, Option.toList_none, List.cons_append, List.nil_append]
    rw [sg_X11_rests_27, if_pos (nI_lt (by omega) (by omega)), q_become (d + 18) σ' st_25 st_23]
    simp only [pm_cl_some, Option.toList_some, Option.toList_none, List.cons_append, List.nil_append]
    rw [sg_X11_rests_41, show (25 + 1 : Nat) = 26 from rfl, q_ask (d + 15) h3 hp g (by omega)]
    simp only [pm_cl_some, Option.toList_some, Option.toList_none, List.cons_append, List.nil_append]
    have s1 : sameX σ (pm_wC σ' 26 (asF L.length row lo L L.length 0 (va_cpy (σ'.1 (23 + 1)) (σ'.1 26) 0 0 71))) := sameX_w s _ ⟨rfl, rfl⟩ (by decide)
    have g1 := Gt_w g (c := 26) (asF L.length row lo L L.length 0 (va_cpy (σ'.1 (23 + 1)) (σ'.1 26) 0 0 71)) (by omega)
    rw [sg_X11_rests_53, q_bits (d + 18) hp.1 g1]
    simp only [pm_cl_some, Option.toList_some, Option.toList_none, List.cons_append, List.nil_append]
    have hMa := as_M (np := L.length) (row := row) h3 (fun j hj => ⟨(hp.2 j hj).1, (hp.2 j hj).2.1, (hp.2 j hj).2.2.1⟩) L.length 0 (σ.1 24) (σ.1 142) (by omega) h8
    obtain ⟨σ2, i1, i2, i3⟩ := q_go d (c := 25) (f := asF L.length row lo L L.length 0 (σ.1 24)) h3 hk hT (Or.inr rfl) (EnX_X (EnX_of h w) s1) (by
      rw [show (25 + 1 : Nat) = 26 from rfl, wC_at]
      exact asF_E _ _ _ _ _ _ _ _ (E_cpy (fun j _ => by show σ'.1 24 j = _; rw [s.1.1 24 rfl]))) ⟨by obtain ⟨F, f1, f2, -⟩ := hMa.1; exact ⟨F, f1, f2⟩, hMa.2.1⟩ (by rw [lft_as h3 (fun j hj => (hp.2 j hj).1) _ _ _ (by omega)]; exact hlf) (bitsL L L.length 0 (nI 0)) true
    rw [sg_X11_rests_68, show xe (d + 19) 213 [.ref 41, .ref 25, .int (bitsL L L.length 0 (nI 0)), .int (nI 1)] (pm_wC σ' 26 (asF L.length row lo L L.length 0 (va_cpy (σ'.1 (23 + 1)) (σ'.1 26) 0 0 71))) = some (none, σ2) from i1]
    simp only [pm_cl_some, Option.toList_some, Option.toList_none, List.cons_append, List.nil_append]
    have s2 := sameX_tr s1 (FRG_X i2)
    have g2 : Gt (σ.1 24) L σ2 := by
      refine ⟨by rw [i2.1 72 (by decide) (by decide) (by decide) (by decide) (fun i hi => by omega)]; exact g1.1, fun j hj => ?_⟩
      rw [i2.1 73 (by decide) (by decide) (by decide) (by decide) (fun i hi => by omega), i2.1 74 (by decide) (by decide) (by decide) (by decide) (fun i hi => by omega)]
      exact g1.2 j hj
    obtain ⟨σ3, j1, j2, j3, j4⟩ := q_note_l (d + 17) (M := rsM V (σ.1 12 6) (σ.1 12 7) sz (σ.1 4) (σ.1 5) (σ.1 24) L lo) h3 hp (show row < 64 by omega) L.length 0 σ2 (by omega) s2 g2 (NT_w (c' := 0) hn (by rw [i2.1 75 (by decide) (by decide) (by decide) (by decide) (fun i hi => by omega), wC_ne _ _ (by decide)])) (fun j hj => by
      rw [(i3 (L.getD j 0) (hp.2 j hj).1 (bits_w L hp.1 (fun j hj => by have := (hp.2 j hj).1; omega) j hj)).1 rfl]
      rfl)
    rw [sg_X11_rests_72, en_X3_note, sg_X3_note_0, j1]
    simp only [pm_cl_some, Option.toList_some, Option.toList_none, List.cons_append, List.nil_append]
    rw [sg_X11_rests_84, nI_add]
    exact q_rows_l d hk h w hsz hp hlf x m (row + 1) σ3 (by omega) j2 j3 j4
/-- which rows are at rest -/
def rvB (M : Nat → Nat → Int32) (np row k : Nat) : Nat → Nat → Bool
  | 0, _ => true
  | m + 1, v => if M row k < M (chg np row k v) k then false else rvB M np row k m (v + 1)
def rkB (M : Nat → Nat → Int32) (np row : Nat) : Nat → Nat → Bool
  | 0, _ => true
  | m + 1, k => rvB M np row k 4 0 && rkB M np row m (k + 1)
def dgs (np row : Nat) : Nat → Nat → Int32 → Int32
  | 0, _, x => x
  | m + 1, k, x => dgs np row m (k + 1) (x * nI 10 + nI (dig np row k))
def anB (M : Nat → Nat → Int32) (np : Nat) (i : Int32) : Nat → Nat → Nat → Int32
  | 0, _, c => if i = -1 then nI c else -1
  | m + 1, row, c => if rkB M np row np 0 = true then (if nI c = i then dgs np row np 0 (nI 0) else anB M np i m (row + 1) (c + 1)) else anB M np i m (row + 1) c
theorem q_rv (d : Nat) {np row k : Nat} {M : Nat → Nat → Int32} {σ : pm_H} (hn : np ≤ 3) (hk : k < np) (hr : row < 4 ^ np) (h72 : σ.1 72 4 = nI np) (hM : NT 75 M np (4 ^ np) 0 σ) : ∀ (m v : Nat) (w5 : Value), v + m = 4 → pm_run (xe (d + 1)) pg_X3_isAtRest (25, [.ref 72, .int (nI row), .int (nI k), .int (nI row &&& ((nI 3 <<< (sft np k &&& 31)) ^^^ (-1))), .int (nI v), w5], [], σ) = if rvB M np row k m v = true then pm_run (xe (d + 1)) pg_X3_isAtRest (2, [.ref 72, .int (nI row), .int (nI (k + 1)), .int (nI row &&& ((nI 3 <<< (sft np k &&& 31)) ^^^ (-1))), .int (nI 4), .null], [], σ) else some (some (.int (nI 0)), σ)
  | 0, v, w5, e => by
    rw [sg_X3_isAtRest_25, if_neg (nI_nlt (by omega) (by omega)), nI_add, show v = 4 by omega]
    rfl
  | m + 1, v, w5, e => by
    have h64 := p4_64 np (by omega)
    have c1 := chg_lt np (by omega) k hk row hr v (by omega)
    rw [sg_X3_isAtRest_25, if_pos (nI_lt (by omega) (by omega)), q_shift d h72]
    simp only [pm_cl_some, Option.toList_some, Option.toList_none, List.cons_append, List.nil_append]
    rw [sg_X3_isAtRest_39, chg_q np (by omega) k hk row hr v (by omega), pk_mul, pk_mul, nI_add, nI_add, ck_n _ (by omega) (by omega), ck_n _ (by omega) (by omega), nI_clamp (by omega), nI_clamp (by omega), hM row k hk (Or.inl hr), hM _ k hk (Or.inl c1), nI_add]
    unfold rvB
    by_cases c : M row k < M (chg np row k v) k
    · rw [if_pos c, if_pos c]
      rfl
    · rw [if_neg c, if_neg c]
      exact q_rv d hn hk hr h72 hM m (v + 1) _ (by omega)
theorem q_rk (d : Nat) {np row : Nat} {M : Nat → Nat → Int32} {σ : pm_H} (hn : np ≤ 3) (hr : row < 4 ^ np) (h72 : σ.1 72 4 = nI np) (hM : NT 75 M np (4 ^ np) 0 σ) : ∀ (m k : Nat) (w3 w4 w5 : Value), k + m = np → pm_run (xe (d + 1)) pg_X3_isAtRest (2, [.ref 72, .int (nI row), .int (nI k), w3, w4, w5], [], σ) = some (some (.int (b32 (rkB M np row m k))), σ)
  | 0, k, w3, w4, w5, e => by
    rw [sg_X3_isAtRest_2, h72, if_neg (nI_nlt (by omega) (by omega))]
    rfl
  | m + 1, k, w3, w4, w5, e => by
    rw [sg_X3_isAtRest_2, h72, if_pos (nI_lt (by omega) (by omega)), q_shift d h72]
    simp only [pm_cl_some, Option.toList_some, Option.toList_none, List.cons_append, List.nil_append]
    rw [sg_X3_isAtRest_17, q_rv d hn (by omega) hr h72 hM 4 0 _ (by omega)]
    unfold rkB
    cases rvB M np row k 4 0 with
    | false => rw [if_neg (by decide)]; rfl
    | true => rw [if_pos rfl]; exact q_rk d hn hr h72 hM m (k + 1) _ _ _ (by omega)
theorem q_dgs (d : Nat) {np row : Nat} {σ : pm_H} (hn : np ≤ 3) (hr : row < 64) (h72 : σ.1 72 4 = nI np) : ∀ (m k : Nat) (x : Int32), k + m = np → pm_run (xe (d + 2)) pg_X3_asDigits (4, [.ref 72, .int (nI row), .int x, .int (nI k)], [], σ) = some (some (.int (dgs np row m k x)), σ)
  | 0, k, x, e => by
    rw [sg_X3_asDigits_4, h72, if_neg (nI_nlt (by omega) (by omega))]
    rfl
  | m + 1, k, x, e => by
    rw [sg_X3_asDigits_4, h72, if_pos (nI_lt (by omega) (by omega)), q_dig d h72 hn (by omega) hr]
    simp only [pm_cl_some, Option.toList_some, Option.toList_none, List.cons_append, List.nil_append]
    rw [sg_X3_asDigits_22, nI_add]
    exact q_dgs d hn hr h72 m (k + 1) _ (by omega)
theorem q_an (d : Nat) {f : Nat → Int32} {L : List Nat} {M : Nat → Nat → Int32} {σ : pm_H} {i : Int32} (hn : L.length ≤ 3) (g : Gt f L σ) (hM : NT 75 M L.length (4 ^ L.length) 0 σ) : ∀ (m row c : Nat), row + m = 4 ^ L.length → c ≤ row → pm_run (xe (d + 3)) pg_X3_answer (4, [.ref 72, .int i, .int (nI c), .int (nI row)], [], σ) = some (some (.int (anB M L.length i m row c)), σ)
  | 0, row, c, e, hc => by
    have h64 := p4_64 L.length (by omega)
    rw [sg_X3_answer_4, q_rows (d + 2) hn g]
    simp only [pm_cl_some, Option.toList_some, Option.toList_none, List.cons_append, List.nil_append]
    rw [sg_X3_answer_9, if_neg (nI_nlt (by omega) (by omega))]
    unfold anB
    split <;> rfl
  | m + 1, row, c, e, hc => by
    have h64 := p4_64 L.length (by omega)
    rw [sg_X3_answer_4, q_rows (d + 2) hn g]
    simp only [pm_cl_some, Option.toList_some, Option.toList_none, List.cons_append, List.nil_append]
    rw [sg_X3_answer_9, if_pos (nI_lt (by omega) (by omega)), en_X3_isAtRest, sg_X3_isAtRest_0, q_rk (d + 1) hn (show row < 4 ^ L.length by omega) g.1 hM L.length 0 _ _ _ (by omega)]
    simp only [pm_cl_some, Option.toList_some, Option.toList_none, List.cons_append, List.nil_append]
    rw [sg_X3_answer_17, nI_add, nI_add]
    unfold anB
    cases rkB M L.length row L.length 0 with
    | false =>
      rw [if_pos bf0, if_neg (by decide)]
      exact q_an d hn g hM m (row + 1) c (by omega) (by omega)
    | true =>
      rw [if_neg bt0, if_pos rfl]
      by_cases c1 : nI c = i
      · rw [if_pos c1, if_pos c1, en_X3_asDigits, sg_X3_asDigits_0, q_dgs d hn (by omega) g.1 L.length 0 _ (by omega)]
        simp only [pm_cl_some, Option.toList_some, Option.toList_none, List.cons_append, List.nil_append]
        rw [sg_X3_answer_30]
      · rw [if_neg c1, if_neg c1]
        exact q_an d hn g hM m (row + 1) (c + 1) (by omega) (by omega)
theorem q_answer (d : Nat) {f : Nat → Int32} {L : List Nat} {M : Nat → Nat → Int32} {σ : pm_H} {i : Int32} (hn : L.length ≤ 3) (g : Gt f L σ) (hM : NT 75 M L.length (4 ^ L.length) 0 σ) : xe (d + 4) 240 [.ref 72, .int i] σ = some (some (.int (anB M L.length i (4 ^ L.length) 0 0)), σ) := by
  rw [en_X3_answer, sg_X3_answer_0, q_an d hn g hM (4 ^ L.length) 0 0 (by omega) (by omega)]

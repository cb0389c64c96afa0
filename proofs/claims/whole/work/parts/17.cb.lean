/-! ===== rows that are the same as far as a Stand reaches ===== -/
def E71 (f g : Nat → Int32) : Prop := ∀ j, j < 71 → f j = g j
theorem E_up {f g : Nat → Int32} (h : E71 f g) (k : Nat) {u v : Int32} (e : u = v) : E71 (upd f k u) (upd g k v) := by
  subst e
  intro j hj
  by_cases c : j = k
  · subst c
    rw [up_at, up_at]
  · rw [up_ne _ _ c, up_ne _ _ c]
    exact h j hj
theorem E_in {r f g : Nat → Int32} (h : E71 f g) {l : Nat} (hl : l < 6) : s_in r f l = s_in r g l := by
  unfold s_in
  rw [h (47 + l) (by omega), h (11 + l) (by omega), h (17 + l) (by omega)]
def nxF (sz : Nat) (r f : Nat → Int32) : Option Nat := nx1 (s_in r f) (s_ah f) 0 sz none
theorem E_nx {sz : Nat} {r f g : Nat → Int32} (hs : sz ≤ 6) (h : E71 f g) : nxF sz r f = nxF sz r g := nx1_eq (sz := sz) (fun l hl => E_in h (by omega)) (fun i j hi hj => s_ah_ext (by omega) (by omega) h) sz 0 none (by omega) (fun j e => by cases e)
theorem E_made {t r f g : Nat → Int32} {who : Nat} (good : Bool) (hw : who < 6) (h : E71 f g) : E71 (g_made t r f who good) (g_made t r g who good) := by
  have e2 := h 2 (by omega)
  have e3 := h 3 (by omega)
  have e5 := h (5 + who) (by omega)
  have h1 : E71 (upd (upd (upd f 2 (f 2 + (if f 3 = nI who then nI 2 else nI 1))) 1 (f (5 + who))) 3 (nI who)) (upd (upd (upd g 2 (g 2 + (if g 3 = nI who then nI 2 else nI 1))) 1 (g (5 + who))) 3 (nI who)) := E_up (E_up (E_up h 2 (by rw [e2, e3])) 1 e5) 3 rfl
  unfold g_made
  rw [e5]
  rw [e5] at h1
  generalize upd (upd (upd f 2 (f 2 + (if f 3 = nI who then nI 2 else nI 1))) 1 (g (5 + who))) 3 (nI who) = f1 at h1 ⊢
  generalize upd (upd (upd g 2 (g 2 + (if g 3 = nI who then nI 2 else nI 1))) 1 (g (5 + who))) 3 (nI who) = g1 at h1 ⊢
  have h4 : E71 (upd (upd (upd (upd (upd f1 (41 + who) (f1 2)) (11 + who) (f1 (11 + who) + nI 1)) (35 + who) (f1 (35 + who) + nI 1)) (23 + who) (r 0)) (17 + who) (g (5 + who))) (upd (upd (upd (upd (upd g1 (41 + who) (g1 2)) (11 + who) (g1 (11 + who) + nI 1)) (35 + who) (g1 (35 + who) + nI 1)) (23 + who) (r 0)) (17 + who) (g (5 + who))) := E_up (E_up (E_up (E_up (E_up h1 _ (h1 2 (by omega))) _ (by rw [h1 (11 + who) (by omega)])) _ (by rw [h1 (35 + who) (by omega)])) _ rfl) _ rfl
  unfold g_mk2
  rw [h1 0 (by omega), h1 4 (by omega)]
  cases good
  · exact E_up h4 _ rfl
  · exact E_up (E_up (E_up (E_up (E_up h4 _ rfl) _ rfl) _ rfl) _ rfl) _ rfl
theorem E_j1 {t r f g : Nat → Int32} {l : Nat} (hl : l < 6) (h : E71 f g) : E71 (g_jerk1 t r f l) (g_jerk1 t r g l) := by
  unfold g_jerk1 g_start
  rw [h 2 (by omega), h (53 + l) (by omega), h (47 + l) (by omega)]
  have h1 : E71 (upd (upd f (11 + l) (nI 0)) (41 + l) (g 2)) (upd (upd g (11 + l) (nI 0)) (41 + l) (g 2)) := E_up (E_up h _ rfl) _ rfl
  split
  · split
    · exact E_up (E_up (E_up h1 _ rfl) _ rfl) _ rfl
    · exact E_up h1 _ rfl
  · exact E_up h1 _ rfl
theorem E_jL {t r : Nat → Int32} : ∀ (k i : Nat) (f g : Nat → Int32), i + k ≤ 6 → E71 f g → E71 (g_jerkL t r i k f) (g_jerkL t r i k g)
  | 0, _, _, _, _, h => h
  | k + 1, i, f, g, hi, h => E_jL k (i + 1) _ _ (by omega) (E_j1 (by omega) h)
theorem E_non {sz : Nat} {r f g : Nat → Int32} (hs : sz ≤ 6) (h : E71 f g) : non (s_in r f) 0 sz = non (s_in r g) 0 sz := non_eq (sz := sz) (fun l hl => E_in h (by omega)) sz 0 (by omega)
theorem E_over {sz : Nat} {r f g : Nat → Int32} (hs : sz ≤ 6) (h : E71 f g) : E71 (g_over sz r f) (g_over sz r g) := by
  unfold g_over
  rw [h 0 (by omega), E_non hs h]
  split
  · split
    · exact E_up h _ rfl
    · exact h
  · exact h
theorem E_on {sz : Nat} {t r f g : Nat → Int32} (hs : sz ≤ 6) (h : E71 f g) : E71 (g_on sz t r f) (g_on sz t r g) := by
  unfold g_on
  refine E_over hs ?_
  rw [h 0 (by omega), E_non hs h]
  split
  · split
    · exact E_jL sz 0 _ _ (by omega) (E_up (E_up (E_up h _ rfl) _ rfl) _ rfl)
    · exact h
  · exact h
theorem E_rp {f g : Nat → Int32} {F : Nat → Nat} (h : E71 f g) (hg : rp g F) : rp f F := fun j hj h3 => (h j hj).trans (hg j hj h3)
theorem E_sy {f g : Nat → Int32} (h : E71 f g) : E71 g f := fun j hj => (h j hj).symm
theorem E_cpy {f g h : Nat → Int32} (e : E71 f g) : E71 (va_cpy f h 0 0 71) g := fun j hj => (cpy71 f h hj).trans (e j hj)
def stF (sz : Nat) (t r f : Nat → Int32) (who : Nat) (good : Bool) : Nat → Int32 := g_on sz t r (g_made t r f who good)
def nt (f : Nat → Int32) : Nat → Nat := fun j => (f j).toNatClampNeg
def chF (V : Nat → LV → Int32) (o : Int32) (t f : Nat → Int32) (l : Nat) : Nat := (oddN V o (nt t) (nt f) l ((f (5 + l)).toNatClampNeg)).toNatClampNeg
def vlF (V : Nat → LV → Int32) (o : Int32) (sz : Nat) (t r f : Nat → Int32) (l : Nat) : Int32 := plv V o (s_place sz t r f l).toNatClampNeg (s_sum f l).toNatClampNeg (t (l * 10 + 2)).toNatClampNeg
/-- a row as it may stand -/
def RI (k sz : Nat) (R : Nat → Nat) (r f : Nat → Int32) : Prop := (∃ F, rp f F ∧ okN k sz (R 1) F) ∧ okO sz r f
theorem RI_E {k sz : Nat} {R : Nat → Nat} {r f g : Nat → Int32} (hs : sz ≤ 6) (h : E71 f g) (hg : RI k sz R r g) : RI k sz R r f := by
  obtain ⟨⟨F, f1, f2⟩, hO⟩ := hg
  exact ⟨⟨F, E_rp h f1, f2⟩, fun e l hl => by rw [E_in h (by omega)]; exact hO (by rw [← h 0 (by omega)]; exact e) l hl⟩
theorem RI_0 {k sz who : Nat} {R F : Nat → Nat} {r f : Nat → Int32} (h : rp f F) (hN : okN k sz (R 1) F) (hO : okO sz r f) (hw : who < sz) (hin : s_in r f who = true) : F 0 < 2 := by
  by_cases c : F 0 = 2
  · have := hO (by rw [h 0 (by omega) (by omega), c]) who hw
    rw [this] at hin
    cases hin
  · have := hN.1
    omega
theorem RI_st {k sz who : Nat} {t r f : Nat → Int32} {T R : Nat → Nat} (good : Bool) (hs : sz ≤ 6) (ht : okT sz t r T R) (h : RI k sz R r f) (hw : who < sz) (hin : s_in r f who = true) : RI k sz R r (stF sz t r f who good) := by
  obtain ⟨⟨F, f1, f2⟩, hO⟩ := h
  have h0 := RI_0 f1 f2 hO hw hin
  obtain ⟨F', a1, a2, a3, a4⟩ := inv_made good hs ht f1 f2 hw hin h0
  obtain ⟨F2, b1, b2, b3, b4, b5⟩ := inv_on hs ht a1 a2 (fun e => by
    rw [a1 0 (by omega) (by omega), a4] at e
    have := (nI_eq (by omega) (by omega)).mp e
    omega)
  exact ⟨⟨F2, b1, b2⟩, b5⟩
theorem lft_st {k sz who : Nat} {t r f : Nat → Int32} {T R : Nat → Nat} (good : Bool) (hs : sz ≤ 6) (ht : okT sz t r T R) (h : RI k sz R r f) (hw : who < sz) (hin : s_in r f who = true) : lft (R 1) sz r (stF sz t r f who good) + 1 ≤ lft (R 1) sz r f := by
  obtain ⟨⟨F, f1, f2⟩, -⟩ := h
  unfold stF
  rw [lft_on hs ht]
  exact lft_made good hs ht f1 f2 hw hin
theorem clm_r (x : Int32) : ∃ c, c ≤ 100 ∧ clm x = nI c := by
  unfold clm
  by_cases c1 : x < 0
  · rw [if_pos c1]; exact ⟨0, by omega, rfl⟩
  · rw [if_neg c1]
    by_cases c2 : nI 100 < x
    · rw [if_pos c2]; exact ⟨100, by omega, rfl⟩
    · rw [if_neg c2]
      obtain ⟨j, hj, rfl⟩ := nI_of c1
      refine ⟨j, ?_, rfl⟩
      by_cases c : j ≤ 100
      · exact c
      · exact absurd (nI_lt (show 100 < j by omega) hj) c2
theorem oddN_nt {k sz l W : Nat} {t r f : Nat → Int32} {T R F : Nat → Nat} (V : Nat → LV → Int32) (o : Int32) (hs : sz ≤ 6) (hk : k ≤ 5000) (ht : okT sz t r T R) (h : rp f F) (hN : okN k sz (R 1) F) (hl : l < sz) : oddN V o T F l W = oddN V o (nt t) (nt f) l W := by
  obtain ⟨t1, t2, t3, t4⟩ := ht
  obtain ⟨o0, o1, o2, o4, ol⟩ := hN
  obtain ⟨⟨l1, l2, l3, l4, l5, l6⟩, l7, l8, l9, l10, l11, l12⟩ := ol l hl
  obtain ⟨⟨u1, u2, u3, u4, u5, u6⟩, ⟨u7, u8, u9, u10, u11, u12⟩, u13, u14, u15⟩ := t4 l hl
  have hsum : F 4 ≤ sz * 6 := by
    rw [o4]
    exact sumN_le sz (fun q hq => by have := ol q hq; unfold okL at this; omega)
  have ff : ∀ j, j < 71 → j ≠ 3 → F j < 2 ^ 31 → nt f j = F j := fun j hj h3 hb => by unfold nt; rw [h j hj h3, nI_clamp hb]
  have tt : ∀ j, j < 10 → T (l * 10 + j) < 2 ^ 31 → nt t (l * 10 + j) = T (l * 10 + j) := fun j hj hb => by unfold nt; rw [t1 l hl j hj, nI_clamp hb]
  unfold oddN
  rw [tt 0 (by omega) (by omega), tt 1 (by omega) (by omega), tt 2 (by omega) (by omega), tt 3 (by omega) (by omega), tt 4 (by omega) (by omega), tt 5 (by omega) (by omega), ff 0 (by omega) (by omega) (by omega), ff 2 (by omega) (by omega) (by omega), ff (29 + l) (by omega) (by omega) (by omega), ff (35 + l) (by omega) (by omega) (by omega), ff (41 + l) (by omega) (by omega) (by omega), ff (11 + l) (by omega) (by omega) (by omega)]
theorem lN_div {s c : Nat} (hs : s ≤ 1000000000) (hc : c ≤ 100) : (lN s * (nI c).toInt64) / (100 : Int64) = lN (s * c / 100) := by
  have : s * c ≤ 1000000000 * 100 := Nat.mul_le_mul hs hc
  rw [nI_l (by omega), lN_mul, show (100 : Int64) = lN 100 from rfl, pk_lDiv (by omega) (by omega) (by omega)]
theorem div_le {s c : Nat} (hc : c ≤ 100) : s * c / 100 ≤ s := by
  have : s * c ≤ s * 100 := Nat.mul_le_mul (Nat.le_refl s) hc
  omega
/-! ===== the class: all ways ===== -/
def EnX (sz nl : Nat) (V : Nat → LV → Int32) (t r : Nat → Int32) (o1 o2 : Int32) (σ : pm_H) : Prop := σ.1 3 2 = nI sz ∧ σ.1 4 = t ∧ σ.1 5 = r ∧ CLw nl V σ ∧ (σ.1 12 6 = o1 ∧ σ.1 12 7 = o2) ∧ lawok nl o1 ∧ lawok nl o2
def FRX (dp : Nat) (σ σ' : pm_H) : Prop := (∀ c, c ≠ 21 → c ≠ 22 → c ≠ 42 → (∀ i, dp < i → i < 13 → c ≠ 45 + 2 * i) → σ'.1 c = σ.1 c) ∧ ∀ c, c ≠ 70 → c ≠ 71 → σ'.2 c = σ.2 c
theorem FRX_rfl (dp : Nat) (σ : pm_H) : FRX dp σ σ := ⟨fun _ _ _ _ _ => rfl, fun _ _ _ => rfl⟩
theorem FRX_tr {dp : Nat} {σ σ1 σ2 : pm_H} (h : FRX dp σ σ1) (h' : FRX dp σ1 σ2) : FRX dp σ σ2 := ⟨fun c a b e g => (h'.1 c a b e g).trans (h.1 c a b e g), fun c a b => (h'.2 c a b).trans (h.2 c a b)⟩
theorem FRX_up {dp dp' : Nat} {σ σ' : pm_H} (h : FRX dp' σ σ') (hd : dp ≤ dp') : FRX dp σ σ' := ⟨fun c a b e g => h.1 c a b e (fun i h1 h2 => g i (by omega) h2), h.2⟩
theorem EnX_F {dp sz nl : Nat} {V : Nat → LV → Int32} {t r : Nat → Int32} {o1 o2 : Int32} {σ σ' : pm_H} (h : EnX sz nl V t r o1 o2 σ) (s : FRX dp σ σ') : EnX sz nl V t r o1 o2 σ' := by
  obtain ⟨h1, h2, h3, ⟨c1, c2, c3⟩, ⟨h5, h6⟩, h7, h8⟩ := h
  have g : ∀ c, c < 21 → σ'.1 c = σ.1 c := fun c hc => s.1 c (by omega) (by omega) (by omega) (fun i _ _ => by omega)
  exact ⟨by rw [g 3 (by omega)]; exact h1, by rw [g 4 (by omega)]; exact h2, by rw [g 5 (by omega)]; exact h3, ⟨c1, by rw [g 12 (by omega)]; exact c2, fun j hj => by
    obtain ⟨cc, a1, a2, a3, a4⟩ := c3 j hj
    exact ⟨cc, by rw [g 20 (by omega)]; exact a1, a2, by rw [g (14 + j) (by omega)]; exact a3, a4⟩⟩, ⟨by rw [g 12 (by omega)]; exact h5, by rw [g 12 (by omega)]; exact h6⟩, h7, h8⟩
def wb (x : Int32) (l : Nat) : Prop := ¬ ((x >>> (nI l &&& 31)) &&& nI 1) = 0
def AccX (V : Nat → LV → Int32) (o2 : Int32) (sz : Nat) (t r : Nat → Int32) (σ σ' : pm_H) (es : List ((Nat → Int32) × Nat)) : Prop := ∀ l, l < sz → wb (σ.1 41 6) l →
  (σ.1 41 7 = nI 1 → σ'.2 71 l = σ.2 71 l + sM (vlF V o2 sz t r) l es) ∧ (σ.1 41 7 = nI 0 → ∀ q, q < 7 → σ'.2 70 (l * 7 + q) = σ.2 70 (l * 7 + q) + sP (s_place sz t r) l q es)
theorem wJ_2 (σ : pm_H) (c k : Nat) (v : Int64) : (pm_wJ σ c k v).2 c = vp_updL (σ.2 c) k v := by
  show (if c = c then vp_updL (σ.2 c) k v else σ.2 c) = _
  rw [if_pos rfl]
theorem q_settle_l (d : Nat) {k sz nl c s : Nat} {V : Nat → LV → Int32} {t r : Nat → Int32} {T R : Nat → Nat} {o1 o2 : Int32} (hc : st_ok c) (hc1 : c + 1 ≠ 21 ∧ c + 1 ≠ 22 ∧ c + 1 ≠ 42) (hs : sz ≤ 6) (ht : okT sz t r T R) : ∀ (m i : Nat) (σ : pm_H) (w3 : Value), i + m = sz → EnX sz nl V t r o1 o2 σ → RI k sz R r (σ.1 (c + 1)) → (σ.1 41 7 = nI 0 ∨ σ.1 41 7 = nI 1) → ∃ σ', pm_run (xe (d + 4)) pg_X0_settle (3, [.ref 41, .ref c, .long (lN s), w3, .int (nI i)], [], σ) = some (none, σ') ∧ (∀ q, q ≠ 21 → q ≠ 22 → σ'.1 q = σ.1 q) ∧ (∀ q, q ≠ 70 → q ≠ 71 → σ'.2 q = σ.2 q) ∧ ∀ l, l < sz → wb (σ.1 41 6) l → (σ.1 41 7 = nI 1 → σ'.2 71 l = σ.2 71 l + (if i ≤ l then lN s * (vlF V o2 sz t r (σ.1 (c + 1)) l).toInt64 else 0)) ∧ (σ.1 41 7 = nI 0 → ∀ q, q < 7 → σ'.2 70 (l * 7 + q) = σ.2 70 (l * 7 + q) + (if i ≤ l then (if s_place sz t r (σ.1 (c + 1)) l = nI q then lN s else 0) else 0))
  | 0, i, σ, w3, e, hE, hR, hw => by
    refine ⟨σ, ?_, fun _ _ _ => rfl, fun _ _ _ => rfl, fun l hl _ => ⟨fun _ => by rw [if_neg (by omega), Int64.add_zero], fun _ q _ => by rw [if_neg (by omega), Int64.add_zero]⟩⟩
    rw [sg_X0_settle_3 hc.1 hc.2, hE.1, if_neg (nI_nlt (by omega) (by omega))]
  | m + 1, i, σ, w3, e, hE, hR, hw => by
    rw [sg_X0_settle_3 hc.1 hc.2, hE.1, if_pos (nI_lt (by omega) (by omega)), nI_add]
    have hi6 : i < 6 := by omega
    have isz : i < sz := by omega
    by_cases cb : ((σ.1 41 6 >>> (nI i &&& 31)) &&& nI 1) = 0
    · rw [if_pos cb]
      obtain ⟨σ', e1, e2, e3, e4⟩ := q_settle_l d (s := s) hc hc1 hs ht m (i + 1) σ .null (by omega) hE hR hw
      refine ⟨σ', e1, e2, e3, fun l hl hb => ?_⟩
      have hne : l ≠ i := fun q => hb (by rw [q]; exact cb)
      obtain ⟨a1, a2⟩ := e4 l hl hb
      exact ⟨fun h => by rw [a1 h]; congr 1; by_cases c : i ≤ l <;> simp only [c, show (i + 1 ≤ l) = (i ≤ l) from propext (by omega), if_true, if_false], fun h q hq => by rw [a2 h q hq]; congr 1; by_cases c : i ≤ l <;> simp only [c, show (i + 1 ≤ l) = (i ≤ l) from propext (by omega), if_true, if_false]⟩
    · rw [if_neg cb]
      obtain ⟨P, p1, p2⟩ := s_place_6 (t := t) (r := r) (f := σ.1 (c + 1)) isz
      rcases hw with hw | hw
      · rw [if_pos (by rw [hw]; exact n00), q_place (d + 1) σ hc hE.1 hs hi6, hE.2.1, hE.2.2.1, p2]
        simp only [pm_cl_some, Option.toList_some, Option.toList_none, List.cons_append, List.nil_append]
        rw [sg_X0_settle_75 hc.1 hc.2, pk_mul, nI_add, ck_n _ (by omega) (by omega), ck_n _ (by omega) (by omega), nI_clamp (by omega), nI_add]
        obtain ⟨σ', e1, e2, e3, e4⟩ := q_settle_l d (s := s) (V := V) (nl := nl) (o1 := o1) (o2 := o2) (T := T) (R := R) (t := t) (r := r) (k := k) hc hc1 hs ht m (i + 1) (pm_wJ σ 70 (i * 7 + P) (σ.2 70 (i * 7 + P) + lN s)) .null (by omega) hE hR (Or.inl hw)
        refine ⟨σ', e1, e2, fun q h1 h2 => (e3 q h1 h2).trans (pm_wJ_ne σ _ _ h1).2, fun l hl hb => ⟨fun h => ?_, fun h q hq => ?_⟩⟩
        · rw [hw] at h
          exact absurd h (by decide)
        · rw [(e4 l hl hb).2 h q hq, wJ_2]
          by_cases cl : l = i
          · subst cl
            rw [if_neg (by omega), if_pos (Nat.le_refl _), Int64.add_zero]
            by_cases cq : P = q
            · subst cq
              rw [pk_uLs, if_pos p2]
            · rw [pk_uLn (by omega), if_neg (fun e => cq ((nI_eq (by omega) (by omega)).mp (p2.symm.trans e))), Int64.add_zero]
          · rw [pk_uLn (by omega)]
            congr 1
            by_cases c : i ≤ l <;> simp only [c, show (i + 1 ≤ l) = (i ≤ l) from propext (by omega), if_true, if_false]
            rfl
      · have hR0 := hR
        obtain ⟨⟨F, f1, f2⟩, -⟩ := hR0
        have hl := f2.2.2.2.2 i isz
        unfold okL at hl
        obtain ⟨S, q1, q2⟩ := sm_sum (f := σ.1 (c + 1)) (l := i) (a := F (53 + i)) (b := F (59 + i)) (by omega) (by omega) (f1 _ (by omega) (by omega)) (f1 _ (by omega) (by omega))
        obtain ⟨t1, t2⟩ := okT_2 ht i isz
        obtain ⟨g21, g22, hg⟩ := q_wop d (c := c) (P := P) (S := S) (B := T (i * 10 + 2)) hE.2.2.2.1 (by rw [hE.2.2.2.2.1.2]; exact hE.2.2.2.2.2.2) hc hi6 hE.1 hs (by rw [hE.2.1, hE.2.2.1]; exact p2) q2 (by rw [hE.2.1]; exact t1) (by omega)
        rw [if_neg (by rw [hw]; exact n10), ck_n _ hi6 (by omega), hg, nI_clamp (by omega)]
        simp only [pm_cl_some, Option.toList_some, Option.toList_none, List.cons_append, List.nil_append]
        rw [sg_X0_settle_53 hc.1 hc.2, ck_n _ hi6 (by omega), nI_clamp (by omega), nI_add]
        have hE' : EnX sz nl V t r o1 o2 (pm_wC (pm_wC σ 21 g21) 22 g22) := EnX_F (dp := 0) hE ⟨fun q h1 h2 _ _ => by rw [wC_ne _ _ h2, wC_ne _ _ h1], fun _ _ _ => rfl⟩
        have e41 : (pm_wC (pm_wC σ 21 g21) 22 g22).1 41 = σ.1 41 := by rw [wC_ne _ _ (by decide), wC_ne _ _ (by decide)]
        have ec : (pm_wC (pm_wC σ 21 g21) 22 g22).1 (c + 1) = σ.1 (c + 1) := by rw [wC_ne _ _ hc1.2.1, wC_ne _ _ hc1.1]
        obtain ⟨σ', e1, e2, e3, e4⟩ := q_settle_l d (s := s) (V := V) (nl := nl) (o1 := o1) (o2 := o2) (T := T) (R := R) (t := t) (r := r) (k := k) hc hc1 hs ht m (i + 1) (pm_wJ (pm_wC (pm_wC σ 21 g21) 22 g22) 71 i (σ.2 71 i + lN s * (plv V (σ.1 12 7) P S (T (i * 10 + 2))).toInt64)) .null (by omega) hE' (by show RI k sz R r ((pm_wC (pm_wC σ 21 g21) 22 g22).1 (c + 1)); rw [ec]; exact hR) (Or.inr (by show (pm_wC (pm_wC σ 21 g21) 22 g22).1 41 7 = nI 1; rw [e41]; exact hw))
        have e41' : (pm_wJ (pm_wC (pm_wC σ 21 g21) 22 g22) 71 i (σ.2 71 i + lN s * (plv V (σ.1 12 7) P S (T (i * 10 + 2))).toInt64)).1 41 = σ.1 41 := e41
        have ec' : (pm_wJ (pm_wC (pm_wC σ 21 g21) 22 g22) 71 i (σ.2 71 i + lN s * (plv V (σ.1 12 7) P S (T (i * 10 + 2))).toInt64)).1 (c + 1) = σ.1 (c + 1) := ec
        rw [e41', ec'] at e4
        refine ⟨σ', e1, fun q h1 h2 => (e2 q h1 h2).trans (by show (pm_wC (pm_wC σ 21 g21) 22 g22).1 q = _; rw [wC_ne _ _ h2, wC_ne _ _ h1]), fun q h1 h2 => (e3 q h1 h2).trans (pm_wJ_ne (pm_wC (pm_wC σ 21 g21) 22 g22) _ _ h2).2, fun l hl hb => ⟨fun h => ?_, fun h => ?_⟩⟩
        · rw [(e4 l hl hb).1 h, wJ_2]
          by_cases cl : l = i
          · subst cl
            rw [if_neg (by omega), if_pos (Nat.le_refl _), Int64.add_zero, pk_uLs]
            unfold vlF
            rw [p2, q2, nI_clamp (by omega), nI_clamp (by omega), t1, nI_clamp (by omega), hE.2.2.2.2.1.2]
          · rw [pk_uLn cl]
            congr 1
            by_cases c : i ≤ l <;> simp only [c, show (i + 1 ≤ l) = (i ≤ l) from propext (by omega), if_true, if_false]
        · rw [hw] at h
          exact absurd h (by decide)

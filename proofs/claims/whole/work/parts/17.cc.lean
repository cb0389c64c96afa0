/-! ===== the class: all ways, on and on ===== -/
theorem E_pl {sz l : Nat} {t r f g : Nat → Int32} (hs : sz ≤ 6) (hl : l < sz) (h : E71 f g) : s_place sz t r f l = s_place sz t r g l := s_place_ext hl (fun i hi => ⟨h _ (by omega), h _ (by omega), h _ (by omega)⟩)
theorem E_sum {l : Nat} {f g : Nat → Int32} (hl : l < 6) (h : E71 f g) : s_sum f l = s_sum g l := s_sum_ext (h _ (by omega)) (h _ (by omega))
theorem E_vl {V : Nat → LV → Int32} {o : Int32} {sz l : Nat} {t r f g : Nat → Int32} (hs : sz ≤ 6) (hl : l < sz) (h : E71 f g) : vlF V o sz t r f l = vlF V o sz t r g l := by
  unfold vlF
  rw [E_pl hs hl h, E_sum (by omega) h]
theorem AccX_tr {V : Nat → LV → Int32} {o2 : Int32} {sz dp : Nat} {t r : Nat → Int32} {σ σ1 σ2 : pm_H} {es es' : List ((Nat → Int32) × Nat)} (hF : FRX dp σ σ1) (h : AccX V o2 sz t r σ σ1 es) (h' : AccX V o2 sz t r σ1 σ2 es') : AccX V o2 sz t r σ σ2 (es ++ es') := by
  have e41 : σ1.1 41 = σ.1 41 := hF.1 41 (by decide) (by decide) (by decide) (fun i _ _ => by omega)
  intro l hl hb
  obtain ⟨a1, a2⟩ := h l hl hb
  unfold AccX at h'
  rw [e41] at h'
  obtain ⟨b1, b2⟩ := h' l hl hb
  exact ⟨fun c => by rw [b1 c, a1 c, sM_app, Int64.add_assoc], fun c q hq => by rw [b2 c q hq, a2 c q hq, sP_app, Int64.add_assoc]⟩
theorem AccX_0 {V : Nat → LV → Int32} {o2 : Int32} {sz : Nat} {t r : Nat → Int32} {σ : pm_H} {nx : (Nat → Int32) → Option Nat} {ch : (Nat → Int32) → Nat → Nat} {st : (Nat → Int32) → Nat → Bool → (Nat → Int32)} {m : Nat} {f : Nat → Int32} : AccX V o2 sz t r σ σ (ends nx ch st m f 0) := fun l hl hb => ⟨fun _ => by rw [(ends_0 (s_place sz t r) _ l 0 m f).2, Int64.add_zero], fun _ q _ => by rw [(ends_0 _ (vlF V o2 sz t r) l q m f).1, Int64.add_zero]⟩
theorem q_goOn (d : Nat) {k sz nl : Nat} {V : Nat → LV → Int32} {t r : Nat → Int32} {T R : Nat → Nat} {o1 o2 : Int32} (hs : sz ≤ 6) (hk : k ≤ 5000) (ht : okT sz t r T R) : ∀ (m dp s : Nat) (f : Nat → Int32) (σ : pm_H), dp + m = 12 → lft (R 1) sz r f ≤ m → RI k sz R r f → s ≤ 1000000000 → EnX sz nl V t r o1 o2 σ → E71 (σ.1 (45 + 2 * dp)) f → (σ.1 41 7 = nI 0 ∨ σ.1 41 7 = nI 1) → ∃ σ', xe (d + m + 6) 216 [.ref 41, .int (nI dp), .long (lN s)] σ = some (none, σ') ∧ FRX dp σ σ' ∧ AccX V o2 sz t r σ σ' (ends (nxF sz r) (chF V o1 t) (stF sz t r) m f s)
  | m, dp, s, f, σ, e, hl, hR, hsb, hE, hf, hw => by
    have hst := st_lev dp (by omega)
    have hrow : σ.1 (44 + 2 * dp + 1) = σ.1 (45 + 2 * dp) := by rw [show 44 + 2 * dp + 1 = 45 + 2 * dp by omega]
    have hRr : RI k sz R r (σ.1 (45 + 2 * dp)) := RI_E hs hf hR
    rw [en_X0_goOn, sg_X0_goOn_0 (by rw [nI_clamp (by omega)]; exact hst.1) (by rw [nI_clamp (by omega)]; exact hst.2), nI_clamp (show dp < 2 ^ 31 by omega), ck_n _ (show dp < 13 by omega) (by omega)]
    have hcd : xe (d + m + 5) 149 [.ref (44 + 2 * dp)] σ = some (some (.int (oi (nxF sz r f))), σ) := by
      rw [q_called (d + m + 2) σ hst hE.1 hs, hE.2.2.1, hrow, ← E_nx (r := r) hs hf]
      rfl
    rw [hcd]
    simp only [pm_cl_some, Option.toList_some, Option.toList_none, List.cons_append, List.nil_append]
    rw [sg_X0_goOn_13 hst.1 hst.2]
    cases hnx : nxF sz r f with
    | none =>
      rw [if_pos (show oi none = -1 from rfl)]
      obtain ⟨σ', e1, e2, e3, e4⟩ := q_settle_l (d + m) (c := 44 + 2 * dp) (k := k) (s := s) (V := V) (nl := nl) (o1 := o1) (o2 := o2) (T := T) (R := R) hst (by omega) hs ht sz 0 σ .null (by omega) hE (by rw [hrow]; exact hRr) hw
      rw [en_X0_settle, sg_X0_settle_0 hst.1 hst.2, e1]
      simp only [pm_cl_some, Option.toList_some, Option.toList_none, List.cons_append, List.nil_append]
      rw [sg_X0_goOn_39 hst.1 hst.2]
      refine ⟨σ', rfl, ⟨fun c h1 h2 _ _ => e2 c h1 h2, e3⟩, ?_⟩
      have hen : ends (nxF sz r) (chF V o1 t) (stF sz t r) m f s = [(f, s)] := by
        cases m with
        | zero => rfl
        | succ m =>
          unfold ends
          rw [hnx]
      rw [hen]
      intro l hl hb
      obtain ⟨a1, a2⟩ := e4 l hl hb
      rw [hrow] at a1 a2
      refine ⟨fun h => ?_, fun h q hq => ?_⟩
      · rw [a1 h, if_pos (Nat.zero_le _), E_vl hs hl hf]
        show _ = _ + (lN s * (vlF V o2 sz t r f l).toInt64 + 0)
        rw [Int64.add_zero]
      · rw [a2 h q hq, if_pos (Nat.zero_le _), E_pl hs hl hf]
        show _ = _ + ((if s_place sz t r f l = nI q then lN s else 0) + 0)
        rw [Int64.add_zero]
    | some who =>
      obtain ⟨hw1, hin⟩ := nx1_in (s_in r f) (s_ah f) sz 0 none (fun j e => by cases e) who hnx
      have hwz : who < sz := by omega
      match m, e, hl with
      | 0, e, hl =>
        have := lft_st (t := t) true hs ht hR hwz hin
        omega
      | m + 1, e, hl =>
        have hR0 := hR
        obtain ⟨⟨F, f1, f2⟩, hO⟩ := hR0
        have hokL := f2.2.2.2.2 who hwz
        unfold okL at hokL
        have hF5 : f (5 + who) = nI (F (5 + who)) := f1 _ (by omega) (by omega)
        rw [if_neg (show ¬ oi (some who) = -1 from nI_nm1 (by omega)), nI_add, if_pos (nI_lt (show dp + 1 < 13 by omega) (by omega)), show oi (some who) = nI who from rfl, w_take (d + (m + 1) + 3) σ mo_42 hst (show who < 6 by omega)]
        simp only [pm_cl_some, Option.toList_some, Option.toList_none, List.cons_append, List.nil_append]
        have n45 : 44 + 2 * dp + 1 ≠ 42 := by omega
        rw [sg_X0_goOn_51 hst.1 hst.2, q_of (d + (m + 1) + 4) _ hst (by omega), wC_ne _ _ n45, show σ.1 (44 + 2 * dp + 1) (5 + who) = nI (F (5 + who)) from by rw [hrow, hf (5 + who) (by omega)]; exact hF5]
        simp only [pm_cl_some, Option.toList_some, Option.toList_none, List.cons_append, List.nil_append]
        obtain ⟨g21, g22, hg⟩ := q_oddT (d + (m + 1) + 1) (u := 42) (c := 44 + 2 * dp) (W := F (5 + who)) (F := F) hE.2.2.2.1 (by rw [hE.2.2.2.2.1.1]; exact hE.2.2.2.2.2.1) mo_42 hst hs hk (by rw [hE.2.1, hE.2.2.1]; exact ht) (by rw [hrow]; exact E_rp hf f1) f2 hwz (by omega)
        rw [sg_X0_goOn_68 hst.1 hst.2, hg]
        simp only [pm_cl_some, Option.toList_some, Option.toList_none, List.cons_append, List.nil_append]
        rw [hE.2.2.2.2.1.1]
        have hch : ∃ c, c ≤ 100 ∧ oddN V o1 T F who (F (5 + who)) = nI c ∧ chF V o1 t f who = c := by
          obtain ⟨c, c1, c2⟩ := clm_r (if o1 = -1 then nI 50 + nI (T (who * 10 + 3)) * (isI (nowI (T (who * 10 + 4)) (T (who * 10 + 5)) (if F 0 = 0 then T (who * 10 + 0) else T (who * 10 + 1)) (F (29 + who)) (F (35 + who)) (F 2 - F (41 + who))) - nI (F (5 + who))) else V o1.toNatClampNeg (LofN (F (5 + who)) (nowI (T (who * 10 + 4)) (T (who * 10 + 5)) (if F 0 = 0 then T (who * 10 + 0) else T (who * 10 + 1)) (F (29 + who)) (F (35 + who)) (F 2 - F (41 + who))) (T (who * 10 + 3)) (F (11 + who)) (F 2 - F (41 + who)) (T (who * 10 + 2))))
          have e0 : oddN V o1 T F who (F (5 + who)) = nI c := c2
          refine ⟨c, c1, e0, ?_⟩
          unfold chF
          rw [hF5, nI_clamp (by omega), ← oddN_nt V o1 hs hk ht f1 f2 hwz, e0, nI_clamp (by omega)]
        obtain ⟨c, hc100, hc1, hc2⟩ := hch
        have hst1 := st_lev (dp + 1) (by omega)
        rw [hc1, sg_X0_goOn_71 hst.1 hst.2 (by rw [nI_add, nI_clamp (by omega)]; exact hst1.1) (by rw [nI_add, nI_clamp (by omega)]; exact hst1.2), nI_add, ck_n _ (show dp + 1 < 13 by omega) (by omega), nI_clamp (show dp + 1 < 2 ^ 31 by omega), lN_div hsb hc100]
        have hGs := div_le (s := s) hc100
        have hen : ends (nxF sz r) (chF V o1 t) (stF sz t r) (m + 1) f s = ends (nxF sz r) (chF V o1 t) (stF sz t r) m (stF sz t r f who true) (s * c / 100) ++ ends (nxF sz r) (chF V o1 t) (stF sz t r) m (stF sz t r f who false) (s - s * c / 100) := by
          show (match nxF sz r f with
            | none => [(f, s)]
            | some who => ends (nxF sz r) (chF V o1 t) (stF sz t r) m (stF sz t r f who true) (s * chF V o1 t f who / 100) ++ ends (nxF sz r) (chF V o1 t) (stF sz t r) m (stF sz t r f who false) (s - s * chF V o1 t f who / 100)) = _
          rw [hnx]
          show ends (nxF sz r) (chF V o1 t) (stF sz t r) m (stF sz t r f who true) (s * chF V o1 t f who / 100) ++ ends (nxF sz r) (chF V o1 t) (stF sz t r) m (stF sz t r f who false) (s - s * chF V o1 t f who / 100) = _
          rw [hc2]
        rw [hen]
        generalize s * c / 100 = G at hGs ⊢
        have hs0 : FRX dp σ (pm_wC (pm_wC (pm_wC σ 42 (g_take (σ.1 4) (σ.1 (44 + 2 * dp + 1)) (σ.1 42) who)) 21 g21) 22 g22) := ⟨fun q h1 h2 h3 _ => by rw [wC_ne _ _ h2, wC_ne _ _ h1, wC_ne _ _ h3], fun _ _ _ => rfl⟩
        have hA0 : AccX V o2 sz t r σ (pm_wC (pm_wC (pm_wC σ 42 (g_take (σ.1 4) (σ.1 (44 + 2 * dp + 1)) (σ.1 42) who)) 21 g21) 22 g22) [] := fun l hl hb => ⟨fun _ => (Int64.add_zero _).symm, fun _ q _ => (Int64.add_zero _).symm⟩
        generalize pm_wC (pm_wC (pm_wC σ 42 (g_take (σ.1 4) (σ.1 (44 + 2 * dp + 1)) (σ.1 42) who)) 21 g21) 22 g22 = σ0 at hs0 hA0 ⊢
        have br : ∀ (b : Bool) (G : Nat) (σa : pm_H), G ≤ 1000000000 → FRX dp σ σa → ∃ σm vm σn σb, xe (d + (m + 1) + 5) 215 [.ref (44 + 2 * (dp + 1)), .ref (44 + 2 * dp)] σa = some (none, σm) ∧ xe (d + (m + 1) + 5) 171 [.ref (44 + 2 * (dp + 1)), .int (nI who), .int (b32 b)] σm = some (some (.int vm), σn) ∧ xe (d + (m + 1) + 5) 216 [.ref 41, .int (nI (dp + 1)), .long (lN G)] σn = some (none, σb) ∧ FRX dp σa σb ∧ AccX V o2 sz t r σa σb (ends (nxF sz r) (chF V o1 t) (stF sz t r) m (stF sz t r f who b) G) := by
          intro b G σa hG hFa
          have hEa := EnX_F hE hFa
          have hra : σa.1 (44 + 2 * dp + 1) = σ.1 (45 + 2 * dp) := by rw [hFa.1 _ (by omega) (by omega) (by omega) (fun i _ _ => by omega), hrow]
          have hb1 := q_become (d + (m + 1) + 4) σa hst1 hst
          have hb2 := w_make (d + (m + 1)) (who := who) (sz := sz) (pm_wC σa (44 + 2 * (dp + 1) + 1) (va_cpy (σa.1 (44 + 2 * dp + 1)) (σa.1 (44 + 2 * (dp + 1) + 1)) 0 0 71)) b hst1 hs (by rw [wC_ne _ _ (by omega)]; exact hEa.1) (by omega)
          rw [wC_at, wC_wC, wC_ne _ _ (show (4 : Nat) ≠ 44 + 2 * (dp + 1) + 1 by omega), wC_ne _ _ (show (5 : Nat) ≠ 44 + 2 * (dp + 1) + 1 by omega), hEa.2.1, hEa.2.2.1] at hb2
          have hrow' : E71 (g_on sz t r (g_made t r (va_cpy (σa.1 (44 + 2 * dp + 1)) (σa.1 (44 + 2 * (dp + 1) + 1)) 0 0 71) who b)) (stF sz t r f who b) := E_on hs (E_made b (by omega) (E_cpy (by rw [hra]; exact hf)))
          have hFn : FRX dp σa (pm_wC σa (44 + 2 * (dp + 1) + 1) (g_on sz t r (g_made t r (va_cpy (σa.1 (44 + 2 * dp + 1)) (σa.1 (44 + 2 * (dp + 1) + 1)) 0 0 71) who b))) := ⟨fun q h1 h2 h3 h4 => wC_ne _ _ (by have := h4 (dp + 1) (by omega) (by omega); omega), fun _ _ _ => rfl⟩
          have hlf := lft_st (t := t) b hs ht hR hwz hin
          obtain ⟨σb, i1, i2, i3⟩ := q_goOn d hs hk ht m (dp + 1) G (stF sz t r f who b) (pm_wC σa (44 + 2 * (dp + 1) + 1) (g_on sz t r (g_made t r (va_cpy (σa.1 (44 + 2 * dp + 1)) (σa.1 (44 + 2 * (dp + 1) + 1)) 0 0 71) who b))) (by omega) (by omega) (RI_st b hs ht hR hwz hin) hG (EnX_F hEa hFn) (by rw [show 45 + 2 * (dp + 1) = 44 + 2 * (dp + 1) + 1 by omega, wC_at]; exact hrow') (by rw [wC_ne _ _ (by omega), hFa.1 41 (by decide) (by decide) (by decide) (fun i _ _ => by omega)]; exact hw)
          refine ⟨_, _, _, σb, hb1, hb2, by rw [show d + (m + 1) + 5 = d + m + 6 by omega]; exact i1, FRX_tr hFn (FRX_up i2 (by omega)), ?_⟩
          have e41 : (pm_wC σa (44 + 2 * (dp + 1) + 1) (g_on sz t r (g_made t r (va_cpy (σa.1 (44 + 2 * dp + 1)) (σa.1 (44 + 2 * (dp + 1) + 1)) 0 0 71) who b))).1 41 = σa.1 41 := wC_ne _ _ (by omega)
          intro l hl hb
          have := i3 l hl (by rw [e41]; exact hb)
          rw [e41] at this
          exact this
        have fin : ∀ (σa : pm_H), FRX dp σ σa → ∃ σ', (if 0 < lg_cmp (lN s) (lN G) then pm_cl (xe (d + (m + 1) + 5) 215 [.ref (44 + 2 * (dp + 1)), .ref (44 + 2 * dp)] σa) (fun r_1 => pm_run (xe (d + (m + 1) + 5)) pg_X0_goOn (135, [.ref 41, .int (nI dp), .long (lN s), .null, .ref (44 + 2 * dp), .int (nI who), .long (lN G), .null, .ref (44 + 2 * (dp + 1))], r_1.1.toList ++ [], r_1.2)) else some (none, σa)) = some (none, σ') ∧ FRX dp σa σ' ∧ AccX V o2 sz t r σa σ' (ends (nxF sz r) (chF V o1 t) (stF sz t r) m (stF sz t r f who false) (s - G)) := by
          intro σa hFa
          by_cases cG : G < s
          · obtain ⟨σm, vm, σn, σb, b1, b2, b3, b4, b5⟩ := br false (s - G) σa (by omega) hFa
            rw [if_pos ((lg_cmp_gt _ _).mpr ((pk_lLT (by omega) (by omega)).mpr cG)), b1]
            simp only [pm_cl_some, Option.toList_some, Option.toList_none, List.cons_append, List.nil_append]
            rw [sg_X0_goOn_135 hst.1 hst.2 hst1.1 hst1.2, show nI 0 = b32 false from rfl, b2]
            simp only [pm_cl_some, Option.toList_some, Option.toList_none, List.cons_append, List.nil_append]
            rw [sg_X0_goOn_143 hst.1 hst.2 hst1.1 hst1.2, nI_add, lN_sub hGs, b3]
            simp only [pm_cl_some, Option.toList_some, Option.toList_none, List.cons_append, List.nil_append]
            rw [sg_X0_goOn_155 hst.1 hst.2 hst1.1 hst1.2]
            exact ⟨σb, rfl, b4, b5⟩
          · rw [if_neg (fun q => cG ((pk_lLT (by omega) (by omega)).mp ((lg_cmp_gt _ _).mp q))), show s - G = 0 by omega]
            exact ⟨σa, rfl, FRX_rfl dp σa, AccX_0⟩
        by_cases cG : 0 < G
        · rw [if_pos ((lg_cmp_gt _ _).mpr (by rw [show (0 : Int64) = lN 0 from rfl, pk_lLT (by omega) (by omega)]; exact cG))]
          obtain ⟨σm, vm, σn, σb, b1, b2, b3, b4, b5⟩ := br true G σ0 (by omega) hs0
          rw [b1]
          simp only [pm_cl_some, Option.toList_some, Option.toList_none, List.cons_append, List.nil_append]
          rw [sg_X0_goOn_103 hst.1 hst.2 hst1.1 hst1.2, show nI 1 = b32 true from rfl, b2]
          simp only [pm_cl_some, Option.toList_some, Option.toList_none, List.cons_append, List.nil_append]
          rw [sg_X0_goOn_111 hst.1 hst.2 hst1.1 hst1.2, nI_add, b3]
          simp only [pm_cl_some, Option.toList_some, Option.toList_none, List.cons_append, List.nil_append]
          rw [sg_X0_goOn_121 hst.1 hst.2 hst1.1 hst1.2]
          obtain ⟨σ', i1, i2, i3⟩ := fin σb (FRX_tr hs0 b4)
          exact ⟨σ', i1, FRX_tr hs0 (FRX_tr b4 i2), AccX_tr (es := []) hs0 hA0 (AccX_tr b4 b5 i3)⟩
        · rw [if_neg (fun q : 0 < lg_cmp (lN G) 0 => cG ((pk_lLT (a := 0) (by omega) (by omega)).mp ((lg_cmp_gt _ _).mp q)))]
          obtain ⟨σ', i1, i2, i3⟩ := fin σ0 hs0
          refine ⟨σ', i1, FRX_tr hs0 i2, AccX_tr (es := []) hs0 hA0 (AccX_tr (FRX_rfl dp σ0) ?_ i3)⟩
          rw [show G = 0 by omega]
          exact AccX_0

/-! ===== the law: its loop ===== -/
def LTS : List Nat := [228, 301, 326, 351, 376, 444, 469, 506, 531, 544, 581, 606, 631, 668, 693, 718, 787, 800, 837, 850, 887, 912, 949, 974, 1011, 1036, 1073, 1098, 1135, 1196, 1221, 1258, 1319, 1356, 1393, 1430, 1467, 1480, 1517, 1554, 1591, 1604, 1617]
section LWL
variable {p : Program} {l : Launch} {e : Env} {s : State} {m : MethodId} {args : Array Value} {below : List Frame} {meth : Method} {c : Code} {D : va_G} {cA : Nat → ClassId} {ad : Nat → Nat} {A : Nat → Prop} {Q : State → Prop} {L : Nat} {xs : Nat → Int32}
theorem pm_G_w {R : Room} {cells slots cells' slots' nL : Nat} {g : pm_S} (h1 : cells ≤ cells') (h2 : slots ≤ slots') (k : pm_G p l e R s m args below meth c cells' slots' D cA ad A nL Q g) : pm_G p l e R s m args below meth c cells slots D cA ad A nL Q g := fun H locs ls hL hP hS => W.widen (k := cells') (n := slots') h1 h2 (k H locs ls hL hP hS)
theorem lw_all {cells slots : Nat} (C : LC p s m args meth c D cA ad A L xs) (hcs : cells + 1 ≤ 601024 ∧ slots + 6 ≤ 7293034) (hL : L ≤ 3072) {j : Nat} (hj : 6 * j + 6 ≤ L) {w5 w6 : Value} {σ : pm_H} (hI : LInv j σ) (K : ∀ (σ' : pm_H) (v5 v6 : Value), LInv (j + 1) σ' → pm_G p l e room_1 s m args below meth c (cells + 1) (slots + 6) D cA ad A 7 Q (23, LO (j + 1) v5 v6, [], σ')) (h4 : pm_G p l e room_1 s m args below meth c cells slots D cA ad A 7 Q (376, LO j w5 w6, [], σ)) : ∀ t ∈ LTS, pm_G p l e room_1 s m args below meth c cells slots D cA ad A 7 Q (t, LO j w5 w6, [], σ) := by
  have hc : cells ≤ 601024 ∧ slots ≤ 7293034 := ⟨by omega, by omega⟩
  have K0 : ∀ σ', LInv (j + 1) σ' → pm_G p l e room_1 s m args below meth c cells slots D cA ad A 7 Q (23, LO (j + 1) w5 w6, [], σ') := fun σ' h => pm_G_w (Nat.le_succ _) (Nat.le_add_right _ 6) (K σ' w5 w6 h)
  exact List.forall_mem_cons.mpr ⟨lw_c0 C hc hL hj hI K0, List.forall_mem_cons.mpr ⟨lw_c1 C hc hL hj hI K0, List.forall_mem_cons.mpr ⟨lw_c2 C hc hL hj hI K0, List.forall_mem_cons.mpr ⟨lw_c3 C hc hL hj hI K0, List.forall_mem_cons.mpr ⟨h4, List.forall_mem_cons.mpr ⟨lw_c5 C hc hL hj hI K0, List.forall_mem_cons.mpr ⟨lw_c6 C hc hL hj hI K0, List.forall_mem_cons.mpr ⟨lw_c7 C hc hL hj hI K0, List.forall_mem_cons.mpr ⟨lw_c8 C hc hL hj hI K0, List.forall_mem_cons.mpr ⟨lw_c9 C hc hL hj hI K0, List.forall_mem_cons.mpr ⟨lw_c10 C hc hL hj hI K0, List.forall_mem_cons.mpr ⟨lw_c11 C hc hL hj hI K0, List.forall_mem_cons.mpr ⟨lw_c12 C hc hL hj hI K0, List.forall_mem_cons.mpr ⟨lw_c13 C hc hL hj hI K0, List.forall_mem_cons.mpr ⟨lw_c14 C hc hL hj hI K0, List.forall_mem_cons.mpr ⟨lw_c15 C hc hL hj hI K0, List.forall_mem_cons.mpr ⟨lw_c16 C hc hL hj hI K0, List.forall_mem_cons.mpr ⟨lw_c17 C hc hL hj hI K0, List.forall_mem_cons.mpr ⟨lw_c18 C hc hL hj hI K0, List.forall_mem_cons.mpr ⟨lw_c19 C hc hL hj hI K0, List.forall_mem_cons.mpr ⟨lw_c20 C hc hL hj hI K0, List.forall_mem_cons.mpr ⟨lw_c21 C hc hL hj hI K0, List.forall_mem_cons.mpr ⟨lw_c22 C hc hL hj hI K0, List.forall_mem_cons.mpr ⟨lw_c23 C hc hL hj hI K0, List.forall_mem_cons.mpr ⟨lw_c24 C hc hL hj hI K0, List.forall_mem_cons.mpr ⟨lw_c25 C hc hL hj hI K0, List.forall_mem_cons.mpr ⟨lw_c26 C hc hL hj hI K0, List.forall_mem_cons.mpr ⟨lw_c27 C hc hL hj hI K0, List.forall_mem_cons.mpr ⟨lw_c28 C hc hL hj hI K0, List.forall_mem_cons.mpr ⟨lw_c29 C hc hL hj hI K0, List.forall_mem_cons.mpr ⟨lw_c30 C hc hL hj hI K0, List.forall_mem_cons.mpr ⟨lw_c31 C hc hL hj hI K0, List.forall_mem_cons.mpr ⟨lw_c32 C hc hL hj hI K0, List.forall_mem_cons.mpr ⟨lw_c33 C hc hL hj hI K0, List.forall_mem_cons.mpr ⟨lw_c34 C hc hL hj hI K0, List.forall_mem_cons.mpr ⟨lw_c35 C hc hL hj hI K0, List.forall_mem_cons.mpr ⟨lw_c36 C hc hL hj hI K0, List.forall_mem_cons.mpr ⟨lw_c37 C hc hL hj hI K0, List.forall_mem_cons.mpr ⟨lw_c38 C hc hL hj hI K0, List.forall_mem_cons.mpr ⟨lw_c39 C hc hL hj hI K0, List.forall_mem_cons.mpr ⟨lw_c40 C hc hL hj hI K0, List.forall_mem_cons.mpr ⟨lw_c41 C hc hL hj hI K0, List.forall_mem_cons.mpr ⟨lw_c42 C hc hL hj hI K0, fun _ h => absurd h List.not_mem_nil⟩⟩⟩⟩⟩⟩⟩⟩⟩⟩⟩⟩⟩⟩⟩⟩⟩⟩⟩⟩⟩⟩⟩⟩⟩⟩⟩⟩⟩⟩⟩⟩⟩⟩⟩⟩⟩⟩⟩⟩⟩⟩⟩
theorem LInv_s {j : Nat} {σ : pm_H} (h : LInv j σ) : LInv (j + 1) σ := by
  obtain ⟨sz, T, R, n, a, e, nl, V, hB, hW⟩ := h
  exact ⟨sz, T, R, n, a, e, nl, V, RelB_mono hB (Nat.le_succ j), hW⟩
theorem lw_less : ∀ n, n < 6 → nI n - nI 6 < nI 0 := by decide
theorem law_loop (C : LC p s m args meth c D cA ad A L xs) (hL : L ≤ 3072)
    (hx : ∀ (cells slots j : Nat) (w5 w6 : Value) (σ : pm_H), cells ≤ 601024 → slots ≤ 7293034 → pm_G p l e room_1 s m args below meth c cells slots D cA ad A 7 Q (1649, LO j w5 w6, [.int 1], σ))
    (h4 : ∀ (cells slots j : Nat) (w5 w6 : Value) (σ : pm_H), cells + 1 ≤ 601024 → slots + 6 ≤ 7293034 → 6 * j + 6 ≤ L → LInv j σ → (∀ (σ' : pm_H) (v5 v6 : Value), LInv (j + 1) σ' → pm_G p l e room_1 s m args below meth c (cells + 1) (slots + 6) D cA ad A 7 Q (23, LO (j + 1) v5 v6, [], σ')) → pm_G p l e room_1 s m args below meth c cells slots D cA ad A 7 Q (376, LO j w5 w6, [], σ)) :
    ∀ (k j cells slots : Nat) (w5 w6 : Value) (σ : pm_H), 6 * (j + k) ≤ L → L < 6 * (j + k) + 6 → cells + k ≤ 601024 → slots + 6 * k ≤ 7293034 → LInv j σ → pm_G p l e room_1 s m args below meth c cells slots D cA ad A 7 Q (23, LO j w5 w6, [], σ) := by
  intro k
  induction k with
  | zero =>
    intro j cells slots w5 w6 σ h1 h2 h3 h5 hI
    have hc : cells ≤ 601024 ∧ slots ≤ 7293034 := ⟨by omega, by omega⟩
    refine lw_st (g' := (25, LO j w5 w6, [.int (nI (6 * j))], σ)) (ps_iload dL_law_23) C hc rfl ?_
    refine lw_st (g' := (26, LO j w5 w6, [.ref 190, .int (nI (6 * j))], σ)) (ps_aload_n dL_law_25 rfl) C hc rfl ?_
    refine lw_st (g' := (27, LO j w5 w6, [.int (nI L), .int (nI (6 * j))], σ)) (ps_sle dL_law_26) C hc rfl ?_
    refine lw_st (g' := (29, LO j w5 w6, [.int (nI 6), .int (nI L), .int (nI (6 * j))], σ)) (ps_bipush (v := nI 6) dL_law_27 rfl) C hc rfl ?_
    refine lw_st (g' := (30, LO j w5 w6, [.int (nI L - nI 6), .int (nI (6 * j))], σ)) (ps_isub dL_law_29) C hc rfl ?_
    refine lw_st (g' := (1648, LO j w5 w6, [], σ)) (ps_cgt (pc := 30) (t := 1648) dL_law_30 (by decide)) C hc ?_ ?_
    · have hlt : nI L - nI 6 < nI (6 * j) := by
        rcases Nat.lt_or_ge L 6 with h | h
        · rw [show j = 0 by omega]
          exact lw_less L h
        · rw [pk_sub h]
          exact nI_lt (by omega) (by omega)
      exact if_pos hlt
    · exact lw_st (g' := (1649, LO j w5 w6, [.int 1], σ)) (ps_iconst (v := 1) dL_law_1648 rfl) C hc rfl (hx cells slots j w5 w6 σ hc.1 hc.2)
  | succ k ih =>
    intro j cells slots w5 w6 σ h1 h2 h3 h5 hI
    have hc : cells ≤ 601024 ∧ slots ≤ 7293034 := ⟨by omega, by omega⟩
    have hj : 6 * j + 6 ≤ L := by omega
    have K : ∀ (σ' : pm_H) (v5 v6 : Value), LInv (j + 1) σ' → pm_G p l e room_1 s m args below meth c (cells + 1) (slots + 6) D cA ad A 7 Q (23, LO (j + 1) v5 v6, [], σ') := fun σ' v5 v6 hI' => ih (j + 1) (cells + 1) (slots + 6) v5 v6 σ' (by omega) (by omega) (by omega) (by omega) hI'
    refine lw_st (g' := (25, LO j w5 w6, [.int (nI (6 * j))], σ)) (ps_iload dL_law_23) C hc rfl ?_
    refine lw_st (g' := (26, LO j w5 w6, [.ref 190, .int (nI (6 * j))], σ)) (ps_aload_n dL_law_25 rfl) C hc rfl ?_
    refine lw_st (g' := (27, LO j w5 w6, [.int (nI L), .int (nI (6 * j))], σ)) (ps_sle dL_law_26) C hc rfl ?_
    refine lw_st (g' := (29, LO j w5 w6, [.int (nI 6), .int (nI L), .int (nI (6 * j))], σ)) (ps_bipush (v := nI 6) dL_law_27 rfl) C hc rfl ?_
    refine lw_st (g' := (30, LO j w5 w6, [.int (nI L - nI 6), .int (nI (6 * j))], σ)) (ps_isub dL_law_29) C hc rfl ?_
    refine lw_st (g' := (33, LO j w5 w6, [], σ)) (ps_cgt (pc := 30) (t := 1648) dL_law_30 (by decide)) C hc ?_ ?_
    · have hlt : ¬ nI L - nI 6 < nI (6 * j) := by
        rw [pk_sub (by omega), nI_ltI (by omega) (by omega)]
        omega
      exact if_neg hlt
    refine lw_st (g' := (34, LO j w5 w6, [.ref 190], σ)) (ps_aload_n dL_law_33 rfl) C hc rfl ?_
    refine lw_st (g' := (36, LO j w5 w6, [.int (nI (6 * j)), .ref 190], σ)) (ps_iload dL_law_34) C hc rfl ?_
    refine lw_st (g' := (37, LO j w5 w6, [.int (xs (6 * j))], σ)) (ps_sld dL_law_36) C hc (sld_eq (by omega) hL) ?_
    refine lw_st (g' := (39, LO j w5 w6, [.int (nI 63), .int (xs (6 * j))], σ)) (ps_bipush (v := nI 63) dL_law_37 rfl) C hc rfl ?_
    refine lw_st (g' := (40, LO j w5 w6, [.int (xs (6 * j) &&& nI 63)], σ)) (ps_iand dL_law_39) C hc rfl ?_
    rcases pm_sel_of (xs (6 * j) &&& nI 63) (fun t => some (.inl (t, LO j w5 w6, [], σ))) 1642 LTS 0 with ⟨-, e2⟩ | ⟨i, t, -, e2, e3⟩
    · refine lw_st (g' := (1642, LO j w5 w6, [], σ)) (ps_tsw (pc := 40) (dt := 1642) (ts := LTS) dL_law_40 (by decide) (by decide) (by decide)) C hc e2 ?_
      exact lw_tail C hc (by omega) (pm_G_w (Nat.le_succ _) (Nat.le_add_right _ 6) (K σ w5 w6 (LInv_s hI)))
    · refine lw_st (g' := (t, LO j w5 w6, [], σ)) (ps_tsw (pc := 40) (dt := 1642) (ts := LTS) dL_law_40 (by decide) (by decide) (by decide)) C hc e3 ?_
      exact lw_all C ⟨by omega, by omega⟩ hL hj hI K (h4 cells slots j w5 w6 σ (by omega) (by omega) hj hI K) t (List.mem_of_getElem? e2)
theorem law_exit {b : Nat} (C : LC p s m #[Value.ref b] meth c D cA ad A L xs) (hA : ∀ q, A q → s.heap.size ≤ q) {cells slots j : Nat} {w5 w6 : Value} {σ : pm_H} (h1 : cells ≤ 601024) (h2 : slots ≤ 7293034) : pm_G p l e room_1 s m #[Value.ref b] below meth c cells slots D cA ad A 7 (lw_Z below #[Value.ref b] s) (1649, LO j w5 w6, [.int 1], σ) := by
  intro H locs ls hls hP hS
  refine va_forget (fun q hq => hA _ (hS.2.2 q hq)) ?_
  refine W.widen (k := 601024) (n := 7293034) h1 h2 ?_
  exact lw_ret C.1.1 C.1.2.1 C.2.1.1 C.2.1.2 dL_law_1649
end LWL

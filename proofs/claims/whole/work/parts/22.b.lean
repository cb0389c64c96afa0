/-! ===== the law: its steps ===== -/
def LC (p : Program) (s : State) (m : MethodId) (args : Array Value) (meth : Method) (c : Code) (D : va_G) (cA : Nat → ClassId) (ad : Nat → Nat) (A : Nat → Prop) (L : Nat) (xs : Nat → Int32) : Prop :=
  (p.tables.exec = Jvm.exec ∧ c.code = cL_law ∧ c.maxLocals = 7 ∧ s.vm.findClass RL = some m.cls ∧ (∀ w ∈ pm_TB, w.before args s = true)) ∧ (meth.sig.returnType = some .boolean ∧ meth.locks = false) ∧ va_K D vwCl (pm_tys cA) s ∧ pm_J ad A ∧ pm_Ct ad A s s.heap ∧ pm_scr L xs s ad A
def LO (j : Nat) (w5 w6 : Value) : List Value := [.ref 190, .ref 0, .ref 133, .ref 157, .int (nI (6 * j)), w5, w6]
def LInv (j : Nat) (σ : pm_H) : Prop := ∃ sz T R n a e nl V, RelB j sz T R n a e σ ∧ LW nl V σ
theorem LInv_X {j : Nat} {σ : pm_H} (h : PostX j σ) : LInv (j + 1) σ := by
  obtain ⟨sz, T, R, nl, V, ⟨n, a, e, hB⟩, hW⟩ := h
  exact ⟨sz, T, R, n, a, e, nl, V, hB, hW⟩
theorem ceq_eq (x : Int32) {ev : pm_Ev} {t pc : Nat} {Lo st : List Value} {σ : pm_H} : pm_ceq t ev (pc, Lo, .int x :: .int x :: st, σ) = some (.inl (t, Lo, st, σ)) := by
  simp [pm_ceq]
theorem sld_eq {n a : Nat} {xs : Nat → Int32} {ev : pm_Ev} {pc : Nat} {Lo st : List Value} {σ : pm_H} (ha : a < n) (hn : n ≤ 3072) : pm_sld n xs ev (pc, Lo, .int (nI a) :: .ref 190 :: st, σ) = some (.inl (pc + 1, Lo, .int (xs a) :: st, σ)) := by
  show (if nI a < 0 ∨ n ≤ (nI a).toNatClampNeg then none else some (Sum.inl (pc + 1, Lo, Value.int (xs (nI a).toNatClampNeg) :: st, σ))) = _
  rw [nI_clamp (by omega), if_neg (fun h => by
    rcases h with h | h
    · exact nI_pos (by omega) h
    · omega)]
section LWA
variable {p : Program} {l : Launch} {e : Env} {s : State} {m : MethodId} {args : Array Value} {below : List Frame} {meth : Method} {c : Code} {cells slots : Nat} {D : va_G} {cA : Nat → ClassId} {ad : Nat → Nat} {A : Nat → Prop} {Q : State → Prop} {L : Nat} {xs : Nat → Int32}
theorem LC_C (C : LC p s m args meth c D cA ad A L xs) {d : Nat} (hd : d ≤ 60) (hcs : cells ≤ 601024 ∧ slots ≤ 7293034) : pm_C p s m args meth c room_1 cells slots d D cA ad A (pm_scr L xs) RL cL_law 7 (some .boolean) := ⟨C.1, C.2.1, ⟨by show d + 1 ≤ 2048; omega, by show 64 * (d + 1) ≤ 84000; omega, hcs.1, hcs.2⟩, C.2.2⟩
theorem lw_st {pc : Nat} {f : pm_F} {Lo st : List Value} {σ : pm_H} {g' : pm_S} (hs : pm_Snd (pm_scr L xs) RL cL_law 7 (some .boolean) pc f) (C : LC p s m args meth c D cA ad A L xs) (hcs : cells ≤ 601024 ∧ slots ≤ 7293034) (he : f (fun _ _ _ => none) (pc, Lo, st, σ) = some (.inl g')) (k : pm_G p l e room_1 s m args below meth c cells slots D cA ad A 7 Q g') : pm_G p l e room_1 s m args below meth c cells slots D cA ad A 7 Q (pc, Lo, st, σ) :=
  hs p l e room_1 s m args below meth c cells slots 0 D cA ad A Q (fun _ _ _ => none) (LC_C C (Nat.zero_le _) hcs) (fun _ _ _ _ h => by cases h) Lo st σ (.inl g') he k
theorem lw_cV {pc μ ci n d : Nat} {Lo st0 rest as : List Value} {q : List Nat} {cc0 : Nat} {v : Value} {σ σ' : pm_H} (hs : pm_Snd (pm_scr L xs) RL cL_law 7 (some .boolean) pc (pm_cV μ ci n)) (C : LC p s m args meth c D cA ad A L xs) (hcs : cells ≤ 601024 ∧ slots ≤ 7293034) (hd : d ≤ 60) (hev : xe d μ (.ref cc0 :: as) σ = some (some v, σ')) (h0 : st0.drop n = .ref cc0 :: rest) (hk : pm_kd cc0 = .inr (ci, q)) (hl : pm_sw rest ≤ 8) (ha : (st0.take n).reverse = as) (k : pm_G p l e room_1 s m args below meth c cells slots D cA ad A 7 Q (pc + 3, Lo, v :: rest, σ')) : pm_G p l e room_1 s m args below meth c cells slots D cA ad A 7 Q (pc, Lo, st0, σ) := by
  refine hs p l e room_1 s m args below meth c cells slots d D cA ad A Q (xe d) (LC_C C hd hcs) (pm_met pm_PP_ok l C.2.2.2.1 d) Lo st0 σ (.inl (pc + 3, Lo, v :: rest, σ')) ?_ k
  subst ha
  simp only [pm_cV, h0, hk, hev]
  rw [if_pos ⟨trivial, hl⟩]
  rfl
theorem lw_arg {pc kk j : Nat} {k : Int} {w5 w6 : Value} {st : List Value} {σ : pm_H} (d0 : decode cL_law pc = .ok (.aload_n 0, 1)) (d1 : decode cL_law (pc + 1) = .ok (.iload 4, 2)) (d3 : decode cL_law (pc + 3) = .ok (.iconst k, 1)) (d4 : decode cL_law (pc + 4) = .ok (.iadd, 1)) (d5 : decode cL_law (pc + 5) = .ok (.iaload, 1)) (hk : Int32.ofInt k = nI kk) (C : LC p s m args meth c D cA ad A L xs) (hcs : cells ≤ 601024 ∧ slots ≤ 7293034) (hj : 6 * j + kk < L) (hL : L ≤ 3072) (K : pm_G p l e room_1 s m args below meth c cells slots D cA ad A 7 Q (pc + 6, LO j w5 w6, .int (xs (6 * j + kk)) :: st, σ)) : pm_G p l e room_1 s m args below meth c cells slots D cA ad A 7 Q (pc, LO j w5 w6, st, σ) := by
  refine lw_st (g' := (pc + 1, LO j w5 w6, .ref 190 :: st, σ)) (ps_aload_n d0 rfl) C hcs rfl ?_
  refine lw_st (g' := (pc + 3, LO j w5 w6, .int (nI (6 * j)) :: .ref 190 :: st, σ)) (ps_iload d1) C hcs rfl ?_
  refine lw_st (g' := (pc + 4, LO j w5 w6, .int (nI kk) :: .int (nI (6 * j)) :: .ref 190 :: st, σ)) (ps_iconst d3 hk) C hcs rfl ?_
  refine lw_st (g' := (pc + 5, LO j w5 w6, .int (nI (6 * j + kk)) :: .ref 190 :: st, σ)) (ps_iadd d4) C hcs (by rw [← nI_add]; rfl) ?_
  exact lw_st (ps_sld d5) C hcs (sld_eq hj hL) K
theorem lw_tail {j : Nat} {w5 w6 : Value} {σ : pm_H} (C : LC p s m args meth c D cA ad A L xs) (hcs : cells ≤ 601024 ∧ slots ≤ 7293034) (hj : 6 * j + 6 ≤ 4000) (K : pm_G p l e room_1 s m args below meth c cells slots D cA ad A 7 Q (23, LO (j + 1) w5 w6, [], σ)) : pm_G p l e room_1 s m args below meth c cells slots D cA ad A 7 Q (1642, LO j w5 w6, [], σ) := by
  refine lw_st (g' := (1645, LO (j + 1) w5 w6, [], σ)) (ps_iinc dL_law_1642 rfl) C hcs ?_ ?_
  · show some (Sum.inl (1642 + 3, _, _, _)) = _
    have e6 : nI (6 * j) + nI 6 = nI (6 * (j + 1)) := by rw [nI_add, Nat.mul_add]
    unfold LO
    rw [← e6]
    rfl
  · exact lw_st (g' := (23, LO (j + 1) w5 w6, [], σ)) (ps_goto dL_law_1645 (by decide)) C hcs rfl K
end LWA

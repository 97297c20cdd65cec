/-! 47b.seek: the class tries orders -/
def moI (a : Option (Nat × List Nat)) : Int32 := match a with
  | none => mI 1
  | some p => nI p.1
def BR (row most : Nat → Int32) (a : Option (Nat × List Nat)) : Prop := most 1 = moI a ∧ ∀ p, a = some p → p.1 < 2 ^ 30 ∧ ∀ i, i < p.2.length → row i = nI (p.2.getD i 0)
theorem restore {t : Nat → Int32} {j : Nat} {us : List Nat} : upd (upd (wrS t j us) 0 (t 0)) (6 + 8 * j + 7) (t (6 + 8 * j + 7)) = t := by
  funext i
  unfold wrS
  by_cases h1 : i = 6 + 8 * j + 7
  · subst h1; rw [ud_eq]
  · rw [ud_ne h1]
    by_cases h2 : i = 0
    · subst h2; rw [ud_eq]
    · rw [ud_ne h2, ud_ne h2, ud_ne h1]
theorem getD_app {l : List Nat} {c i : Nat} (h : i < l.length) : (l ++ [c]).getD i 0 = l.getD i 0 := by
  rw [List.getD_eq_getElem?_getD, List.getD_eq_getElem?_getD, List.getElem?_append_left h]
theorem getD_app2 {l : List Nat} {c : Nat} : (l ++ [c]).getD l.length 0 = c := by
  rw [List.getD_eq_getElem?_getD, List.getElem?_append_right (Nat.le_refl _), Nat.sub_self]
  rfl
theorem cpo6 : ∀ n, n ≤ 6 → cpOK 6 6 (nI 0) (nI 0) (nI n) = true := by decide +kernel
theorem c_leaf (x dpt v : Nat) (X : Int32) (pre : List Nat) (a : Option (Nat × List Nat)) (M : sM) (hX : X = nI 0) (hd : dpt = pre.length) (hd5 : dpt ≤ 5) (hv : v < 2 ^ 30) (hpre : ∀ i, i < pre.length → M.1 40 i = nI (pre.getD i 0)) (hB : BR (M.1 39) (M.1 38) a) : ∃ M', callD (x + 9) 204 [.ref 38, .int X, .int (nI dpt), .int (nI v)] M = some (none, M') ∧ (∀ k, k ≠ 38 → k ≠ 39 → M'.1 k = M.1 k) ∧ M'.2 = M.2 ∧ BR (M'.1 39) (M'.1 38) (stp a v pre) := by
  subst hX
  obtain ⟨b1, b2⟩ := hB
  have hcp := cpo6 dpt (by omega)
  have h6 : (dpt < 6) = True := eq_true (by omega)
  have good : BR ((up 38 (upd (M.1 38) 1 (nI v)) (up 39 (va_cpy (M.1 40) (M.1 39) 0 0 dpt) M)).1 39) ((up 38 (upd (M.1 38) 1 (nI v)) (up 39 (va_cpy (M.1 40) (M.1 39) 0 0 dpt) M)).1 38) (some (v, pre)) := by
    refine ⟨?_, fun p hp => ?_⟩
    · rw [up_eq, ud_eq]; rfl
    · cases hp
      refine ⟨hv, fun i hi => ?_⟩
      rw [up_ne (by decide), up_eq, cpy_in (by rw [hd]; exact hi)]
      exact hpre i hi
  have fr : ∀ k, k ≠ 38 → k ≠ 39 → (up 38 (upd (M.1 38) 1 (nI v)) (up 39 (va_cpy (M.1 40) (M.1 39) 0 0 dpt) M)).1 k = M.1 k := fun k k1 k2 => by rw [up_ne k1, up_ne k2]
  cases a with
  | none =>
    have e : M.1 38 1 = mI 1 := b1
    refine ⟨up 38 (upd (M.1 38) 1 (nI v)) (up 39 (va_cpy (M.1 40) (M.1 39) 0 0 dpt) M), ?_, fr, rfl, good⟩
    rw [callD_e (Nat.le_of_ble_eq_true rfl), runD_evW]
    simp (maxSteps := 3000000) (disch := omega) only [evW_s, st_icN, st_icM, st_lconst, st_iload, st_aload, st_lload, st_istore, st_astore, st_lstore, st_iinc, st_iadd, st_isub, st_imul, st_iand, st_ior, st_ixor, st_ishl, st_ishr, st_iushr, st_idiv, st_irem, st_i2b, st_i2s, st_i2c, st_i2l, st_l2i, st_land, st_lor, st_lshl, st_lshr, st_lcmp, st_dup, st_dupa, st_dup2, st_pop, st_goto, st_ceq, st_cne, st_clt, st_cge, st_cgt, st_cle, st_zeq, st_zne, st_zlt, st_zge, st_zgt, st_zle, st_tsw, st_lsw, st_iaload, st_baload, st_caload, st_laload, st_aaload, st_iastore, st_bastore, st_lastore, st_alen, st_get, st_put, st_gets, st_ldc, st_v1, st_v2, st_v3, st_v4, st_v5, st_v6, st_s1, st_s2, st_s3, st_s4, st_cpy, st_iret, st_zret, st_bret, st_cret, st_lret, st_vret, ldI_, ldA_, ldL_, stB_0, stB_1, stB_s, notL_i, notL_r, notL_n, gfK_r, gfK_i, cont_v, cont_n, cont_ite, rcOK, tb_o, tb_k, tb_c, tb_n, tb_rd, tb_al, tb_ki, swT, swL, List.getD_cons_zero, List.getD_cons_succ, List.set_cons_zero, List.set_cons_succ, List.length_cons, List.length_nil, Nat.reduceAdd, Nat.reduceMul, Nat.reduceLeDiff, Nat.reduceDiv, Nat.reduceMod, Nat.reduceBEq, Nat.reduceEqDiff, Int.reduceToNat, Int.reduceAdd, Int64.reduceOfInt, Bool.true_and, Bool.and_true, Bool.and_self, Bool.false_and, Bool.and_false, Bool.false_eq_true, Bool.or_true, Bool.true_or, Bool.or_false, Bool.false_or, if_true, if_false, ↓reduceIte, ↓reduceDIte, true_and, and_true, and_self, Nat.le_refl, Nat.zero_le, beq_self_eq_true, loc0, tb_m, xp_0, xp_i, xp_r, xp_l, pad, ne_eq, not_false_eq_true, Nat.reduceSub, oiN, oiM, oN, List.toList_toArray, Nat.not_lt_zero, Nat.and_one_is_mod, sh1, shr_nI, fa_or, fa_and, fb_xorI, Nat.or_zero, Nat.lt_irrefl, nI_add, nI_mul, nI_sub, nI_clamp, nI_ltI, nI_eq, nI_eq0, nI_0eq, nI_lt0, nI_0lt, nI_ltM1, nI_M1lt, nI_neM1, nI_M1ne, mI_lt0, mI_eq0, mI_0lt, ib_nI, nI_1, zr1, zr2, nb_z, nb_m, nz_z, nz_m, jn_, jr_, nI_eq1, Classical.not_not, nI_b01, nI_b11, nb_a, nb_o, nb_n, nb_na, Nat.reduceLT, Nat.reducePow, Nat.reduceShiftRight, Nat.reduceAnd, Nat.reduceOr, wI_up, wL_up, cpI_up, cpL_up, up_eq, up_ne, up_up, up_comm, up2_up, up_2, up2_1, up2_eq, up2_ne, up2_up2, and_false, false_and, or_true, true_or, or_false, false_or, not_true_eq_false, xm1, and0, ud_eq, bOK_t, k_204, e, hcp, st_cpy]
  | some p =>
    have e : M.1 38 1 = nI p.1 := b1
    obtain ⟨hp1, hp2⟩ := b2 p rfl
    by_cases q : p.1 < v
    · refine ⟨up 38 (upd (M.1 38) 1 (nI v)) (up 39 (va_cpy (M.1 40) (M.1 39) 0 0 dpt) M), ?_, fr, rfl, ?_⟩
      · rw [callD_e (Nat.le_of_ble_eq_true rfl), runD_evW]
        simp (maxSteps := 3000000) (disch := omega) only [evW_s, st_icN, st_icM, st_lconst, st_iload, st_aload, st_lload, st_istore, st_astore, st_lstore, st_iinc, st_iadd, st_isub, st_imul, st_iand, st_ior, st_ixor, st_ishl, st_ishr, st_iushr, st_idiv, st_irem, st_i2b, st_i2s, st_i2c, st_i2l, st_l2i, st_land, st_lor, st_lshl, st_lshr, st_lcmp, st_dup, st_dupa, st_dup2, st_pop, st_goto, st_ceq, st_cne, st_clt, st_cge, st_cgt, st_cle, st_zeq, st_zne, st_zlt, st_zge, st_zgt, st_zle, st_tsw, st_lsw, st_iaload, st_baload, st_caload, st_laload, st_aaload, st_iastore, st_bastore, st_lastore, st_alen, st_get, st_put, st_gets, st_ldc, st_v1, st_v2, st_v3, st_v4, st_v5, st_v6, st_s1, st_s2, st_s3, st_s4, st_cpy, st_iret, st_zret, st_bret, st_cret, st_lret, st_vret, ldI_, ldA_, ldL_, stB_0, stB_1, stB_s, notL_i, notL_r, notL_n, gfK_r, gfK_i, cont_v, cont_n, cont_ite, rcOK, tb_o, tb_k, tb_c, tb_n, tb_rd, tb_al, tb_ki, swT, swL, List.getD_cons_zero, List.getD_cons_succ, List.set_cons_zero, List.set_cons_succ, List.length_cons, List.length_nil, Nat.reduceAdd, Nat.reduceMul, Nat.reduceLeDiff, Nat.reduceDiv, Nat.reduceMod, Nat.reduceBEq, Nat.reduceEqDiff, Int.reduceToNat, Int.reduceAdd, Int64.reduceOfInt, Bool.true_and, Bool.and_true, Bool.and_self, Bool.false_and, Bool.and_false, Bool.false_eq_true, Bool.or_true, Bool.true_or, Bool.or_false, Bool.false_or, if_true, if_false, ↓reduceIte, ↓reduceDIte, true_and, and_true, and_self, Nat.le_refl, Nat.zero_le, beq_self_eq_true, loc0, tb_m, xp_0, xp_i, xp_r, xp_l, pad, ne_eq, not_false_eq_true, Nat.reduceSub, oiN, oiM, oN, List.toList_toArray, Nat.not_lt_zero, Nat.and_one_is_mod, sh1, shr_nI, fa_or, fa_and, fb_xorI, Nat.or_zero, Nat.lt_irrefl, nI_add, nI_mul, nI_sub, nI_clamp, nI_ltI, nI_eq, nI_eq0, nI_0eq, nI_lt0, nI_0lt, nI_ltM1, nI_M1lt, nI_neM1, nI_M1ne, mI_lt0, mI_eq0, mI_0lt, ib_nI, nI_1, zr1, zr2, nb_z, nb_m, nz_z, nz_m, jn_, jr_, nI_eq1, Classical.not_not, nI_b01, nI_b11, nb_a, nb_o, nb_n, nb_na, Nat.reduceLT, Nat.reducePow, Nat.reduceShiftRight, Nat.reduceAnd, Nat.reduceOr, wI_up, wL_up, cpI_up, cpL_up, up_eq, up_ne, up_up, up_comm, up2_up, up_2, up2_1, up2_eq, up2_ne, up2_up2, and_false, false_and, or_true, true_or, or_false, false_or, not_true_eq_false, xm1, and0, ud_eq, bOK_t, k_204, e, hcp, st_cpy, q]
      · unfold stp
        dsimp only
        rw [if_pos q]
        exact good
    · refine ⟨M, ?_, fun _ _ _ => rfl, rfl, ?_⟩
      · rw [callD_e (Nat.le_of_ble_eq_true rfl), runD_evW]
        simp (maxSteps := 3000000) (disch := omega) only [evW_s, st_icN, st_icM, st_lconst, st_iload, st_aload, st_lload, st_istore, st_astore, st_lstore, st_iinc, st_iadd, st_isub, st_imul, st_iand, st_ior, st_ixor, st_ishl, st_ishr, st_iushr, st_idiv, st_irem, st_i2b, st_i2s, st_i2c, st_i2l, st_l2i, st_land, st_lor, st_lshl, st_lshr, st_lcmp, st_dup, st_dupa, st_dup2, st_pop, st_goto, st_ceq, st_cne, st_clt, st_cge, st_cgt, st_cle, st_zeq, st_zne, st_zlt, st_zge, st_zgt, st_zle, st_tsw, st_lsw, st_iaload, st_baload, st_caload, st_laload, st_aaload, st_iastore, st_bastore, st_lastore, st_alen, st_get, st_put, st_gets, st_ldc, st_v1, st_v2, st_v3, st_v4, st_v5, st_v6, st_s1, st_s2, st_s3, st_s4, st_cpy, st_iret, st_zret, st_bret, st_cret, st_lret, st_vret, ldI_, ldA_, ldL_, stB_0, stB_1, stB_s, notL_i, notL_r, notL_n, gfK_r, gfK_i, cont_v, cont_n, cont_ite, rcOK, tb_o, tb_k, tb_c, tb_n, tb_rd, tb_al, tb_ki, swT, swL, List.getD_cons_zero, List.getD_cons_succ, List.set_cons_zero, List.set_cons_succ, List.length_cons, List.length_nil, Nat.reduceAdd, Nat.reduceMul, Nat.reduceLeDiff, Nat.reduceDiv, Nat.reduceMod, Nat.reduceBEq, Nat.reduceEqDiff, Int.reduceToNat, Int.reduceAdd, Int64.reduceOfInt, Bool.true_and, Bool.and_true, Bool.and_self, Bool.false_and, Bool.and_false, Bool.false_eq_true, Bool.or_true, Bool.true_or, Bool.or_false, Bool.false_or, if_true, if_false, ↓reduceIte, ↓reduceDIte, true_and, and_true, and_self, Nat.le_refl, Nat.zero_le, beq_self_eq_true, loc0, tb_m, xp_0, xp_i, xp_r, xp_l, pad, ne_eq, not_false_eq_true, Nat.reduceSub, oiN, oiM, oN, List.toList_toArray, Nat.not_lt_zero, Nat.and_one_is_mod, sh1, shr_nI, fa_or, fa_and, fb_xorI, Nat.or_zero, Nat.lt_irrefl, nI_add, nI_mul, nI_sub, nI_clamp, nI_ltI, nI_eq, nI_eq0, nI_0eq, nI_lt0, nI_0lt, nI_ltM1, nI_M1lt, nI_neM1, nI_M1ne, mI_lt0, mI_eq0, mI_0lt, ib_nI, nI_1, zr1, zr2, nb_z, nb_m, nz_z, nz_m, jn_, jr_, nI_eq1, Classical.not_not, nI_b01, nI_b11, nb_a, nb_o, nb_n, nb_na, Nat.reduceLT, Nat.reducePow, Nat.reduceShiftRight, Nat.reduceAnd, Nat.reduceOr, wI_up, wL_up, cpI_up, cpL_up, up_eq, up_ne, up_up, up_comm, up2_up, up_2, up2_1, up2_eq, up2_ne, up2_up2, and_false, false_and, or_true, true_or, or_false, false_or, not_true_eq_false, xm1, and0, ud_eq, bOK_t, k_204, e, q]
      · unfold stp
        dsimp only
        rw [if_neg q]
        exact ⟨b1, b2⟩
set_option maxHeartbeats 2000000 in
theorem c_seek (N m : Nat) (hn12 : N ≤ 12) (h12 : m ≤ 12) : ∀ (f D X v : Nat) (t : Nat → Int32) (pre : List Nat) (a : Option (Nat × List Nat)) (M : sM), f + 9 ≤ D → X < 4096 → (∀ c, X.testBit c = true → c < N) → pop X ≤ f → pre.length + pop X ≤ 5 → v ≤ 72 * pre.length → Gd t → t 4 = nI N → t 5 = nI m → RelS 23 M t → (∀ i, i < pre.length → M.1 40 i = nI (pre.getD i 0)) → BR (M.1 39) (M.1 38) a →
    ∃ M', callD D 204 [.ref 38, .int (nI X), .int (nI pre.length), .int (nI v)] M = some (none, M') ∧ RelS 23 M' t ∧ (∀ i, i < pre.length → M'.1 40 i = M.1 40 i) ∧ BR (M'.1 39) (M'.1 38) (dv N m f t (ms X 12) pre v a) ∧ (∀ k, (k < 23 ∨ 40 < k) → M'.1 k = M.1 k) ∧ M'.2 = M.2 := by
  have leaf : ∀ (f D v : Nat) (t : Nat → Int32) (pre : List Nat) (a : Option (Nat × List Nat)) (M : sM), 9 ≤ D → pre.length ≤ 5 → v ≤ 72 * pre.length → RelS 23 M t → (∀ i, i < pre.length → M.1 40 i = nI (pre.getD i 0)) → BR (M.1 39) (M.1 38) a → ∃ M', callD D 204 [.ref 38, .int (nI 0), .int (nI pre.length), .int (nI v)] M = some (none, M') ∧ RelS 23 M' t ∧ (∀ i, i < pre.length → M'.1 40 i = M.1 40 i) ∧ BR (M'.1 39) (M'.1 38) (dv N m f t (ms 0 12) pre v a) ∧ (∀ k, (k < 23 ∨ 40 < k) → M'.1 k = M.1 k) ∧ M'.2 = M.2 := by
    intro f D v t pre a M hD hl hv hR hpre hB
    obtain ⟨x, rfl⟩ : ∃ x, D = x + 9 := ⟨D - 9, by omega⟩
    obtain ⟨M', e1, e2, e3, e4⟩ := c_leaf x pre.length v (nI 0) pre a M rfl rfl hl (by omega) hpre hB
    have e0 : ms 0 12 = [] := by decide
    have ed : dv N m f t (ms 0 12) pre v a = stp a v pre := by rw [e0]; cases f <;> rfl
    refine ⟨M', e1, hR.same (fun j hj => e2 _ (by omega) (by omega)), fun i _ => by rw [e2 40 (by decide) (by decide)], by rw [ed]; exact e4, fun k hk => e2 k (by omega) (by omega), e3⟩
  intro f
  induction f with
  | zero =>
    intro D X v t pre a M hD hX hXN hp hl hv hG hn hm hR hpre hB
    have h0 := pop_zero hX (by omega)
    subst h0
    exact leaf 0 D v t pre a M (by omega) (by omega) hv hR hpre hB
  | succ f ih =>
    intro D X v t pre a M hD hX hXN hp hl hv hG hn hm hR hpre hB
    by_cases hX0 : X = 0
    · subst hX0
      exact leaf (f + 1) D v t pre a M (by omega) (by omega) hv hR hpre hB
    · have hpX : 0 < pop X := by
        rcases Nat.eq_zero_or_pos (pop X) with q | q
        · exact absurd (pop_zero hX q) hX0
        · exact q
      obtain ⟨x, rfl⟩ : ∃ x, D = x + 9 := ⟨D - 9, by omega⟩
      have hd6 : (pre.length < 6) = True := eq_true (by omega)
      have hn' : ∀ M, RelS 23 M t → M.1 23 0 = nI N := fun M h => h.f4.trans hn
      obtain ⟨G, hGdef⟩ : ∃ G : Option (Nat × List Nat) → Nat → Option (Nat × List Nat), G = fun a c => dv N m f (wrS t c (wl t N m c)) ((ms X 12).filter (fun j => decide (j ≠ c))) (pre ++ [c]) (v + sd t N m c) a := ⟨_, rfl⟩
      have key : ∀ j, j ≤ N → ∃ Mj v6 v7, ((v6 = .null ∧ v7 = .null) ∨ ∃ y z, v6 = .int y ∧ v7 = .int z) ∧ runD (x + 8) 204 47 [.ref 38, .int (nI X), .int (nI pre.length), .int (nI v), .ref 23, .int (nI 0), .null, .null] [] M = runD (x + 8) 204 47 [.ref 38, .int (nI X), .int (nI pre.length), .int (nI v), .ref 23, .int (nI j), v6, v7] [] Mj ∧ RelS 23 Mj t ∧ (∀ i, i < pre.length → Mj.1 40 i = M.1 40 i) ∧ BR (Mj.1 39) (Mj.1 38) ((ms X j).foldl G a) ∧ (∀ k, (k < 23 ∨ 40 < k) → Mj.1 k = M.1 k) ∧ Mj.2 = M.2 := by
        intro j
        induction j with
        | zero => exact fun _ => ⟨M, .null, .null, Or.inl ⟨rfl, rfl⟩, rfl, hR, fun _ _ => rfl, hB, fun _ _ => rfl, rfl⟩
        | succ j ihj =>
          intro hj
          obtain ⟨Mj, v6, v7, h67, e1, e2, e3, e4, e5, e6⟩ := ihj (by omega)
          have hlt : (j < N) = True := eq_true (by omega)
          have hj12 : j < 12 := by omega
          have hnj := hn' Mj e2
          have hh := fun μ => c_hasN (x + 7) X j hX hj12 μ
          by_cases q : X.testBit j = true
          · have hpc := pop_clr hX hj12 q
            obtain ⟨M1, hM1⟩ : ∃ M1, M1 = up 40 (upd (Mj.1 40) pre.length (nI j)) Mj := ⟨_, rfl⟩
            have hR1 : RelS 23 M1 t := by rw [hM1]; exact e2.up (by decide)
            have hw := c_writeDown_23 (x + 2) N m j M1 t hR1 hG hj12 hn hm hn12 h12
            have hRw := wdR (n := N) (m := m) (c := j) hR1 (by decide) hj12
            obtain ⟨M2, hM2⟩ : ∃ M2, M2 = up 23 (upd (M1.1 23) 12 (nI (tr2 (t 0).toNatClampNeg (wl t N m j).length))) (up 28 (upd (M1.1 28) j (nI (sO (wl t N m j)))) (chM t N m j M1)) := ⟨_, rfl⟩
            rw [← hM2] at hw
            have hRw2 : RelS 23 M2 (wrS t j (wl t N m j)) := by rw [hM2]; exact hRw
            have h8 : M2.1 34 2 = nI (sd t N m j) := by rw [hM2, up_ne (by decide), up_ne (by decide)]; exact chM_34.2
            have k2 : ∀ k, (k < 23 ∨ 37 < k) → k ≠ 40 → M2.1 k = Mj.1 k := fun k hk h40 => by rw [hM2, up_ne (by omega), up_ne (by omega), chM_ne (by omega), hM1, up_ne h40]
            have m240 : M2.1 40 = upd (Mj.1 40) pre.length (nI j) := by rw [hM2, up_ne (by decide), up_ne (by decide), chM_ne (by decide), hM1, up_eq]
            have hlen : (pre ++ [j]).length = pre.length + 1 := by simp
            have hsd := sd_le (s := t) (c := j) hn12 h12
            obtain ⟨M3, s1, s2, s3, s4, s5, s6⟩ := ih (x + 8) (clr X j) (v + sd t N m j) (wrS t j (wl t N m j)) (pre ++ [j]) ((ms X j).foldl G a) M2 (by omega) (clr_lt hX) (fun c hc => hXN c (by rw [clr_bit hX] at hc; simp at hc; exact hc.1)) (by omega) (by rw [hlen]; omega) (by rw [hlen]; omega) (wrS_ok hG hj12 (wl_ok h12).2) ((wrS_f (by omega)).trans hn) ((wrS_f (by omega)).trans hm) hRw2 (fun i hi => by
              rw [hlen] at hi
              rw [m240]
              by_cases q2 : i = pre.length
              · subst q2; rw [ud_eq, getD_app2]
              · rw [ud_ne q2, getD_app (by omega), e3 i (by omega)]; exact hpre i (by omega)) (by rw [k2 39 (by decide) (by decide), k2 38 (by decide) (by decide)]; exact e4)
            rw [hlen] at s1
            have ecl : X &&& (2 ^ j ^^^ 4294967295) = clr X j := rfl
            obtain ⟨M4, hM4⟩ : ∃ M4, M4 = up 23 (upd (M3.1 23) 12 (Mj.1 23 12)) (up 28 (upd (M3.1 28) j (Mj.1 28 j)) M3) := ⟨_, rfl⟩
            refine ⟨M4, .int (Mj.1 23 12), .int (Mj.1 28 j), Or.inr ⟨_, _, rfl, rfl⟩, ?_, ?_, ?_, ?_, ?_, ?_⟩
            · rw [e1, hM4]
              conv => lhs; rw [runD_evW]
              rcases h67 with ⟨rfl, rfl⟩ | ⟨y, z, rfl, rfl⟩
              · simp (maxSteps := 3000000) (disch := omega) only [evW_s, st_icN, st_icM, st_lconst, st_iload, st_aload, st_lload, st_istore, st_astore, st_lstore, st_iinc, st_iadd, st_isub, st_imul, st_iand, st_ior, st_ixor, st_ishl, st_ishr, st_iushr, st_idiv, st_irem, st_i2b, st_i2s, st_i2c, st_i2l, st_l2i, st_land, st_lor, st_lshl, st_lshr, st_lcmp, st_dup, st_dupa, st_dup2, st_pop, st_goto, st_ceq, st_cne, st_clt, st_cge, st_cgt, st_cle, st_zeq, st_zne, st_zlt, st_zge, st_zgt, st_zle, st_tsw, st_lsw, st_iaload, st_baload, st_caload, st_laload, st_aaload, st_iastore, st_bastore, st_lastore, st_alen, st_get, st_put, st_gets, st_ldc, st_v1, st_v2, st_v3, st_v4, st_v5, st_v6, st_s1, st_s2, st_s3, st_s4, st_cpy, st_iret, st_zret, st_bret, st_cret, st_lret, st_vret, ldI_, ldA_, ldL_, stB_0, stB_1, stB_s, notL_i, notL_r, notL_n, gfK_r, gfK_i, cont_v, cont_n, cont_ite, rcOK, tb_o, tb_k, tb_c, tb_n, tb_rd, tb_al, tb_ki, swT, swL, List.getD_cons_zero, List.getD_cons_succ, List.set_cons_zero, List.set_cons_succ, List.length_cons, List.length_nil, Nat.reduceAdd, Nat.reduceMul, Nat.reduceLeDiff, Nat.reduceDiv, Nat.reduceMod, Nat.reduceBEq, Nat.reduceEqDiff, Int.reduceToNat, Int.reduceAdd, Int64.reduceOfInt, Bool.true_and, Bool.and_true, Bool.and_self, Bool.false_and, Bool.and_false, Bool.false_eq_true, Bool.or_true, Bool.true_or, Bool.or_false, Bool.false_or, if_true, if_false, ↓reduceIte, ↓reduceDIte, true_and, and_true, and_self, Nat.le_refl, Nat.zero_le, beq_self_eq_true, loc0, tb_m, xp_0, xp_i, xp_r, xp_l, pad, ne_eq, not_false_eq_true, Nat.reduceSub, oiN, oiM, oN, List.toList_toArray, Nat.not_lt_zero, Nat.and_one_is_mod, sh1, shr_nI, fa_or, fa_and, fb_xorI, Nat.or_zero, Nat.lt_irrefl, nI_add, nI_mul, nI_sub, nI_clamp, nI_ltI, nI_eq, nI_eq0, nI_0eq, nI_lt0, nI_0lt, nI_ltM1, nI_M1lt, nI_neM1, nI_M1ne, mI_lt0, mI_eq0, mI_0lt, ib_nI, nI_1, zr1, zr2, nb_z, nb_m, nz_z, nz_m, jn_, jr_, nI_eq1, Classical.not_not, nI_b01, nI_b11, nb_a, nb_o, nb_n, nb_na, Nat.reduceLT, Nat.reducePow, Nat.reduceShiftRight, Nat.reduceAnd, Nat.reduceOr, wI_up, wL_up, cpI_up, cpL_up, up_eq, up_ne, up_up, up_comm, up2_up, up_2, up2_1, up2_eq, up2_ne, up2_up2, and_false, false_and, or_true, true_or, or_false, false_or, not_true_eq_false, xm1, and0, ud_eq, bOK_t, k_204, hnj, hlt, hh, q, ← hM1, hw, h8, ecl, s1]
              · simp (maxSteps := 3000000) (disch := omega) only [evW_s, st_icN, st_icM, st_lconst, st_iload, st_aload, st_lload, st_istore, st_astore, st_lstore, st_iinc, st_iadd, st_isub, st_imul, st_iand, st_ior, st_ixor, st_ishl, st_ishr, st_iushr, st_idiv, st_irem, st_i2b, st_i2s, st_i2c, st_i2l, st_l2i, st_land, st_lor, st_lshl, st_lshr, st_lcmp, st_dup, st_dupa, st_dup2, st_pop, st_goto, st_ceq, st_cne, st_clt, st_cge, st_cgt, st_cle, st_zeq, st_zne, st_zlt, st_zge, st_zgt, st_zle, st_tsw, st_lsw, st_iaload, st_baload, st_caload, st_laload, st_aaload, st_iastore, st_bastore, st_lastore, st_alen, st_get, st_put, st_gets, st_ldc, st_v1, st_v2, st_v3, st_v4, st_v5, st_v6, st_s1, st_s2, st_s3, st_s4, st_cpy, st_iret, st_zret, st_bret, st_cret, st_lret, st_vret, ldI_, ldA_, ldL_, stB_0, stB_1, stB_s, notL_i, notL_r, notL_n, gfK_r, gfK_i, cont_v, cont_n, cont_ite, rcOK, tb_o, tb_k, tb_c, tb_n, tb_rd, tb_al, tb_ki, swT, swL, List.getD_cons_zero, List.getD_cons_succ, List.set_cons_zero, List.set_cons_succ, List.length_cons, List.length_nil, Nat.reduceAdd, Nat.reduceMul, Nat.reduceLeDiff, Nat.reduceDiv, Nat.reduceMod, Nat.reduceBEq, Nat.reduceEqDiff, Int.reduceToNat, Int.reduceAdd, Int64.reduceOfInt, Bool.true_and, Bool.and_true, Bool.and_self, Bool.false_and, Bool.and_false, Bool.false_eq_true, Bool.or_true, Bool.true_or, Bool.or_false, Bool.false_or, if_true, if_false, ↓reduceIte, ↓reduceDIte, true_and, and_true, and_self, Nat.le_refl, Nat.zero_le, beq_self_eq_true, loc0, tb_m, xp_0, xp_i, xp_r, xp_l, pad, ne_eq, not_false_eq_true, Nat.reduceSub, oiN, oiM, oN, List.toList_toArray, Nat.not_lt_zero, Nat.and_one_is_mod, sh1, shr_nI, fa_or, fa_and, fb_xorI, Nat.or_zero, Nat.lt_irrefl, nI_add, nI_mul, nI_sub, nI_clamp, nI_ltI, nI_eq, nI_eq0, nI_0eq, nI_lt0, nI_0lt, nI_ltM1, nI_M1lt, nI_neM1, nI_M1ne, mI_lt0, mI_eq0, mI_0lt, ib_nI, nI_1, zr1, zr2, nb_z, nb_m, nz_z, nz_m, jn_, jr_, nI_eq1, Classical.not_not, nI_b01, nI_b11, nb_a, nb_o, nb_n, nb_na, Nat.reduceLT, Nat.reducePow, Nat.reduceShiftRight, Nat.reduceAnd, Nat.reduceOr, wI_up, wL_up, cpI_up, cpL_up, up_eq, up_ne, up_up, up_comm, up2_up, up_2, up2_1, up2_eq, up2_ne, up2_up2, and_false, false_and, or_true, true_or, or_false, false_or, not_true_eq_false, xm1, and0, ud_eq, bOK_t, k_204, hnj, hlt, hh, q, ← hM1, hw, h8, ecl, s1]
            · have r1 := s2.putf (v := Mj.1 23 12) (i := 0) (j := 12) rfl (by decide)
              have r2 := r1.putc (v := Mj.1 28 j) hj12 (w := 7) (by decide) (by decide)
              have f0 : Mj.1 23 12 = t 0 := e2.f0
              have f7 : Mj.1 28 j = t (6 + 8 * j + 7) := e2.cw hj12 (w := 7) (by decide) (by decide)
              rw [show 23 + (7 - 2) = 28 from rfl, up_comm (k := 23) (j := 28) (by decide), up_ne (k := 23) (a := 28) (by decide)] at r2
              rw [hM4]
              refine RelS_congr r2 (fun i _ => ?_)
              rw [f0, f7, restore]
            · intro i hi
              rw [hM4, up_ne (by decide), up_ne (by decide), s3 i (by rw [hlen]; omega), m240, ud_ne (by omega)]
              exact e3 i hi
            · rw [hM4, up_ne (by decide), up_ne (by decide), up_ne (by decide), up_ne (by decide), ms_s, if_pos q, List.foldl_append, List.foldl_cons, List.foldl_nil]
              rw [ms_clr hX] at s4
              rw [hGdef] at s4 ⊢
              exact s4
            · intro k hk
              rw [hM4, up_ne (by omega), up_ne (by omega), s5 k hk, k2 k (by omega) (by omega)]
              exact e5 k hk
            · rw [hM4]
              show M3.2 = _
              rw [s6, hM2]
              show (chM t N m j M1).2 = _
              rw [chM_2, hM1]
              exact e6
          · refine ⟨Mj, v6, v7, h67, ?_, e2, e3, ?_, e5, e6⟩
            · rw [e1]
              conv => lhs; rw [runD_evW]
              rcases h67 with ⟨rfl, rfl⟩ | ⟨y, z, rfl, rfl⟩
              · simp (maxSteps := 3000000) (disch := omega) only [evW_s, st_icN, st_icM, st_lconst, st_iload, st_aload, st_lload, st_istore, st_astore, st_lstore, st_iinc, st_iadd, st_isub, st_imul, st_iand, st_ior, st_ixor, st_ishl, st_ishr, st_iushr, st_idiv, st_irem, st_i2b, st_i2s, st_i2c, st_i2l, st_l2i, st_land, st_lor, st_lshl, st_lshr, st_lcmp, st_dup, st_dupa, st_dup2, st_pop, st_goto, st_ceq, st_cne, st_clt, st_cge, st_cgt, st_cle, st_zeq, st_zne, st_zlt, st_zge, st_zgt, st_zle, st_tsw, st_lsw, st_iaload, st_baload, st_caload, st_laload, st_aaload, st_iastore, st_bastore, st_lastore, st_alen, st_get, st_put, st_gets, st_ldc, st_v1, st_v2, st_v3, st_v4, st_v5, st_v6, st_s1, st_s2, st_s3, st_s4, st_cpy, st_iret, st_zret, st_bret, st_cret, st_lret, st_vret, ldI_, ldA_, ldL_, stB_0, stB_1, stB_s, notL_i, notL_r, notL_n, gfK_r, gfK_i, cont_v, cont_n, cont_ite, rcOK, tb_o, tb_k, tb_c, tb_n, tb_rd, tb_al, tb_ki, swT, swL, List.getD_cons_zero, List.getD_cons_succ, List.set_cons_zero, List.set_cons_succ, List.length_cons, List.length_nil, Nat.reduceAdd, Nat.reduceMul, Nat.reduceLeDiff, Nat.reduceDiv, Nat.reduceMod, Nat.reduceBEq, Nat.reduceEqDiff, Int.reduceToNat, Int.reduceAdd, Int64.reduceOfInt, Bool.true_and, Bool.and_true, Bool.and_self, Bool.false_and, Bool.and_false, Bool.false_eq_true, Bool.or_true, Bool.true_or, Bool.or_false, Bool.false_or, if_true, if_false, ↓reduceIte, ↓reduceDIte, true_and, and_true, and_self, Nat.le_refl, Nat.zero_le, beq_self_eq_true, loc0, tb_m, xp_0, xp_i, xp_r, xp_l, pad, ne_eq, not_false_eq_true, Nat.reduceSub, oiN, oiM, oN, List.toList_toArray, Nat.not_lt_zero, Nat.and_one_is_mod, sh1, shr_nI, fa_or, fa_and, fb_xorI, Nat.or_zero, Nat.lt_irrefl, nI_add, nI_mul, nI_sub, nI_clamp, nI_ltI, nI_eq, nI_eq0, nI_0eq, nI_lt0, nI_0lt, nI_ltM1, nI_M1lt, nI_neM1, nI_M1ne, mI_lt0, mI_eq0, mI_0lt, ib_nI, nI_1, zr1, zr2, nb_z, nb_m, nz_z, nz_m, jn_, jr_, nI_eq1, Classical.not_not, nI_b01, nI_b11, nb_a, nb_o, nb_n, nb_na, Nat.reduceLT, Nat.reducePow, Nat.reduceShiftRight, Nat.reduceAnd, Nat.reduceOr, wI_up, wL_up, cpI_up, cpL_up, up_eq, up_ne, up_up, up_comm, up2_up, up_2, up2_1, up2_eq, up2_ne, up2_up2, and_false, false_and, or_true, true_or, or_false, false_or, not_true_eq_false, xm1, and0, ud_eq, bOK_t, k_204, hnj, hlt, hh, q]
              · simp (maxSteps := 3000000) (disch := omega) only [evW_s, st_icN, st_icM, st_lconst, st_iload, st_aload, st_lload, st_istore, st_astore, st_lstore, st_iinc, st_iadd, st_isub, st_imul, st_iand, st_ior, st_ixor, st_ishl, st_ishr, st_iushr, st_idiv, st_irem, st_i2b, st_i2s, st_i2c, st_i2l, st_l2i, st_land, st_lor, st_lshl, st_lshr, st_lcmp, st_dup, st_dupa, st_dup2, st_pop, st_goto, st_ceq, st_cne, st_clt, st_cge, st_cgt, st_cle, st_zeq, st_zne, st_zlt, st_zge, st_zgt, st_zle, st_tsw, st_lsw, st_iaload, st_baload, st_caload, st_laload, st_aaload, st_iastore, st_bastore, st_lastore, st_alen, st_get, st_put, st_gets, st_ldc, st_v1, st_v2, st_v3, st_v4, st_v5, st_v6, st_s1, st_s2, st_s3, st_s4, st_cpy, st_iret, st_zret, st_bret, st_cret, st_lret, st_vret, ldI_, ldA_, ldL_, stB_0, stB_1, stB_s, notL_i, notL_r, notL_n, gfK_r, gfK_i, cont_v, cont_n, cont_ite, rcOK, tb_o, tb_k, tb_c, tb_n, tb_rd, tb_al, tb_ki, swT, swL, List.getD_cons_zero, List.getD_cons_succ, List.set_cons_zero, List.set_cons_succ, List.length_cons, List.length_nil, Nat.reduceAdd, Nat.reduceMul, Nat.reduceLeDiff, Nat.reduceDiv, Nat.reduceMod, Nat.reduceBEq, Nat.reduceEqDiff, Int.reduceToNat, Int.reduceAdd, Int64.reduceOfInt, Bool.true_and, Bool.and_true, Bool.and_self, Bool.false_and, Bool.and_false, Bool.false_eq_true, Bool.or_true, Bool.true_or, Bool.or_false, Bool.false_or, if_true, if_false, ↓reduceIte, ↓reduceDIte, true_and, and_true, and_self, Nat.le_refl, Nat.zero_le, beq_self_eq_true, loc0, tb_m, xp_0, xp_i, xp_r, xp_l, pad, ne_eq, not_false_eq_true, Nat.reduceSub, oiN, oiM, oN, List.toList_toArray, Nat.not_lt_zero, Nat.and_one_is_mod, sh1, shr_nI, fa_or, fa_and, fb_xorI, Nat.or_zero, Nat.lt_irrefl, nI_add, nI_mul, nI_sub, nI_clamp, nI_ltI, nI_eq, nI_eq0, nI_0eq, nI_lt0, nI_0lt, nI_ltM1, nI_M1lt, nI_neM1, nI_M1ne, mI_lt0, mI_eq0, mI_0lt, ib_nI, nI_1, zr1, zr2, nb_z, nb_m, nz_z, nz_m, jn_, jr_, nI_eq1, Classical.not_not, nI_b01, nI_b11, nb_a, nb_o, nb_n, nb_na, Nat.reduceLT, Nat.reducePow, Nat.reduceShiftRight, Nat.reduceAnd, Nat.reduceOr, wI_up, wL_up, cpI_up, cpL_up, up_eq, up_ne, up_up, up_comm, up2_up, up_2, up2_1, up2_eq, up2_ne, up2_up2, and_false, false_and, or_true, true_or, or_false, false_or, not_true_eq_false, xm1, and0, ud_eq, bOK_t, k_204, hnj, hlt, hh, q]
            · rw [ms_s, if_neg q]
              exact e4
      obtain ⟨Mn, v6, v7, h67, e1, e2, e3, e4, e5, e6⟩ := key N (Nat.le_refl N)
      have hnn := hn' Mn e2
      have hms : ms X 12 = ms X N := by
        have := ms_more hXN (12 - N)
        rwa [show N + (12 - N) = 12 by omega] at this
      have hne : ms X 12 ≠ [] := by
        intro z
        have : pop X = (ms X 12).length := by rw [ms_nth X 12 (Nat.le_refl 12), List.length_map, List.length_range]; rfl
        rw [z] at this
        simp at this
        omega
      refine ⟨Mn, ?_, e2, e3, ?_, e5, e6⟩
      · rw [callD_e (Nat.le_of_ble_eq_true rfl), runD_evW]
        simp (maxSteps := 3000000) (disch := omega) only [evW_s, st_icN, st_icM, st_lconst, st_iload, st_aload, st_lload, st_istore, st_astore, st_lstore, st_iinc, st_iadd, st_isub, st_imul, st_iand, st_ior, st_ixor, st_ishl, st_ishr, st_iushr, st_idiv, st_irem, st_i2b, st_i2s, st_i2c, st_i2l, st_l2i, st_land, st_lor, st_lshl, st_lshr, st_lcmp, st_dup, st_dupa, st_dup2, st_pop, st_goto, st_ceq, st_cne, st_clt, st_cge, st_cgt, st_cle, st_zeq, st_zne, st_zlt, st_zge, st_zgt, st_zle, st_tsw, st_lsw, st_iaload, st_baload, st_caload, st_laload, st_aaload, st_iastore, st_bastore, st_lastore, st_alen, st_get, st_put, st_gets, st_ldc, st_v1, st_v2, st_v3, st_v4, st_v5, st_v6, st_s1, st_s2, st_s3, st_s4, st_cpy, st_iret, st_zret, st_bret, st_cret, st_lret, st_vret, ldI_, ldA_, ldL_, stB_0, stB_1, stB_s, notL_i, notL_r, notL_n, gfK_r, gfK_i, cont_v, cont_n, cont_ite, rcOK, tb_o, tb_k, tb_c, tb_n, tb_rd, tb_al, tb_ki, swT, swL, List.getD_cons_zero, List.getD_cons_succ, List.set_cons_zero, List.set_cons_succ, List.length_cons, List.length_nil, Nat.reduceAdd, Nat.reduceMul, Nat.reduceLeDiff, Nat.reduceDiv, Nat.reduceMod, Nat.reduceBEq, Nat.reduceEqDiff, Int.reduceToNat, Int.reduceAdd, Int64.reduceOfInt, Bool.true_and, Bool.and_true, Bool.and_self, Bool.false_and, Bool.and_false, Bool.false_eq_true, Bool.or_true, Bool.true_or, Bool.or_false, Bool.false_or, if_true, if_false, ↓reduceIte, ↓reduceDIte, true_and, and_true, and_self, Nat.le_refl, Nat.zero_le, beq_self_eq_true, loc0, tb_m, xp_0, xp_i, xp_r, xp_l, pad, ne_eq, not_false_eq_true, Nat.reduceSub, oiN, oiM, oN, List.toList_toArray, Nat.not_lt_zero, Nat.and_one_is_mod, sh1, shr_nI, fa_or, fa_and, fb_xorI, Nat.or_zero, Nat.lt_irrefl, nI_add, nI_mul, nI_sub, nI_clamp, nI_ltI, nI_eq, nI_eq0, nI_0eq, nI_lt0, nI_0lt, nI_ltM1, nI_M1lt, nI_neM1, nI_M1ne, mI_lt0, mI_eq0, mI_0lt, ib_nI, nI_1, zr1, zr2, nb_z, nb_m, nz_z, nz_m, jn_, jr_, nI_eq1, Classical.not_not, nI_b01, nI_b11, nb_a, nb_o, nb_n, nb_na, Nat.reduceLT, Nat.reducePow, Nat.reduceShiftRight, Nat.reduceAnd, Nat.reduceOr, wI_up, wL_up, cpI_up, cpL_up, up_eq, up_ne, up_up, up_comm, up2_up, up_2, up2_1, up2_eq, up2_ne, up2_up2, and_false, false_and, or_true, true_or, or_false, false_or, not_true_eq_false, xm1, and0, ud_eq, bOK_t, k_204, hX0, hd6]
        rw [e1, runD_evW]
        rcases h67 with ⟨rfl, rfl⟩ | ⟨y, z, rfl, rfl⟩
        · simp (maxSteps := 3000000) (disch := omega) only [evW_s, st_icN, st_icM, st_lconst, st_iload, st_aload, st_lload, st_istore, st_astore, st_lstore, st_iinc, st_iadd, st_isub, st_imul, st_iand, st_ior, st_ixor, st_ishl, st_ishr, st_iushr, st_idiv, st_irem, st_i2b, st_i2s, st_i2c, st_i2l, st_l2i, st_land, st_lor, st_lshl, st_lshr, st_lcmp, st_dup, st_dupa, st_dup2, st_pop, st_goto, st_ceq, st_cne, st_clt, st_cge, st_cgt, st_cle, st_zeq, st_zne, st_zlt, st_zge, st_zgt, st_zle, st_tsw, st_lsw, st_iaload, st_baload, st_caload, st_laload, st_aaload, st_iastore, st_bastore, st_lastore, st_alen, st_get, st_put, st_gets, st_ldc, st_v1, st_v2, st_v3, st_v4, st_v5, st_v6, st_s1, st_s2, st_s3, st_s4, st_cpy, st_iret, st_zret, st_bret, st_cret, st_lret, st_vret, ldI_, ldA_, ldL_, stB_0, stB_1, stB_s, notL_i, notL_r, notL_n, gfK_r, gfK_i, cont_v, cont_n, cont_ite, rcOK, tb_o, tb_k, tb_c, tb_n, tb_rd, tb_al, tb_ki, swT, swL, List.getD_cons_zero, List.getD_cons_succ, List.set_cons_zero, List.set_cons_succ, List.length_cons, List.length_nil, Nat.reduceAdd, Nat.reduceMul, Nat.reduceLeDiff, Nat.reduceDiv, Nat.reduceMod, Nat.reduceBEq, Nat.reduceEqDiff, Int.reduceToNat, Int.reduceAdd, Int64.reduceOfInt, Bool.true_and, Bool.and_true, Bool.and_self, Bool.false_and, Bool.and_false, Bool.false_eq_true, Bool.or_true, Bool.true_or, Bool.or_false, Bool.false_or, if_true, if_false, ↓reduceIte, ↓reduceDIte, true_and, and_true, and_self, Nat.le_refl, Nat.zero_le, beq_self_eq_true, loc0, tb_m, xp_0, xp_i, xp_r, xp_l, pad, ne_eq, not_false_eq_true, Nat.reduceSub, oiN, oiM, oN, List.toList_toArray, Nat.not_lt_zero, Nat.and_one_is_mod, sh1, shr_nI, fa_or, fa_and, fb_xorI, Nat.or_zero, Nat.lt_irrefl, nI_add, nI_mul, nI_sub, nI_clamp, nI_ltI, nI_eq, nI_eq0, nI_0eq, nI_lt0, nI_0lt, nI_ltM1, nI_M1lt, nI_neM1, nI_M1ne, mI_lt0, mI_eq0, mI_0lt, ib_nI, nI_1, zr1, zr2, nb_z, nb_m, nz_z, nz_m, jn_, jr_, nI_eq1, Classical.not_not, nI_b01, nI_b11, nb_a, nb_o, nb_n, nb_na, Nat.reduceLT, Nat.reducePow, Nat.reduceShiftRight, Nat.reduceAnd, Nat.reduceOr, wI_up, wL_up, cpI_up, cpL_up, up_eq, up_ne, up_up, up_comm, up2_up, up_2, up2_1, up2_eq, up2_ne, up2_up2, and_false, false_and, or_true, true_or, or_false, false_or, not_true_eq_false, xm1, and0, ud_eq, bOK_t, k_204, hnn]
        · simp (maxSteps := 3000000) (disch := omega) only [evW_s, st_icN, st_icM, st_lconst, st_iload, st_aload, st_lload, st_istore, st_astore, st_lstore, st_iinc, st_iadd, st_isub, st_imul, st_iand, st_ior, st_ixor, st_ishl, st_ishr, st_iushr, st_idiv, st_irem, st_i2b, st_i2s, st_i2c, st_i2l, st_l2i, st_land, st_lor, st_lshl, st_lshr, st_lcmp, st_dup, st_dupa, st_dup2, st_pop, st_goto, st_ceq, st_cne, st_clt, st_cge, st_cgt, st_cle, st_zeq, st_zne, st_zlt, st_zge, st_zgt, st_zle, st_tsw, st_lsw, st_iaload, st_baload, st_caload, st_laload, st_aaload, st_iastore, st_bastore, st_lastore, st_alen, st_get, st_put, st_gets, st_ldc, st_v1, st_v2, st_v3, st_v4, st_v5, st_v6, st_s1, st_s2, st_s3, st_s4, st_cpy, st_iret, st_zret, st_bret, st_cret, st_lret, st_vret, ldI_, ldA_, ldL_, stB_0, stB_1, stB_s, notL_i, notL_r, notL_n, gfK_r, gfK_i, cont_v, cont_n, cont_ite, rcOK, tb_o, tb_k, tb_c, tb_n, tb_rd, tb_al, tb_ki, swT, swL, List.getD_cons_zero, List.getD_cons_succ, List.set_cons_zero, List.set_cons_succ, List.length_cons, List.length_nil, Nat.reduceAdd, Nat.reduceMul, Nat.reduceLeDiff, Nat.reduceDiv, Nat.reduceMod, Nat.reduceBEq, Nat.reduceEqDiff, Int.reduceToNat, Int.reduceAdd, Int64.reduceOfInt, Bool.true_and, Bool.and_true, Bool.and_self, Bool.false_and, Bool.and_false, Bool.false_eq_true, Bool.or_true, Bool.true_or, Bool.or_false, Bool.false_or, if_true, if_false, ↓reduceIte, ↓reduceDIte, true_and, and_true, and_self, Nat.le_refl, Nat.zero_le, beq_self_eq_true, loc0, tb_m, xp_0, xp_i, xp_r, xp_l, pad, ne_eq, not_false_eq_true, Nat.reduceSub, oiN, oiM, oN, List.toList_toArray, Nat.not_lt_zero, Nat.and_one_is_mod, sh1, shr_nI, fa_or, fa_and, fb_xorI, Nat.or_zero, Nat.lt_irrefl, nI_add, nI_mul, nI_sub, nI_clamp, nI_ltI, nI_eq, nI_eq0, nI_0eq, nI_lt0, nI_0lt, nI_ltM1, nI_M1lt, nI_neM1, nI_M1ne, mI_lt0, mI_eq0, mI_0lt, ib_nI, nI_1, zr1, zr2, nb_z, nb_m, nz_z, nz_m, jn_, jr_, nI_eq1, Classical.not_not, nI_b01, nI_b11, nb_a, nb_o, nb_n, nb_na, Nat.reduceLT, Nat.reducePow, Nat.reduceShiftRight, Nat.reduceAnd, Nat.reduceOr, wI_up, wL_up, cpI_up, cpL_up, up_eq, up_ne, up_up, up_comm, up2_up, up_2, up2_1, up2_eq, up2_ne, up2_up2, and_false, false_and, or_true, true_or, or_false, false_or, not_true_eq_false, xm1, and0, ud_eq, bOK_t, k_204, hnn]
      · rw [dv, if_neg hne]
        rw [hGdef, ← hms] at e4
        exact e4

/-! 62.la: by wip/whole/gen_loop.py -/
section
variable {L i : Nat} {xs : Nat → Int32} {μ : sM}
theorem swT_nth {α : Type} (f : Int → α) (dd : Int) : ∀ (os : List Int) (lo k : Nat), k < os.length → lo + os.length < 2 ^ 31 → swT f dd (lo : Int) os (nI (lo + k)) = f (os.getD k 0) := by
  intro os
  induction os with
  | nil => intro lo k h; simp at h
  | cons o os ih =>
    intro lo k hk hl
    rw [List.length_cons] at hk hl
    have e : Int32.ofInt (lo : Int) = nI lo := Int32.ofInt_eq_ofNat
    unfold swT
    rw [e]
    cases k with
    | zero => rw [Nat.add_zero, if_pos rfl]; rfl
    | succ k =>
      rw [if_neg (by rw [nI_eq (by omega) (by omega)]; omega)]
      have := ih (lo + 1) k (by omega) (by omega)
      rw [show lo + 1 + k = lo + (k + 1) by omega] at this
      exact this
theorem swT_out {α : Type} (f : Int → α) (dd : Int) : ∀ (os : List Int) (lo k : Nat), lo + os.length ≤ k → k < 2 ^ 31 → swT f dd (lo : Int) os (nI k) = f dd := by
  intro os
  induction os with
  | nil => intro lo k _ _; rfl
  | cons o os ih =>
    intro lo k hk hl
    rw [List.length_cons] at hk
    have e : Int32.ofInt (lo : Int) = nI lo := Int32.ofInt_eq_ofNat
    unfold swT
    rw [e, if_neg (by rw [nI_eq (by omega) (by omega)]; omega)]
    exact ih (lo + 1) k (by omega) hl
def lawT : List Int := [212, 265, 298, 341, 404, 437, 470, 503, 536, 559, 592, 615, 638, 661, 720, 743, 766, 789, 812, 835, 848, 861, 884, 917, 950, 973, 1006, 1029, 1052, 1085, 1098, 1111, 1154, 1228, 1291, 1314, 1347, 1360, 1373, 1386, 1409]
def lawP (k : Nat) : Nat := if k < 41 then (lawT.getD k 0).toNat else 1432
theorem k33 : smc 1000 33 = (.tableswitch (1432) (0) (40) #[212, 265, 298, 341, 404, 437, 470, 503, 536, 559, 592, 615, 638, 661, 720, 743, 766, 789, 812, 835, 848, 861, 884, 917, 950, 973, 1006, 1029, 1052, 1085, 1098, 1111, 1154, 1228, 1291, 1314, 1347, 1360, 1373, 1386, 1409], 212, false) := by simp only [k_1000_p1]
theorem law_sw (k : Nat) (hk : k < 64) (ls r : List Value) : evW 20 1000 33 ls (.int (nI k) :: r) μ = evW 20 1000 (lawP k) ls r μ := by
  rw [evW_s, k33]
  show stepK 20 (callD 20) (evW 20 1000) _ _ ls (.int (nI k) :: r) μ = _
  rw [st_tsw]
  unfold lawP
  by_cases h : k < 41
  · rw [if_pos h]
    have := swT_nth (fun t => evW 20 1000 t.toNat ls r μ) 1432 lawT 0 k h (by decide)
    rw [Nat.zero_add] at this
    exact this
  · rw [if_neg h]
    exact swT_out (fun t => evW 20 1000 t.toNat ls r μ) 1432 lawT 0 k (by show 0 + 41 ≤ k; omega) (by omega)
theorem law_end (hI : Inv L xs μ) (hi : L < i + 6) (hL : L ≤ 384) (hi2 : i ≤ L + 6) : runD 20 1000 18 [.ref 99, .ref 0, .ref 55, .int (nI i)] [] μ = some (some (.int (nI 1)), μ) := by
  have h99 : μ.1 99 = xs := hI.2.2.2.2.2.2.2.1
  have h98 : μ.1 98 0 = nI L := hI.2.2.2.2.2.2.2.2
  have r23 := k_1000_p1.1
  have r24 := k_1000_p1.2.1
  have hlt : (nI L - nI 6 < nI i) = True := by
    refine eq_true ((fa_lt _ _).mpr ?_)
    rw [fb_subI (by rw [nI_toInt (by omega), nI_toInt (by decide)]; omega) (by rw [nI_toInt (by omega), nI_toInt (by decide)]; omega), nI_toInt (by omega), nI_toInt (by decide), nI_toInt (by omega)]
    omega
  rw [runD_evW]
  by_cases h6 : 6 ≤ L
  · have hlt2 : (L - 6 < i) = True := eq_true (by omega)
    simp (maxSteps := 3000000) (disch := omega) only [evW_s, st_icN, st_icM, st_lconst, st_iload, st_aload, st_lload, st_istore, st_astore, st_lstore, st_iinc, st_iadd, st_isub, st_imul, st_iand, st_ior, st_ixor, st_ishl, st_ishr, st_iushr, st_idiv, st_irem, st_i2b, st_i2s, st_i2c, st_i2l, st_l2i, st_land, st_lor, st_lshl, st_lshr, st_lcmp, st_dup, st_dupa, st_dup2, st_pop, st_goto, st_ceq, st_cne, st_clt, st_cge, st_cgt, st_cle, st_zeq, st_zne, st_zlt, st_zge, st_zgt, st_zle, st_tsw, st_lsw, st_iaload, st_baload, st_caload, st_laload, st_aaload, st_iastore, st_bastore, st_lastore, st_alen, st_get, st_put, st_gets, st_ldc, st_v1, st_v2, st_v3, st_v4, st_v5, st_v6, st_s1, st_s2, st_s3, st_s4, st_cpy, st_iret, st_zret, st_bret, st_cret, st_lret, st_vret, ldI_, ldA_, ldL_, stB_0, stB_1, stB_s, notL_i, notL_r, notL_n, gfK_r, gfK_i, cont_v, cont_n, cont_ite, rcOK, tb_o, tb_k, tb_c, tb_n, tb_rd, tb_al, tb_ki, swT, swL, List.getD_cons_zero, List.getD_cons_succ, List.set_cons_zero, List.set_cons_succ, List.length_cons, List.length_nil, Nat.reduceAdd, Nat.reduceMul, Nat.reduceLeDiff, Nat.reduceDiv, Nat.reduceMod, Nat.reduceBEq, Nat.reduceEqDiff, Int.reduceToNat, Int.reduceAdd, Int64.reduceOfInt, Bool.true_and, Bool.and_true, Bool.and_self, Bool.false_and, Bool.and_false, Bool.false_eq_true, Bool.or_true, Bool.true_or, Bool.or_false, Bool.false_or, if_true, if_false, ↓reduceIte, ↓reduceDIte, true_and, and_true, and_self, Nat.le_refl, Nat.zero_le, beq_self_eq_true, loc0, tb_m, xp_0, xp_i, xp_r, xp_l, pad, ne_eq, not_false_eq_true, Nat.reduceSub, oiN, oiM, oN, List.toList_toArray, Nat.not_lt_zero, Nat.and_one_is_mod, sh1, shr_nI, fa_or, fa_and, fb_xorI, Nat.or_zero, Nat.lt_irrefl, nI_add, nI_mul, nI_sub, nI_clamp, nI_ltI, nI_eq, nI_eq0, nI_0eq, nI_lt0, nI_0lt, nI_ltM1, nI_M1lt, nI_neM1, nI_M1ne, mI_lt0, mI_eq0, mI_0lt, ib_nI, nI_1, zr1, zr2, nb_z, nb_m, nz_z, nz_m, jn_, jr_, nI_eq1, Classical.not_not, nI_b01, nI_b11, nb_a, nb_o, nb_n, nb_na, Nat.reduceLT, Nat.reducePow, Nat.reduceShiftRight, Nat.reduceAnd, Nat.reduceOr, wI_up, wL_up, cpI_up, cpL_up, up_eq, up_ne, up_up, up_comm, up2_up, up_2, up2_1, up2_eq, up2_ne, up2_up2, and_false, false_and, or_true, true_or, or_false, false_or, not_true_eq_false, xm1, and0, ud_eq, bOK_t, k_1000_p0, r23, r24, k_1000_p70, h99, h98, hlt2]
  · simp (maxSteps := 3000000) (disch := omega) only [evW_s, st_icN, st_icM, st_lconst, st_iload, st_aload, st_lload, st_istore, st_astore, st_lstore, st_iinc, st_iadd, st_isub, st_imul, st_iand, st_ior, st_ixor, st_ishl, st_ishr, st_iushr, st_idiv, st_irem, st_i2b, st_i2s, st_i2c, st_i2l, st_l2i, st_land, st_lor, st_lshl, st_lshr, st_lcmp, st_dup, st_dupa, st_dup2, st_pop, st_goto, st_ceq, st_cne, st_clt, st_cge, st_cgt, st_cle, st_zeq, st_zne, st_zlt, st_zge, st_zgt, st_zle, st_tsw, st_lsw, st_iaload, st_baload, st_caload, st_laload, st_aaload, st_iastore, st_bastore, st_lastore, st_alen, st_get, st_put, st_gets, st_ldc, st_v1, st_v2, st_v3, st_v4, st_v5, st_v6, st_s1, st_s2, st_s3, st_s4, st_cpy, st_iret, st_zret, st_bret, st_cret, st_lret, st_vret, ldI_, ldA_, ldL_, stB_0, stB_1, stB_s, notL_i, notL_r, notL_n, gfK_r, gfK_i, cont_v, cont_n, cont_ite, rcOK, tb_o, tb_k, tb_c, tb_n, tb_rd, tb_al, tb_ki, swT, swL, List.getD_cons_zero, List.getD_cons_succ, List.set_cons_zero, List.set_cons_succ, List.length_cons, List.length_nil, Nat.reduceAdd, Nat.reduceMul, Nat.reduceLeDiff, Nat.reduceDiv, Nat.reduceMod, Nat.reduceBEq, Nat.reduceEqDiff, Int.reduceToNat, Int.reduceAdd, Int64.reduceOfInt, Bool.true_and, Bool.and_true, Bool.and_self, Bool.false_and, Bool.and_false, Bool.false_eq_true, Bool.or_true, Bool.true_or, Bool.or_false, Bool.false_or, if_true, if_false, ↓reduceIte, ↓reduceDIte, true_and, and_true, and_self, Nat.le_refl, Nat.zero_le, beq_self_eq_true, loc0, tb_m, xp_0, xp_i, xp_r, xp_l, pad, ne_eq, not_false_eq_true, Nat.reduceSub, oiN, oiM, oN, List.toList_toArray, Nat.not_lt_zero, Nat.and_one_is_mod, sh1, shr_nI, fa_or, fa_and, fb_xorI, Nat.or_zero, Nat.lt_irrefl, nI_add, nI_mul, nI_sub, nI_clamp, nI_ltI, nI_eq, nI_eq0, nI_0eq, nI_lt0, nI_0lt, nI_ltM1, nI_M1lt, nI_neM1, nI_M1ne, mI_lt0, mI_eq0, mI_0lt, ib_nI, nI_1, zr1, zr2, nb_z, nb_m, nz_z, nz_m, jn_, jr_, nI_eq1, Classical.not_not, nI_b01, nI_b11, nb_a, nb_o, nb_n, nb_na, Nat.reduceLT, Nat.reducePow, Nat.reduceShiftRight, Nat.reduceAnd, Nat.reduceOr, wI_up, wL_up, cpI_up, cpL_up, up_eq, up_ne, up_up, up_comm, up2_up, up_2, up2_1, up2_eq, up2_ne, up2_up2, and_false, false_and, or_true, true_or, or_false, false_or, not_true_eq_false, xm1, and0, ud_eq, bOK_t, k_1000_p0, r23, r24, k_1000_p70, h99, h98, hlt]
theorem law_head (hI : Inv L xs μ) (hi : i + 6 ≤ L) (hL : L ≤ 384) : ∃ k, k < 64 ∧ runD 20 1000 18 [.ref 99, .ref 0, .ref 55, .int (nI i)] [] μ = evW 20 1000 (lawP k) [.ref 99, .ref 0, .ref 55, .int (nI i)] [] μ := by
  have h99 : μ.1 99 = xs := hI.2.2.2.2.2.2.2.1
  have h98 : μ.1 98 0 = nI L := hI.2.2.2.2.2.2.2.2
  have r23 := k_1000_p1.1
  have r24 := k_1000_p1.2.1
  have r27 := k_1000_p1.2.2.1
  have r28 := k_1000_p1.2.2.2.1
  have r29 := k_1000_p1.2.2.2.2.1
  have r30 := k_1000_p1.2.2.2.2.2.1
  have r32 := k_1000_p1.2.2.2.2.2.2.1
  have hlt : (L - 6 < i) = False := eq_false (by omega)
  obtain ⟨n, hn, en⟩ := wb32 (xs i)
  have hk : xs i &&& nI 63 = nI (n % 64) := by rw [en]; exact fa_mask n 6
  refine ⟨n % 64, Nat.mod_lt _ (by decide), ?_⟩
  rw [← law_sw (n % 64) (Nat.mod_lt _ (by decide)), evW_s (pc := 33)]
  rw [runD_evW]
  simp (maxSteps := 3000000) (disch := omega) only [evW_s, st_icN, st_icM, st_lconst, st_iload, st_aload, st_lload, st_istore, st_astore, st_lstore, st_iinc, st_iadd, st_isub, st_imul, st_iand, st_ior, st_ixor, st_ishl, st_ishr, st_iushr, st_idiv, st_irem, st_i2b, st_i2s, st_i2c, st_i2l, st_l2i, st_land, st_lor, st_lshl, st_lshr, st_lcmp, st_dup, st_dupa, st_dup2, st_pop, st_goto, st_ceq, st_cne, st_clt, st_cge, st_cgt, st_cle, st_zeq, st_zne, st_zlt, st_zge, st_zgt, st_zle, st_tsw, st_lsw, st_iaload, st_baload, st_caload, st_laload, st_aaload, st_iastore, st_bastore, st_lastore, st_alen, st_get, st_put, st_gets, st_ldc, st_v1, st_v2, st_v3, st_v4, st_v5, st_v6, st_s1, st_s2, st_s3, st_s4, st_cpy, st_iret, st_zret, st_bret, st_cret, st_lret, st_vret, ldI_, ldA_, ldL_, stB_0, stB_1, stB_s, notL_i, notL_r, notL_n, gfK_r, gfK_i, cont_v, cont_n, cont_ite, rcOK, tb_o, tb_k, tb_c, tb_n, tb_rd, tb_al, tb_ki, swT, swL, List.getD_cons_zero, List.getD_cons_succ, List.set_cons_zero, List.set_cons_succ, List.length_cons, List.length_nil, Nat.reduceAdd, Nat.reduceMul, Nat.reduceLeDiff, Nat.reduceDiv, Nat.reduceMod, Nat.reduceBEq, Nat.reduceEqDiff, Int.reduceToNat, Int.reduceAdd, Int64.reduceOfInt, Bool.true_and, Bool.and_true, Bool.and_self, Bool.false_and, Bool.and_false, Bool.false_eq_true, Bool.or_true, Bool.true_or, Bool.or_false, Bool.false_or, if_true, if_false, ↓reduceIte, ↓reduceDIte, true_and, and_true, and_self, Nat.le_refl, Nat.zero_le, beq_self_eq_true, loc0, tb_m, xp_0, xp_i, xp_r, xp_l, pad, ne_eq, not_false_eq_true, Nat.reduceSub, oiN, oiM, oN, List.toList_toArray, Nat.not_lt_zero, Nat.and_one_is_mod, sh1, shr_nI, fa_or, fa_and, fb_xorI, Nat.or_zero, Nat.lt_irrefl, nI_add, nI_mul, nI_sub, nI_clamp, nI_ltI, nI_eq, nI_eq0, nI_0eq, nI_lt0, nI_0lt, nI_ltM1, nI_M1lt, nI_neM1, nI_M1ne, mI_lt0, mI_eq0, mI_0lt, ib_nI, nI_1, zr1, zr2, nb_z, nb_m, nz_z, nz_m, jn_, jr_, nI_eq1, Classical.not_not, nI_b01, nI_b11, nb_a, nb_o, nb_n, nb_na, Nat.reduceLT, Nat.reducePow, Nat.reduceShiftRight, Nat.reduceAnd, Nat.reduceOr, wI_up, wL_up, cpI_up, cpL_up, up_eq, up_ne, up_up, up_comm, up2_up, up_2, up2_1, up2_eq, up2_ne, up2_up2, and_false, false_and, or_true, true_or, or_false, false_or, not_true_eq_false, xm1, and0, ud_eq, bOK_t, k_1000_p0, r23, r24, r27, r28, r29, r30, r32, h99, h98, hlt, hk]
theorem law_def (hI : Inv L xs μ) (k : Nat) (hk : ¬ k < 41) : evW 20 1000 (lawP k) [.ref 99, .ref 0, .ref 55, .int (nI i)] [] μ = runD 20 1000 18 [.ref 99, .ref 0, .ref 55, .int (nI (i + 6))] [] μ := by
  unfold lawP
  rw [if_neg hk]
  simp (maxSteps := 3000000) (disch := omega) only [evW_s, st_icN, st_icM, st_lconst, st_iload, st_aload, st_lload, st_istore, st_astore, st_lstore, st_iinc, st_iadd, st_isub, st_imul, st_iand, st_ior, st_ixor, st_ishl, st_ishr, st_iushr, st_idiv, st_irem, st_i2b, st_i2s, st_i2c, st_i2l, st_l2i, st_land, st_lor, st_lshl, st_lshr, st_lcmp, st_dup, st_dupa, st_dup2, st_pop, st_goto, st_ceq, st_cne, st_clt, st_cge, st_cgt, st_cle, st_zeq, st_zne, st_zlt, st_zge, st_zgt, st_zle, st_tsw, st_lsw, st_iaload, st_baload, st_caload, st_laload, st_aaload, st_iastore, st_bastore, st_lastore, st_alen, st_get, st_put, st_gets, st_ldc, st_v1, st_v2, st_v3, st_v4, st_v5, st_v6, st_s1, st_s2, st_s3, st_s4, st_cpy, st_iret, st_zret, st_bret, st_cret, st_lret, st_vret, ldI_, ldA_, ldL_, stB_0, stB_1, stB_s, notL_i, notL_r, notL_n, gfK_r, gfK_i, cont_v, cont_n, cont_ite, rcOK, tb_o, tb_k, tb_c, tb_n, tb_rd, tb_al, tb_ki, swT, swL, List.getD_cons_zero, List.getD_cons_succ, List.set_cons_zero, List.set_cons_succ, List.length_cons, List.length_nil, Nat.reduceAdd, Nat.reduceMul, Nat.reduceLeDiff, Nat.reduceDiv, Nat.reduceMod, Nat.reduceBEq, Nat.reduceEqDiff, Int.reduceToNat, Int.reduceAdd, Int64.reduceOfInt, Bool.true_and, Bool.and_true, Bool.and_self, Bool.false_and, Bool.and_false, Bool.false_eq_true, Bool.or_true, Bool.true_or, Bool.or_false, Bool.false_or, if_true, if_false, ↓reduceIte, ↓reduceDIte, true_and, and_true, and_self, Nat.le_refl, Nat.zero_le, beq_self_eq_true, loc0, tb_m, xp_0, xp_i, xp_r, xp_l, pad, ne_eq, not_false_eq_true, Nat.reduceSub, oiN, oiM, oN, List.toList_toArray, Nat.not_lt_zero, Nat.and_one_is_mod, sh1, shr_nI, fa_or, fa_and, fb_xorI, Nat.or_zero, Nat.lt_irrefl, nI_add, nI_mul, nI_sub, nI_clamp, nI_ltI, nI_eq, nI_eq0, nI_0eq, nI_lt0, nI_0lt, nI_ltM1, nI_M1lt, nI_neM1, nI_M1ne, mI_lt0, mI_eq0, mI_0lt, ib_nI, nI_1, zr1, zr2, nb_z, nb_m, nz_z, nz_m, jn_, jr_, nI_eq1, Classical.not_not, nI_b01, nI_b11, nb_a, nb_o, nb_n, nb_na, Nat.reduceLT, Nat.reducePow, Nat.reduceShiftRight, Nat.reduceAnd, Nat.reduceOr, wI_up, wL_up, cpI_up, cpL_up, up_eq, up_ne, up_up, up_comm, up2_up, up_2, up2_1, up2_eq, up2_ne, up2_up2, and_false, false_and, or_true, true_or, or_false, false_or, not_true_eq_false, xm1, and0, ud_eq, bOK_t, k_1000_p0, k_1000_p70, k_1000_p70]
end

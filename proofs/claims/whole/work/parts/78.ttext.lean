/-! 78.ttext: the call text -/
theorem negA {k : Nat} (h : k ≤ 120) : (mI 1 - nI k < 0) = True := by
  refine eq_true ((fa_lt _ _).mpr ?_)
  have e1 : (mI 1).toInt = -1 := by decide
  rw [fb_subI (by rw [e1, nI_toInt (by omega)]; omega) (by rw [e1, nI_toInt (by omega)]; omega), e1, nI_toInt (by omega)]
  show (-1 - (k : Int)) < 0
  omega
section
variable {L : Nat} {xs : Nat → Int32} {μ : sM}
/-- what holds when the tape is empty and nothing but rows for thinking has changed -/
theorem inv_txt (hI : Inv L xs μ) {M : sM} (h1 : ∀ k, ¬ okR k → k ≠ 55 → k ≠ 43 → M.1 k = μ.1 k) (h43 : M.1 43 1 = nI 0) (h14 : M.1 55 14 = nI 0) (h3 : M.1 55 3 = μ.1 55 3) (h5 : M.1 55 5 = μ.1 55 5) (h2 : M.2 = μ.2) (hS : RelS 1 M (M.1 56)) (hG : Gd (M.1 56)) : Inv L xs M := by
  obtain ⟨-, hK, hT, hP, hH, hN⟩ := hI
  obtain ⟨-, hrow⟩ := hP
  have hW : InvR L xs (up 43 (upd (μ.1 43) 1 (nI 0)) (up 55 (upd (μ.1 55) 14 (nI 0)) μ)) := by
    refine ⟨(hK.fr55 ?_).fr (by decide), (hT.fr55 ?_).fr (by decide), ⟨⟨0, by decide, ?_, ?_⟩, ?_⟩, (hH.fr (by decide)).fr (by decide), (hN.fr (by decide)).fr (by decide)⟩
    · rw [ud_ne (by decide)]
    · rw [ud_ne (by decide)]
    · simp (disch := omega) only [up_ne, up_eq, ud_eq]
    · simp (disch := omega) only [up_ne, up_eq, ud_eq]
    · simp (disch := omega) only [up_ne, up_eq, ud_eq]
      exact hrow
  refine ⟨⟨hS, hG⟩, hW.of (fun k q1 q2 q3 => ?_) ?_ ?_ ?_ ?_ ?_⟩
  · rw [up_ne q3, up_ne q2]; exact h1 k q1 q2 q3
  · rw [up_eq, ud_eq]; exact h43
  · rw [up_ne (by decide), up_eq, ud_ne (by decide)]; exact h3
  · rw [up_ne (by decide), up_eq, ud_ne (by decide)]; exact h5
  · rw [up_ne (by decide), up_eq, ud_eq]; exact h14
  · exact h2
theorem txt_B (hI : Inv L xs μ) : ∃ (B : Nat → Nat) (T : Nat), T ≤ 120 ∧ μ.1 43 1 = nI T ∧ μ.1 55 14 = nI T ∧ ∀ i, i < 120 → B i < 256 ∧ μ.1 65 i = nI (B i) ∧ μ.1 44 i = bC (B i) := by
  obtain ⟨hS, hK, hT', hP, hH, hN⟩ := hI
  obtain ⟨⟨T, hT, eT1, eT2⟩, hrow⟩ := hP
  refine ⟨fun i => (μ.1 65 i).toNatClampNeg, T, hT, eT1, eT2, fun i hi => ?_⟩
  obtain ⟨v, hv, e1, e2⟩ := hrow i hi
  have : (μ.1 65 i).toNatClampNeg = v := by rw [e1, nI_clamp (by omega)]
  dsimp only
  rw [this]
  exact ⟨hv, e1, e2⟩
theorem txt_c (hI : Inv L xs μ) {B : Nat → Nat} {T : Nat} (hT : T ≤ 120) (eT1 : μ.1 43 1 = nI T) (hB : ∀ i, i < 120 → B i < 256 ∧ μ.1 65 i = nI (B i) ∧ μ.1 44 i = bC (B i)) : ∃ M1 Mc, callD 19 300 [.ref 23, .ref 1] μ = some (none, M1) ∧ callD 19 0 [.ref 43, .ref 23] M1 = runD 18 0 11 [.ref 43, .ref 23, .int (nI 1)] [] Mc ∧ RelS 23 Mc (μ.1 56) ∧ TB B T Mc ∧ CT B T 0 (Mc.1 43) ∧ (∀ k, (k < 23 ∨ 33 < k) → k ≠ 43 → Mc.1 k = μ.1 k) ∧ Mc.2 = μ.2 := by
  obtain ⟨M1, hb1, hR1, hsame1, h21⟩ := c_become 17 1 23 (Or.inr (Or.inr (Or.inl ⟨rfl, rfl⟩))) μ
  have hR23 := hR1 _ hI.1.1
  obtain ⟨M2, hM2⟩ : ∃ M2, M2 = up 43 (upd (M1.1 43) 4 (nI 0)) M1 := ⟨_, rfl⟩
  have hTB2 : TB B T M2 := by
    rw [hM2]
    refine TB.up ⟨hT, fun i hi => (hB i hi).1, fun i hi => ?_⟩ (by decide)
    rw [hsame1 44 (by decide)]
    exact (hB i hi).2.2
  obtain ⟨fc, p1, u1⟩ := c_adv 16 T 0 B M2 hTB2 (Nat.zero_le T) (by rw [hM2, up_eq, ud_ne (by decide), hsame1 43 (by decide)]; exact eT1) (by rw [hM2, up_eq, ud_eq])
  obtain ⟨Mc, hMc⟩ : ∃ Mc, Mc = up 43 fc M2 := ⟨_, rfl⟩
  rw [← hMc] at p1
  refine ⟨M1, Mc, hb1, ?_, ?_, ?_, ?_, fun k k1 k2 => ?_, ?_⟩
  · rw [callD_e (Nat.le_of_ble_eq_true rfl), runD_evW]
    simp (maxSteps := 3000000) (disch := omega) only [evW_s, st_icN, st_icM, st_lconst, st_iload, st_aload, st_lload, st_istore, st_astore, st_lstore, st_iinc, st_iadd, st_isub, st_imul, st_iand, st_ior, st_ixor, st_ishl, st_ishr, st_iushr, st_idiv, st_irem, st_i2b, st_i2s, st_i2c, st_i2l, st_l2i, st_land, st_lor, st_lshl, st_lshr, st_lcmp, st_dup, st_dupa, st_dup2, st_pop, st_goto, st_ceq, st_cne, st_clt, st_cge, st_cgt, st_cle, st_zeq, st_zne, st_zlt, st_zge, st_zgt, st_zle, st_tsw, st_lsw, st_iaload, st_baload, st_caload, st_laload, st_aaload, st_iastore, st_bastore, st_lastore, st_alen, st_get, st_put, st_gets, st_ldc, st_v1, st_v2, st_v3, st_v4, st_v5, st_v6, st_s1, st_s2, st_s3, st_s4, st_cpy, st_iret, st_zret, st_bret, st_cret, st_lret, st_vret, ldI_, ldA_, ldL_, stB_0, stB_1, stB_s, notL_i, notL_r, notL_n, gfK_r, gfK_i, cont_v, cont_n, cont_ite, rcOK, tb_o, tb_k, tb_c, tb_n, tb_rd, tb_al, tb_ki, swT, swL, List.getD_cons_zero, List.getD_cons_succ, List.set_cons_zero, List.set_cons_succ, List.length_cons, List.length_nil, Nat.reduceAdd, Nat.reduceMul, Nat.reduceLeDiff, Nat.reduceDiv, Nat.reduceMod, Nat.reduceBEq, Nat.reduceEqDiff, Int.reduceToNat, Int.reduceAdd, Int64.reduceOfInt, Bool.true_and, Bool.and_true, Bool.and_self, Bool.false_and, Bool.and_false, Bool.false_eq_true, Bool.or_true, Bool.true_or, Bool.or_false, Bool.false_or, if_true, if_false, ↓reduceIte, ↓reduceDIte, true_and, and_true, and_self, Nat.le_refl, Nat.zero_le, beq_self_eq_true, loc0, tb_m, xp_0, xp_i, xp_r, xp_l, pad, ne_eq, not_false_eq_true, Nat.reduceSub, oiN, oiM, oN, List.toList_toArray, Nat.not_lt_zero, Nat.and_one_is_mod, sh1, shr_nI, fa_or, fa_and, fb_xorI, Nat.or_zero, Nat.lt_irrefl, nI_add, nI_mul, nI_sub, nI_clamp, nI_ltI, nI_eq, nI_eq0, nI_0eq, nI_lt0, nI_0lt, nI_ltM1, nI_M1lt, nI_neM1, nI_M1ne, mI_lt0, mI_eq0, mI_0lt, ib_nI, nI_1, zr1, zr2, nb_z, nb_m, nz_z, nz_m, jn_, jr_, nI_eq1, Classical.not_not, nI_b01, nI_b11, nb_a, nb_o, nb_n, nb_na, Nat.reduceLT, Nat.reducePow, Nat.reduceShiftRight, Nat.reduceAnd, Nat.reduceOr, wI_up, wL_up, cpI_up, cpL_up, up_eq, up_ne, up_up, up_comm, up2_up, up_2, up2_1, up2_eq, up2_ne, up2_up2, and_false, false_and, or_true, true_or, or_false, false_or, not_true_eq_false, xm1, and0, ud_eq, bOK_t, c_isWithin, m_in, c_isKind, c_isTrait, m_isTrait, c_isSheet, m_isSheet, c_tell1, c_tell2, c_tell3, c_tell4, c_tell6, c_tell7, m_finds1, m_finds2, m_finds3, m_finds4, m_finds6, m_finds7, c_max, c_min, m_within, k_0, ← hM2, p1]
  · rw [hMc, hM2]; exact (hR23.up (by decide)).up (by decide)
  · rw [hMc]; exact hTB2.up (by decide)
  · rw [hMc, up_eq]; exact u1
  · rw [hMc, hM2, up_ne k2, up_ne k2]; exact hsame1 k (by omega)
  · rw [hMc, hM2]; exact h21
theorem txt_r (hI : Inv L xs μ) {B : Nat → Nat} {T : Nat} (hT : T ≤ 120) (eT2 : μ.1 55 14 = nI T) (hB : ∀ i, i < 120 → B i < 256 ∧ μ.1 65 i = nI (B i) ∧ μ.1 44 i = bC (B i)) (N : sM) (hN' : ∀ k, (k = 55 ∨ k = 56 ∨ 58 ≤ k) → N.1 k = μ.1 k) : ∃ Mr, callD 20 774 [.ref 55] N = runD 19 774 29 [.ref 55, .int (nI (1 - 1)), .int (nI 1)] [] Mr ∧ Mr.1 56 = μ.1 56 ∧ TR B T Mr ∧ RT B T 0 (Mr.1 55) ∧ Mr.1 55 21 = nI 0 ∧ Mr.1 58 = fa_fill (μ.1 56) (μ.1 58) 162 ∧ (∀ i, (i < 17 ∨ 21 < i) → Mr.1 55 i = μ.1 55 i) ∧ (∀ k, k ≠ 55 → k ≠ 58 → Mr.1 k = N.1 k) ∧ Mr.2 = N.2 := by
  have hN := hI.2.2.2.2.2
  have n55 := hN' 55 (by decide)
  have n56 := hN' 56 (by decide)
  have n58 := hN' 58 (by decide)
  have g1 := fun μ => m_copyAll 18 56 58 (Or.inl ⟨rfl, rfl⟩) μ
  obtain ⟨N2, hN2⟩ : ∃ N2, N2 = up 55 (upd (upd (μ.1 55) 18 (nI 0)) 21 (nI 0)) (up 58 (fa_fill (μ.1 56) (μ.1 58) 162) N) := ⟨_, rfl⟩
  have hTR2 : TR B T N2 := by
    rw [hN2]
    refine TR.up (TR.up ?_ (by decide)) (by decide)
    refine ⟨hT, fun i hi => (hB i hi).1, fun i hi => ?_, ?_, ?_⟩
    · rw [hN' 65 (by decide)]; exact (hB i hi).2.1
    · rw [hN' 66 (by decide)]; exact hN.1
    · rw [hN' 67 (by decide)]; exact hN.2.1
  obtain ⟨fr, p2, u2, k2⟩ := m_nextT 16 T 0 B N2 hTR2 (Nat.zero_le T) (by rw [hN2, up_eq, ud_ne (by decide), ud_ne (by decide)]; exact eT2) (by rw [hN2, up_eq, ud_ne (by decide), ud_eq])
  refine ⟨up 55 fr N2, ?_, ?_, hTR2.up (by decide), by rw [up_eq]; exact u2, ?_, ?_, fun i hi => ?_, fun k q1 q2 => ?_, ?_⟩
  · rw [callD_e (Nat.le_of_ble_eq_true rfl), runD_evW]
    simp (maxSteps := 3000000) (disch := omega) only [evW_s, st_icN, st_icM, st_lconst, st_iload, st_aload, st_lload, st_istore, st_astore, st_lstore, st_iinc, st_iadd, st_isub, st_imul, st_iand, st_ior, st_ixor, st_ishl, st_ishr, st_iushr, st_idiv, st_irem, st_i2b, st_i2s, st_i2c, st_i2l, st_l2i, st_land, st_lor, st_lshl, st_lshr, st_lcmp, st_dup, st_dupa, st_dup2, st_pop, st_goto, st_ceq, st_cne, st_clt, st_cge, st_cgt, st_cle, st_zeq, st_zne, st_zlt, st_zge, st_zgt, st_zle, st_tsw, st_lsw, st_iaload, st_baload, st_caload, st_laload, st_aaload, st_iastore, st_bastore, st_lastore, st_alen, st_get, st_put, st_gets, st_ldc, st_v1, st_v2, st_v3, st_v4, st_v5, st_v6, st_s1, st_s2, st_s3, st_s4, st_cpy, st_iret, st_zret, st_bret, st_cret, st_lret, st_vret, ldI_, ldA_, ldL_, stB_0, stB_1, stB_s, notL_i, notL_r, notL_n, gfK_r, gfK_i, cont_v, cont_n, cont_ite, rcOK, tb_o, tb_k, tb_c, tb_n, tb_rd, tb_al, tb_ki, swT, swL, List.getD_cons_zero, List.getD_cons_succ, List.set_cons_zero, List.set_cons_succ, List.length_cons, List.length_nil, Nat.reduceAdd, Nat.reduceMul, Nat.reduceLeDiff, Nat.reduceDiv, Nat.reduceMod, Nat.reduceBEq, Nat.reduceEqDiff, Int.reduceToNat, Int.reduceAdd, Int64.reduceOfInt, Bool.true_and, Bool.and_true, Bool.and_self, Bool.false_and, Bool.and_false, Bool.false_eq_true, Bool.or_true, Bool.true_or, Bool.or_false, Bool.false_or, if_true, if_false, ↓reduceIte, ↓reduceDIte, true_and, and_true, and_self, Nat.le_refl, Nat.zero_le, beq_self_eq_true, loc0, tb_m, xp_0, xp_i, xp_r, xp_l, pad, ne_eq, not_false_eq_true, Nat.reduceSub, oiN, oiM, oN, List.toList_toArray, Nat.not_lt_zero, Nat.and_one_is_mod, sh1, shr_nI, fa_or, fa_and, fb_xorI, Nat.or_zero, Nat.lt_irrefl, nI_add, nI_mul, nI_sub, nI_clamp, nI_ltI, nI_eq, nI_eq0, nI_0eq, nI_lt0, nI_0lt, nI_ltM1, nI_M1lt, nI_neM1, nI_M1ne, mI_lt0, mI_eq0, mI_0lt, ib_nI, nI_1, zr1, zr2, nb_z, nb_m, nz_z, nz_m, jn_, jr_, nI_eq1, Classical.not_not, nI_b01, nI_b11, nb_a, nb_o, nb_n, nb_na, Nat.reduceLT, Nat.reducePow, Nat.reduceShiftRight, Nat.reduceAnd, Nat.reduceOr, wI_up, wL_up, cpI_up, cpL_up, up_eq, up_ne, up_up, up_comm, up2_up, up_2, up2_1, up2_eq, up2_ne, up2_up2, and_false, false_and, or_true, true_or, or_false, false_or, not_true_eq_false, xm1, and0, ud_eq, bOK_t, c_isWithin, m_in, c_isKind, c_isTrait, m_isTrait, c_isSheet, m_isSheet, c_tell1, c_tell2, c_tell3, c_tell4, c_tell6, c_tell7, m_finds1, m_finds2, m_finds3, m_finds4, m_finds6, m_finds7, c_max, c_min, m_within, k_774, g1, n55, n56, n58, bOK_0, ← hN2, p2]
  · rw [up_ne (by decide), hN2, up_ne (by decide), up_ne (by decide)]; exact n56
  · rw [up_eq, k2 21 (Or.inr (by decide)), hN2, up_eq, ud_eq]
  · rw [up_ne (by decide), hN2, up_ne (by decide), up_eq]
  · rw [up_eq, k2 i (by omega), hN2, up_eq, ud_ne (by omega), ud_ne (by omega)]
  · rw [up_ne q1, hN2, up_ne q1, up_ne q2]
  · show N2.2 = _
    rw [hN2]
    rfl
theorem inI {v v' : Int32} {a b : sM} (h : (some (some (Value.int v), a) : sR) = some (some (Value.int v'), b)) : v = v' ∧ a = b := by
  simp only [Option.some.injEq, Prod.mk.injEq, Value.int.injEq] at h
  exact h
theorem negN (st j : Nat) (h1 : st ≤ 120) (h2 : j ≤ 120) : mI 1 - nI st ≠ nI j := fun h => by
  have := of_eq_true (negA h1)
  rw [h] at this
  exact nI_pos (by omega) this
theorem m_endF (st : Nat) (v w : Int32) (M : sM) (s : Nat → Int32) (h21 : M.1 55 21 = nI 1) (h17 : M.1 55 17 = nI st) (hf : fa_fill (M.1 58) (M.1 56) 162 = s) : evW 19 774 106 [.ref 55, .int v, .int w] [] M = some (some (.int (mI 1 - nI st)), up 55 (upd (M.1 55) 14 (nI 0)) (up 56 s M)) := by
  have g2 := fun μ => m_copyAll 18 58 56 (Or.inr (Or.inl ⟨rfl, rfl⟩)) μ
  simp (maxSteps := 3000000) (disch := omega) only [evW_s, st_icN, st_icM, st_lconst, st_iload, st_aload, st_lload, st_istore, st_astore, st_lstore, st_iinc, st_iadd, st_isub, st_imul, st_iand, st_ior, st_ixor, st_ishl, st_ishr, st_iushr, st_idiv, st_irem, st_i2b, st_i2s, st_i2c, st_i2l, st_l2i, st_land, st_lor, st_lshl, st_lshr, st_lcmp, st_dup, st_dupa, st_dup2, st_pop, st_goto, st_ceq, st_cne, st_clt, st_cge, st_cgt, st_cle, st_zeq, st_zne, st_zlt, st_zge, st_zgt, st_zle, st_tsw, st_lsw, st_iaload, st_baload, st_caload, st_laload, st_aaload, st_iastore, st_bastore, st_lastore, st_alen, st_get, st_put, st_gets, st_ldc, st_v1, st_v2, st_v3, st_v4, st_v5, st_v6, st_s1, st_s2, st_s3, st_s4, st_cpy, st_iret, st_zret, st_bret, st_cret, st_lret, st_vret, ldI_, ldA_, ldL_, stB_0, stB_1, stB_s, notL_i, notL_r, notL_n, gfK_r, gfK_i, cont_v, cont_n, cont_ite, rcOK, tb_o, tb_k, tb_c, tb_n, tb_rd, tb_al, tb_ki, swT, swL, List.getD_cons_zero, List.getD_cons_succ, List.set_cons_zero, List.set_cons_succ, List.length_cons, List.length_nil, Nat.reduceAdd, Nat.reduceMul, Nat.reduceLeDiff, Nat.reduceDiv, Nat.reduceMod, Nat.reduceBEq, Nat.reduceEqDiff, Int.reduceToNat, Int.reduceAdd, Int64.reduceOfInt, Bool.true_and, Bool.and_true, Bool.and_self, Bool.false_and, Bool.and_false, Bool.false_eq_true, Bool.or_true, Bool.true_or, Bool.or_false, Bool.false_or, if_true, if_false, ↓reduceIte, ↓reduceDIte, true_and, and_true, and_self, Nat.le_refl, Nat.zero_le, beq_self_eq_true, loc0, tb_m, xp_0, xp_i, xp_r, xp_l, pad, ne_eq, not_false_eq_true, Nat.reduceSub, oiN, oiM, oN, List.toList_toArray, Nat.not_lt_zero, Nat.and_one_is_mod, sh1, shr_nI, fa_or, fa_and, fb_xorI, Nat.or_zero, Nat.lt_irrefl, nI_add, nI_mul, nI_sub, nI_clamp, nI_ltI, nI_eq, nI_eq0, nI_0eq, nI_lt0, nI_0lt, nI_ltM1, nI_M1lt, nI_neM1, nI_M1ne, mI_lt0, mI_eq0, mI_0lt, ib_nI, nI_1, zr1, zr2, nb_z, nb_m, nz_z, nz_m, jn_, jr_, nI_eq1, Classical.not_not, nI_b01, nI_b11, nb_a, nb_o, nb_n, nb_na, Nat.reduceLT, Nat.reducePow, Nat.reduceShiftRight, Nat.reduceAnd, Nat.reduceOr, wI_up, wL_up, cpI_up, cpL_up, up_eq, up_ne, up_up, up_comm, up2_up, up_2, up2_1, up2_eq, up2_ne, up2_up2, and_false, false_and, or_true, true_or, or_false, false_or, not_true_eq_false, xm1, and0, ud_eq, bOK_t, kr_774_106, kr_774_107, kr_774_108, kr_774_111, kr_774_112, kr_774_115, kr_774_118, kr_774_119, kr_774_122, kr_774_123, kr_774_126, kr_774_129, kr_774_130, kr_774_131, kr_774_134, kr_774_135, kr_774_136, kr_774_137, h21, h17, ud_ne, g2, hf]
theorem m_endO (v w : Int32) (M : sM) (h21 : M.1 55 21 = nI 0) : evW 19 774 106 [.ref 55, .int v, .int w] [] M = some (some (.int v), up 55 (upd (M.1 55) 14 (nI 0)) M) := by
  simp (maxSteps := 3000000) (disch := omega) only [evW_s, st_icN, st_icM, st_lconst, st_iload, st_aload, st_lload, st_istore, st_astore, st_lstore, st_iinc, st_iadd, st_isub, st_imul, st_iand, st_ior, st_ixor, st_ishl, st_ishr, st_iushr, st_idiv, st_irem, st_i2b, st_i2s, st_i2c, st_i2l, st_l2i, st_land, st_lor, st_lshl, st_lshr, st_lcmp, st_dup, st_dupa, st_dup2, st_pop, st_goto, st_ceq, st_cne, st_clt, st_cge, st_cgt, st_cle, st_zeq, st_zne, st_zlt, st_zge, st_zgt, st_zle, st_tsw, st_lsw, st_iaload, st_baload, st_caload, st_laload, st_aaload, st_iastore, st_bastore, st_lastore, st_alen, st_get, st_put, st_gets, st_ldc, st_v1, st_v2, st_v3, st_v4, st_v5, st_v6, st_s1, st_s2, st_s3, st_s4, st_cpy, st_iret, st_zret, st_bret, st_cret, st_lret, st_vret, ldI_, ldA_, ldL_, stB_0, stB_1, stB_s, notL_i, notL_r, notL_n, gfK_r, gfK_i, cont_v, cont_n, cont_ite, rcOK, tb_o, tb_k, tb_c, tb_n, tb_rd, tb_al, tb_ki, swT, swL, List.getD_cons_zero, List.getD_cons_succ, List.set_cons_zero, List.set_cons_succ, List.length_cons, List.length_nil, Nat.reduceAdd, Nat.reduceMul, Nat.reduceLeDiff, Nat.reduceDiv, Nat.reduceMod, Nat.reduceBEq, Nat.reduceEqDiff, Int.reduceToNat, Int.reduceAdd, Int64.reduceOfInt, Bool.true_and, Bool.and_true, Bool.and_self, Bool.false_and, Bool.and_false, Bool.false_eq_true, Bool.or_true, Bool.true_or, Bool.or_false, Bool.false_or, if_true, if_false, ↓reduceIte, ↓reduceDIte, true_and, and_true, and_self, Nat.le_refl, Nat.zero_le, beq_self_eq_true, loc0, tb_m, xp_0, xp_i, xp_r, xp_l, pad, ne_eq, not_false_eq_true, Nat.reduceSub, oiN, oiM, oN, List.toList_toArray, Nat.not_lt_zero, Nat.and_one_is_mod, sh1, shr_nI, fa_or, fa_and, fb_xorI, Nat.or_zero, Nat.lt_irrefl, nI_add, nI_mul, nI_sub, nI_clamp, nI_ltI, nI_eq, nI_eq0, nI_0eq, nI_lt0, nI_0lt, nI_ltM1, nI_M1lt, nI_neM1, nI_M1ne, mI_lt0, mI_eq0, mI_0lt, ib_nI, nI_1, zr1, zr2, nb_z, nb_m, nz_z, nz_m, jn_, jr_, nI_eq1, Classical.not_not, nI_b01, nI_b11, nb_a, nb_o, nb_n, nb_na, Nat.reduceLT, Nat.reducePow, Nat.reduceShiftRight, Nat.reduceAnd, Nat.reduceOr, wI_up, wL_up, cpI_up, cpL_up, up_eq, up_ne, up_up, up_comm, up2_up, up_2, up2_1, up2_eq, up2_ne, up2_up2, and_false, false_and, or_true, true_or, or_false, false_or, not_true_eq_false, xm1, and0, ud_eq, bOK_t, kr_774_106, kr_774_107, kr_774_108, kr_774_111, kr_774_112, kr_774_115, kr_774_118, kr_774_119, kr_774_122, kr_774_123, kr_774_126, kr_774_129, kr_774_130, kr_774_131, kr_774_134, kr_774_135, kr_774_136, kr_774_137, h21, ud_ne]
theorem c_endF (A : Int32) (M1 M : sM) (hb : callD 19 300 [.ref 23, .ref 1] μ = some (none, M1)) (ht : callD 19 0 [.ref 43, .ref 23] M1 = some (some (.int A), M)) (hA : (A < 0) = True) : callD 20 630 [.ref 0] μ = some (some (.int A), up 43 (upd (M.1 43) 1 (nI 0)) M) := by
  rw [callD_e (Nat.le_of_ble_eq_true rfl), runD_evW]
  simp (maxSteps := 3000000) (disch := omega) only [evW_s, st_icN, st_icM, st_lconst, st_iload, st_aload, st_lload, st_istore, st_astore, st_lstore, st_iinc, st_iadd, st_isub, st_imul, st_iand, st_ior, st_ixor, st_ishl, st_ishr, st_iushr, st_idiv, st_irem, st_i2b, st_i2s, st_i2c, st_i2l, st_l2i, st_land, st_lor, st_lshl, st_lshr, st_lcmp, st_dup, st_dupa, st_dup2, st_pop, st_goto, st_ceq, st_cne, st_clt, st_cge, st_cgt, st_cle, st_zeq, st_zne, st_zlt, st_zge, st_zgt, st_zle, st_tsw, st_lsw, st_iaload, st_baload, st_caload, st_laload, st_aaload, st_iastore, st_bastore, st_lastore, st_alen, st_get, st_put, st_gets, st_ldc, st_v1, st_v2, st_v3, st_v4, st_v5, st_v6, st_s1, st_s2, st_s3, st_s4, st_cpy, st_iret, st_zret, st_bret, st_cret, st_lret, st_vret, ldI_, ldA_, ldL_, stB_0, stB_1, stB_s, notL_i, notL_r, notL_n, gfK_r, gfK_i, cont_v, cont_n, cont_ite, rcOK, tb_o, tb_k, tb_c, tb_n, tb_rd, tb_al, tb_ki, swT, swL, List.getD_cons_zero, List.getD_cons_succ, List.set_cons_zero, List.set_cons_succ, List.length_cons, List.length_nil, Nat.reduceAdd, Nat.reduceMul, Nat.reduceLeDiff, Nat.reduceDiv, Nat.reduceMod, Nat.reduceBEq, Nat.reduceEqDiff, Int.reduceToNat, Int.reduceAdd, Int64.reduceOfInt, Bool.true_and, Bool.and_true, Bool.and_self, Bool.false_and, Bool.and_false, Bool.false_eq_true, Bool.or_true, Bool.true_or, Bool.or_false, Bool.false_or, if_true, if_false, ↓reduceIte, ↓reduceDIte, true_and, and_true, and_self, Nat.le_refl, Nat.zero_le, beq_self_eq_true, loc0, tb_m, xp_0, xp_i, xp_r, xp_l, pad, ne_eq, not_false_eq_true, Nat.reduceSub, oiN, oiM, oN, List.toList_toArray, Nat.not_lt_zero, Nat.and_one_is_mod, sh1, shr_nI, fa_or, fa_and, fb_xorI, Nat.or_zero, Nat.lt_irrefl, nI_add, nI_mul, nI_sub, nI_clamp, nI_ltI, nI_eq, nI_eq0, nI_0eq, nI_lt0, nI_0lt, nI_ltM1, nI_M1lt, nI_neM1, nI_M1ne, mI_lt0, mI_eq0, mI_0lt, ib_nI, nI_1, zr1, zr2, nb_z, nb_m, nz_z, nz_m, jn_, jr_, nI_eq1, Classical.not_not, nI_b01, nI_b11, nb_a, nb_o, nb_n, nb_na, Nat.reduceLT, Nat.reducePow, Nat.reduceShiftRight, Nat.reduceAnd, Nat.reduceOr, wI_up, wL_up, cpI_up, cpL_up, up_eq, up_ne, up_up, up_comm, up2_up, up_2, up2_1, up2_eq, up2_ne, up2_up2, and_false, false_and, or_true, true_or, or_false, false_or, not_true_eq_false, xm1, and0, ud_eq, bOK_t, c_isWithin, m_in, c_isKind, c_isTrait, m_isTrait, c_isSheet, m_isSheet, c_tell1, c_tell2, c_tell3, c_tell4, c_tell6, c_tell7, m_finds1, m_finds2, m_finds3, m_finds4, m_finds6, m_finds7, c_max, c_min, m_within, k_630, hb, ht, hA]
theorem c_endO (j : Nat) (hj : j ≤ 120) (M1 M M5 : sM) (hb : callD 19 300 [.ref 23, .ref 1] μ = some (none, M1)) (ht : callD 19 0 [.ref 43, .ref 23] M1 = some (some (.int (nI j)), M)) (h5 : callD 19 300 [.ref 1, .ref 23] M = some (none, M5)) : callD 20 630 [.ref 0] μ = some (some (.int (nI j)), up 43 (upd (M5.1 43) 1 (nI 0)) M5) := by
  rw [callD_e (Nat.le_of_ble_eq_true rfl), runD_evW]
  simp (maxSteps := 3000000) (disch := omega) only [evW_s, st_icN, st_icM, st_lconst, st_iload, st_aload, st_lload, st_istore, st_astore, st_lstore, st_iinc, st_iadd, st_isub, st_imul, st_iand, st_ior, st_ixor, st_ishl, st_ishr, st_iushr, st_idiv, st_irem, st_i2b, st_i2s, st_i2c, st_i2l, st_l2i, st_land, st_lor, st_lshl, st_lshr, st_lcmp, st_dup, st_dupa, st_dup2, st_pop, st_goto, st_ceq, st_cne, st_clt, st_cge, st_cgt, st_cle, st_zeq, st_zne, st_zlt, st_zge, st_zgt, st_zle, st_tsw, st_lsw, st_iaload, st_baload, st_caload, st_laload, st_aaload, st_iastore, st_bastore, st_lastore, st_alen, st_get, st_put, st_gets, st_ldc, st_v1, st_v2, st_v3, st_v4, st_v5, st_v6, st_s1, st_s2, st_s3, st_s4, st_cpy, st_iret, st_zret, st_bret, st_cret, st_lret, st_vret, ldI_, ldA_, ldL_, stB_0, stB_1, stB_s, notL_i, notL_r, notL_n, gfK_r, gfK_i, cont_v, cont_n, cont_ite, rcOK, tb_o, tb_k, tb_c, tb_n, tb_rd, tb_al, tb_ki, swT, swL, List.getD_cons_zero, List.getD_cons_succ, List.set_cons_zero, List.set_cons_succ, List.length_cons, List.length_nil, Nat.reduceAdd, Nat.reduceMul, Nat.reduceLeDiff, Nat.reduceDiv, Nat.reduceMod, Nat.reduceBEq, Nat.reduceEqDiff, Int.reduceToNat, Int.reduceAdd, Int64.reduceOfInt, Bool.true_and, Bool.and_true, Bool.and_self, Bool.false_and, Bool.and_false, Bool.false_eq_true, Bool.or_true, Bool.true_or, Bool.or_false, Bool.false_or, if_true, if_false, ↓reduceIte, ↓reduceDIte, true_and, and_true, and_self, Nat.le_refl, Nat.zero_le, beq_self_eq_true, loc0, tb_m, xp_0, xp_i, xp_r, xp_l, pad, ne_eq, not_false_eq_true, Nat.reduceSub, oiN, oiM, oN, List.toList_toArray, Nat.not_lt_zero, Nat.and_one_is_mod, sh1, shr_nI, fa_or, fa_and, fb_xorI, Nat.or_zero, Nat.lt_irrefl, nI_add, nI_mul, nI_sub, nI_clamp, nI_ltI, nI_eq, nI_eq0, nI_0eq, nI_lt0, nI_0lt, nI_ltM1, nI_M1lt, nI_neM1, nI_M1ne, mI_lt0, mI_eq0, mI_0lt, ib_nI, nI_1, zr1, zr2, nb_z, nb_m, nz_z, nz_m, jn_, jr_, nI_eq1, Classical.not_not, nI_b01, nI_b11, nb_a, nb_o, nb_n, nb_na, Nat.reduceLT, Nat.reducePow, Nat.reduceShiftRight, Nat.reduceAnd, Nat.reduceOr, wI_up, wL_up, cpI_up, cpL_up, up_eq, up_ne, up_up, up_comm, up2_up, up_2, up2_1, up2_eq, up2_ne, up2_up2, and_false, false_and, or_true, true_or, or_false, false_or, not_true_eq_false, xm1, and0, ud_eq, bOK_t, c_isWithin, m_in, c_isKind, c_isTrait, m_isTrait, c_isSheet, m_isSheet, c_tell1, c_tell2, c_tell3, c_tell4, c_tell6, c_tell7, m_finds1, m_finds2, m_finds3, m_finds4, m_finds6, m_finds7, c_max, c_min, m_within, k_630, hb, ht, h5]
theorem t_text (hI : Inv L xs μ) : Ok2 L xs (callD 20 630 [.ref 0] μ) (fun μ1 => callD 20 774 [.ref 55] μ1) := by
  have hS := hI.1
  obtain ⟨B, T, hT, eT1, eT2, hB⟩ := txt_B hI
  obtain ⟨M1, Mc, hb1, tel0, hRc, hTBc, hCTc, kc, kc2⟩ := txt_c hI hT eT1 hB
  have ref := txt_r hI hT eT2 hB
  obtain ⟨Mr0, hr0, q1, q2, q3, q4, q5, q6, q7, q8⟩ := ref μ (fun _ _ => rfl)
  have hb := both (B := B) (T := T) (T + 1) 1 0 (μ.1 56) Mc Mr0 (by omega) (Nat.zero_le T) (by decide) (by decide) hS.2 hRc hTBc hCTc q1 q2 q3 q4
  rw [← tel0] at hb
  rcases hb with ⟨e1, Mc', Mr', v, w, y0, y1, y2, -⟩ | ⟨j, s1, e1, Mc', Mr', w, y0, y0', y1, y2, y3, y4, y5, -⟩
  · -- a fault
    have hst := (tkS_spec (B := B) y0).2.1
    have hcl := c_endF _ M1 Mc' hb1 y1 (negA (show tkS B T e1 ≤ 120 by omega))
    obtain ⟨N, hN'⟩ : ∃ N, N = up 43 (upd (Mc'.1 43) 1 (nI 0)) Mc' := ⟨_, rfl⟩
    rw [← hN'] at hcl
    have kN : ∀ k, (k < 23 ∨ 33 < k) → k ≠ 43 → N.1 k = μ.1 k := fun k k1 k2 => by rw [hN', up_ne k2, y2.1 k k1 k2]; exact kc k k1 k2
    rw [hcl]
    refine Ok2_i ?_
    obtain ⟨Mr1, hr1, s1, s2, s3, s4, s5, s6, s7, s8⟩ := ref N (fun k hk => kN k (by omega) (by omega))
    have hb2 := both (B := B) (T := T) (T + 1) 1 0 (μ.1 56) Mc Mr1 (by omega) (Nat.zero_le T) (by decide) (by decide) hS.2 hRc hTBc hCTc s1 s2 s3 s4
    rw [← tel0, y1, ← hr1] at hb2
    rcases hb2 with ⟨e2, Mc2, Mr2, v2, w2, z0, z1, z2, z3, z4, z5, z6, z7⟩ | ⟨j, s9, e2, Mc2, Mr2, w2, z0, z0', z1, -⟩
    · obtain ⟨i1, -⟩ := inI z1
      have f58 : Mr2.1 58 = fa_fill (μ.1 56) (μ.1 58) 162 := (z7.1 58 (by decide) (by decide)).trans s5
      have fb : fa_fill (Mr2.1 58) (Mr2.1 56) 162 = μ.1 56 := by rw [f58]; exact fill_t (fun i hi => by rw [z6 i hi, s1])
      rw [m_endF _ v2 w2 Mr2 _ z4 z5 fb] at z3
      rw [z3]
      refine Ok1_i i1.symm (inv_txt hI (fun k k1 k2 k3 => ?_) ?_ ?_ ?_ ?_ ?_ ?_ ?_)
      · unfold okR at k1
        rw [up_ne k2, up_ne (by omega), z7.1 k k2 (by omega), s7 k k2 (by omega)]
        exact kN k (by omega) k3
      · rw [up_ne (by decide), up_ne (by decide), z7.1 43 (by decide) (by decide), s7 43 (by decide) (by decide), hN', up_eq, ud_eq]
      · rw [up_eq, ud_eq]
      · rw [up_eq, ud_ne (by decide), z7.2.1 3 (Or.inl (by decide)), s6 3 (Or.inl (by decide))]
      · rw [up_eq, ud_ne (by decide), z7.2.1 5 (Or.inl (by decide)), s6 5 (Or.inl (by decide))]
      · show Mr2.2 = _
        rw [z7.2.2, s8, hN']
        exact y2.2.trans kc2
      · rw [up_ne (by decide), up_eq]
        refine hS.1.same (fun j hj => ?_)
        rw [up_ne (by omega), up_ne (by omega), z7.1 _ (by omega) (by omega), s7 _ (by omega) (by omega)]
        exact kN _ (by omega) (by omega)
      · rw [up_ne (by decide), up_eq]; exact hS.2
    · obtain ⟨i1, -⟩ := inI z1
      exact absurd i1 (negN _ _ (by omega) z0)
  · -- it is a text
    obtain ⟨M5, hb5, hR5, hsame5, h25⟩ := c_become 17 23 1 (Or.inr (Or.inr (Or.inr ⟨rfl, rfl⟩))) Mc'
    have hcl := c_endO j y0 M1 Mc' M5 hb1 y1 hb5
    obtain ⟨N, hN'⟩ : ∃ N, N = up 43 (upd (M5.1 43) 1 (nI 0)) M5 := ⟨_, rfl⟩
    rw [← hN'] at hcl
    have kN : ∀ k, (k < 1 ∨ (11 < k ∧ k < 23) ∨ 33 < k) → k ≠ 43 → N.1 k = μ.1 k := fun k k1 k2 => by rw [hN', up_ne k2, hsame5 k (by omega), y5.1 k (by omega) k2]; exact kc k (by omega) k2
    rw [hcl]
    refine Ok2_i ?_
    obtain ⟨Mr1, hr1, s1', s2, s3, s4, s5, s6, s7, s8⟩ := ref N (fun k hk => kN k (by omega) (by omega))
    have hb2 := both (B := B) (T := T) (T + 1) 1 0 (μ.1 56) Mc Mr1 (by omega) (Nat.zero_le T) (by decide) (by decide) hS.2 hRc hTBc hCTc s1' s2 s3 s4
    rw [← tel0, y1, ← hr1] at hb2
    rcases hb2 with ⟨e2, Mc2, Mr2, v2, w2, z0, z1, -⟩ | ⟨j2, s9, e2, Mc2, Mr2, w2, z0, z0', z1, z2, z3, z4, z5, z6, z7, z8, z9⟩
    · obtain ⟨i1, -⟩ := inI z1
      have hst := (tkS_spec (B := B) z0).2.1
      exact absurd i1.symm (negN _ _ (by omega) y0)
    · obtain ⟨i1, rfl⟩ := inI z1
      rw [m_endO _ w2 Mr2 z7] at z6
      rw [z6]
      refine Ok1_i i1.symm (inv_txt hI (fun k k1 k2 k3 => ?_) ?_ ?_ ?_ ?_ ?_ ?_ ?_)
      · unfold okR at k1
        rw [up_ne k2, z9.1 k k2 (by omega), s7 k k2 (by omega)]
        exact kN k (by omega) k3
      · rw [up_ne (by decide), z9.1 43 (by decide) (by decide), s7 43 (by decide) (by decide), hN', up_eq, ud_eq]
      · rw [up_eq, ud_eq]
      · rw [up_eq, ud_ne (by decide), z9.2.1 3 (Or.inl (by decide)), s6 3 (Or.inl (by decide))]
      · rw [up_eq, ud_ne (by decide), z9.2.1 5 (Or.inl (by decide)), s6 5 (Or.inl (by decide))]
      · show Mr2.2 = _
        rw [z9.2.2, s8, hN']
        show M5.2 = _
        rw [h25]
        exact y5.2.trans kc2
      · rw [up_ne (by decide), z8]
        have := hR5 s9 z2
        refine this.same (fun j hj => ?_)
        rw [up_ne (by omega), z9.1 _ (by omega) (by omega), s7 _ (by omega) (by omega), hN', up_ne (by omega)]
      · rw [up_ne (by decide), z8]; exact z3
end

/-! 23.set: how many, the lowest, the best of a set -/
theorem nx_cnt : ∀ j : Fin 32, (UInt32.ofNat j.val &&& Int32.toUInt32 31).toNat % 32 = j.val := by decide +kernel
theorem nx_ush {k j : Nat} (hk : k < 65536) (hj : j < 32) : ((nI k).toUInt32 >>> ((nI j).toUInt32 &&& Int32.toUInt32 31)).toInt32 = nI (k >>> j) := by
  have hs : k >>> j ≤ k := by
    rw [Nat.shiftRight_eq_div_pow]
    exact Nat.div_le_self _ _
  have e2 : UInt32.ofNat k >>> (UInt32.ofNat j &&& Int32.toUInt32 31) = UInt32.ofNat (k >>> j) := by
    apply UInt32.toNat_inj.1
    have h1 : (UInt32.ofNat k).toNat = k := Nat.mod_eq_of_lt (by omega)
    have h2 : (UInt32.ofNat (k >>> j)).toNat = k >>> j := Nat.mod_eq_of_lt (by omega)
    rw [UInt32.toNat_shiftRight, nx_cnt ⟨j, hj⟩, h1, h2]
  show (UInt32.ofNat k >>> (UInt32.ofNat j &&& Int32.toUInt32 31)).toInt32 = _
  rw [e2]
  rfl
def pop (x : Nat) : Nat := fb_ct (fun j => x.testBit j) 12
theorem pop_dec : ∀ x, x < 4096 → x ≠ 0 → pop (x &&& (x - 1)) + 1 = pop x := all4096 (P := fun x => x ≠ 0 → pop (x &&& (x - 1)) + 1 = pop x) (by decide +kernel)
theorem pop_0 : pop 0 = 0 := by decide
theorem pop_le (x : Nat) : pop x ≤ 12 := fb_ct_le _ 12
def bcI (v : Int32) : Int32 :=
  let a := v - (((v.toUInt32 >>> ((1 : Int32).toUInt32 &&& Int32.toUInt32 31)).toInt32) &&& 1431655765)
  let b := (a &&& 858993459) + (((a.toUInt32 >>> ((2 : Int32).toUInt32 &&& Int32.toUInt32 31)).toInt32) &&& 858993459)
  let c := (b + (b.toUInt32 >>> ((4 : Int32).toUInt32 &&& Int32.toUInt32 31)).toInt32) &&& 252645135
  let e := c + (c.toUInt32 >>> ((8 : Int32).toUInt32 &&& Int32.toUInt32 31)).toInt32
  let f := e + (e.toUInt32 >>> ((16 : Int32).toUInt32 &&& Int32.toUInt32 31)).toInt32
  f &&& 63
theorem c_bc (d : Nat) (v : Int32) (μ : sM) : callD (d + 1) 901 [.int v] μ = some (some (.int (bcI v)), μ) := by
  rw [callD_e (Nat.le_of_ble_eq_true rfl), runD_evW]
  simp only [evW_s, evS_s, st_iconst, st_lconst, st_iload, st_aload, st_lload, st_istore, st_astore, st_lstore, st_iinc, st_iadd, st_isub, st_imul, st_iand, st_ior, st_ixor, st_ishl, st_ishr, st_iushr, st_idiv, st_irem, st_i2b, st_i2s, st_i2c, st_i2l, st_l2i, st_land, st_lor, st_lshl, st_lshr, st_lcmp, st_dup, st_dupa, st_dup2, st_pop, st_goto, st_ceq, st_cne, st_clt, st_cge, st_cgt, st_cle, st_zeq, st_zne, st_zlt, st_zge, st_zgt, st_zle, st_tsw, st_lsw, st_iaload, st_baload, st_caload, st_laload, st_aaload, st_iastore, st_bastore, st_lastore, st_alen, st_get, st_put, st_gets, st_ldc, st_v1, st_v2, st_v3, st_v4, st_v5, st_v6, st_s1, st_s2, st_s3, st_s4, st_cpy, st_iret, st_zret, st_bret, st_cret, st_lret, st_vret, ldI_, ldA_, ldL_, stB_0, stB_1, stB_s, notL_i, notL_r, notL_n, gfK_r, gfK_i, cont_v, cont_n, cont_ite, rcOK, tb_o, tb_k, tb_c, tb_n, tb_rd, tb_al, tb_ki, swT, swL, List.getD_cons_zero, List.getD_cons_succ, List.set_cons_zero, List.set_cons_succ, List.length_cons, List.length_nil, Nat.reduceAdd, Nat.reduceMul, Nat.reduceLeDiff, Nat.reduceDiv, Nat.reduceMod, Nat.reduceBEq, Nat.reduceEqDiff, Int.reduceToNat, Int.reduceAdd, Int32.reduceOfInt, Int64.reduceOfInt, Bool.true_and, Bool.and_true, Bool.and_self, Bool.false_and, Bool.and_false, Bool.false_eq_true, Bool.or_true, Bool.true_or, Bool.or_false, Bool.false_or, if_true, if_false, ↓reduceIte, ↓reduceDIte, true_and, and_true, and_self, Nat.le_refl, Nat.zero_le, beq_self_eq_true, loc0, tb_m, xp_0, xp_i, xp_r, xp_l, pad, ne_eq, not_false_eq_true, Nat.reduceSub, k_901]
  rfl
theorem bcI_pop : ∀ x, x < 4096 → bcI (nI x) = nI (pop x) := all4096 (P := fun x => bcI (nI x) = nI (pop x)) (by decide +kernel)
theorem c_bitCount (d x : Nat) (hx : x < 4096) (μ : sM) : callD (d + 1) 901 [.int (nI x)] μ = some (some (.int (nI (pop x))), μ) := by rw [c_bc, bcI_pop x hx]
theorem m_bitsOf (d x : Nat) (hx : x < 4096) (μ : sM) : callD (d + 1) 711 [.int (nI x)] μ = some (some (.int (nI (pop x))), μ) := by
  rw [callD_e (Nat.le_of_ble_eq_true rfl), runD_evW]
  simp (maxSteps := 3000000) (disch := omega) only [evW_s, st_icN, st_icM, st_lconst, st_iload, st_aload, st_lload, st_istore, st_astore, st_lstore, st_iinc, st_iadd, st_isub, st_imul, st_iand, st_ior, st_ixor, st_ishl, st_ishr, st_iushr, st_idiv, st_irem, st_i2b, st_i2s, st_i2c, st_i2l, st_l2i, st_land, st_lor, st_lshl, st_lshr, st_lcmp, st_dup, st_dupa, st_dup2, st_pop, st_goto, st_ceq, st_cne, st_clt, st_cge, st_cgt, st_cle, st_zeq, st_zne, st_zlt, st_zge, st_zgt, st_zle, st_tsw, st_lsw, st_iaload, st_baload, st_caload, st_laload, st_aaload, st_iastore, st_bastore, st_lastore, st_alen, st_get, st_put, st_gets, st_ldc, st_v1, st_v2, st_v3, st_v4, st_v5, st_v6, st_s1, st_s2, st_s3, st_s4, st_cpy, st_iret, st_zret, st_bret, st_cret, st_lret, st_vret, ldI_, ldA_, ldL_, stB_0, stB_1, stB_s, notL_i, notL_r, notL_n, gfK_r, gfK_i, cont_v, cont_n, cont_ite, rcOK, tb_o, tb_k, tb_c, tb_n, tb_rd, tb_al, tb_ki, swT, swL, List.getD_cons_zero, List.getD_cons_succ, List.set_cons_zero, List.set_cons_succ, List.length_cons, List.length_nil, Nat.reduceAdd, Nat.reduceMul, Nat.reduceLeDiff, Nat.reduceDiv, Nat.reduceMod, Nat.reduceBEq, Nat.reduceEqDiff, Int.reduceToNat, Int.reduceAdd, Int64.reduceOfInt, Bool.true_and, Bool.and_true, Bool.and_self, Bool.false_and, Bool.and_false, Bool.false_eq_true, Bool.or_true, Bool.true_or, Bool.or_false, Bool.false_or, if_true, if_false, ↓reduceIte, ↓reduceDIte, true_and, and_true, and_self, Nat.le_refl, Nat.zero_le, beq_self_eq_true, loc0, tb_m, xp_0, xp_i, xp_r, xp_l, pad, ne_eq, not_false_eq_true, Nat.reduceSub, oiN, oiM, oN, List.toList_toArray, Nat.not_lt_zero, Nat.and_one_is_mod, sh1, shr_nI, fa_or, fa_and, fb_xorI, Nat.or_zero, Nat.lt_irrefl, nI_add, nI_mul, nI_sub, nI_clamp, nI_ltI, nI_eq, nI_eq0, nI_0eq, nI_lt0, nI_0lt, nI_ltM1, nI_M1lt, nI_neM1, nI_M1ne, mI_lt0, mI_eq0, mI_0lt, ib_nI, nI_1, zr1, zr2, nb_z, nb_m, nz_z, nz_m, jn_, jr_, nI_eq1, Classical.not_not, nI_b01, nI_b11, nb_a, nb_o, nb_n, nb_na, Nat.reduceLT, Nat.reducePow, Nat.reduceShiftRight, Nat.reduceAnd, Nat.reduceOr, wI_up, wL_up, cpI_up, cpL_up, up_eq, up_ne, up_up, up_comm, up2_up, up_2, up2_1, up2_eq, up2_ne, up2_up2, and_false, false_and, or_true, true_or, or_false, false_or, not_true_eq_false, k_711]
  have key : ∀ k y, pop y = k → y < 4096 → ∀ acc, runD d 711 4 [.int (nI x), .int (nI acc), .int (nI y)] [] μ = some (some (.int (nI (acc + pop y))), μ) := by
    intro k
    induction k with
    | zero =>
      intro y hy hl acc
      have : y = 0 := by
        rcases Nat.eq_zero_or_pos y with q | q
        · exact q
        · have := pop_dec y hl (by omega)
          omega
      subst this
      rw [runD_evW]
      simp (maxSteps := 3000000) (disch := omega) only [evW_s, st_icN, st_icM, st_lconst, st_iload, st_aload, st_lload, st_istore, st_astore, st_lstore, st_iinc, st_iadd, st_isub, st_imul, st_iand, st_ior, st_ixor, st_ishl, st_ishr, st_iushr, st_idiv, st_irem, st_i2b, st_i2s, st_i2c, st_i2l, st_l2i, st_land, st_lor, st_lshl, st_lshr, st_lcmp, st_dup, st_dupa, st_dup2, st_pop, st_goto, st_ceq, st_cne, st_clt, st_cge, st_cgt, st_cle, st_zeq, st_zne, st_zlt, st_zge, st_zgt, st_zle, st_tsw, st_lsw, st_iaload, st_baload, st_caload, st_laload, st_aaload, st_iastore, st_bastore, st_lastore, st_alen, st_get, st_put, st_gets, st_ldc, st_v1, st_v2, st_v3, st_v4, st_v5, st_v6, st_s1, st_s2, st_s3, st_s4, st_cpy, st_iret, st_zret, st_bret, st_cret, st_lret, st_vret, ldI_, ldA_, ldL_, stB_0, stB_1, stB_s, notL_i, notL_r, notL_n, gfK_r, gfK_i, cont_v, cont_n, cont_ite, rcOK, tb_o, tb_k, tb_c, tb_n, tb_rd, tb_al, tb_ki, swT, swL, List.getD_cons_zero, List.getD_cons_succ, List.set_cons_zero, List.set_cons_succ, List.length_cons, List.length_nil, Nat.reduceAdd, Nat.reduceMul, Nat.reduceLeDiff, Nat.reduceDiv, Nat.reduceMod, Nat.reduceBEq, Nat.reduceEqDiff, Int.reduceToNat, Int.reduceAdd, Int64.reduceOfInt, Bool.true_and, Bool.and_true, Bool.and_self, Bool.false_and, Bool.and_false, Bool.false_eq_true, Bool.or_true, Bool.true_or, Bool.or_false, Bool.false_or, if_true, if_false, ↓reduceIte, ↓reduceDIte, true_and, and_true, and_self, Nat.le_refl, Nat.zero_le, beq_self_eq_true, loc0, tb_m, xp_0, xp_i, xp_r, xp_l, pad, ne_eq, not_false_eq_true, Nat.reduceSub, oiN, oiM, oN, List.toList_toArray, Nat.not_lt_zero, Nat.and_one_is_mod, sh1, shr_nI, fa_or, fa_and, fb_xorI, Nat.or_zero, Nat.lt_irrefl, nI_add, nI_mul, nI_sub, nI_clamp, nI_ltI, nI_eq, nI_eq0, nI_0eq, nI_lt0, nI_0lt, nI_ltM1, nI_M1lt, nI_neM1, nI_M1ne, mI_lt0, mI_eq0, mI_0lt, ib_nI, nI_1, zr1, zr2, nb_z, nb_m, nz_z, nz_m, jn_, jr_, nI_eq1, Classical.not_not, nI_b01, nI_b11, nb_a, nb_o, nb_n, nb_na, Nat.reduceLT, Nat.reducePow, Nat.reduceShiftRight, Nat.reduceAnd, Nat.reduceOr, wI_up, wL_up, cpI_up, cpL_up, up_eq, up_ne, up_up, up_comm, up2_up, up_2, up2_1, up2_eq, up2_ne, up2_up2, and_false, false_and, or_true, true_or, or_false, false_or, not_true_eq_false, k_711, pop_0, Nat.add_zero]
    | succ k ih =>
      intro y hy hl acc
      have h0 : y ≠ 0 := by
        rintro rfl
        rw [pop_0] at hy
        omega
      have h1 := pop_dec y hl h0
      have h2 : 1 ≤ y := by omega
      rw [runD_evW]
      simp (maxSteps := 3000000) (disch := omega) only [evW_s, st_icN, st_icM, st_lconst, st_iload, st_aload, st_lload, st_istore, st_astore, st_lstore, st_iinc, st_iadd, st_isub, st_imul, st_iand, st_ior, st_ixor, st_ishl, st_ishr, st_iushr, st_idiv, st_irem, st_i2b, st_i2s, st_i2c, st_i2l, st_l2i, st_land, st_lor, st_lshl, st_lshr, st_lcmp, st_dup, st_dupa, st_dup2, st_pop, st_goto, st_ceq, st_cne, st_clt, st_cge, st_cgt, st_cle, st_zeq, st_zne, st_zlt, st_zge, st_zgt, st_zle, st_tsw, st_lsw, st_iaload, st_baload, st_caload, st_laload, st_aaload, st_iastore, st_bastore, st_lastore, st_alen, st_get, st_put, st_gets, st_ldc, st_v1, st_v2, st_v3, st_v4, st_v5, st_v6, st_s1, st_s2, st_s3, st_s4, st_cpy, st_iret, st_zret, st_bret, st_cret, st_lret, st_vret, ldI_, ldA_, ldL_, stB_0, stB_1, stB_s, notL_i, notL_r, notL_n, gfK_r, gfK_i, cont_v, cont_n, cont_ite, rcOK, tb_o, tb_k, tb_c, tb_n, tb_rd, tb_al, tb_ki, swT, swL, List.getD_cons_zero, List.getD_cons_succ, List.set_cons_zero, List.set_cons_succ, List.length_cons, List.length_nil, Nat.reduceAdd, Nat.reduceMul, Nat.reduceLeDiff, Nat.reduceDiv, Nat.reduceMod, Nat.reduceBEq, Nat.reduceEqDiff, Int.reduceToNat, Int.reduceAdd, Int64.reduceOfInt, Bool.true_and, Bool.and_true, Bool.and_self, Bool.false_and, Bool.and_false, Bool.false_eq_true, Bool.or_true, Bool.true_or, Bool.or_false, Bool.false_or, if_true, if_false, ↓reduceIte, ↓reduceDIte, true_and, and_true, and_self, Nat.le_refl, Nat.zero_le, beq_self_eq_true, loc0, tb_m, xp_0, xp_i, xp_r, xp_l, pad, ne_eq, not_false_eq_true, Nat.reduceSub, oiN, oiM, oN, List.toList_toArray, Nat.not_lt_zero, Nat.and_one_is_mod, sh1, shr_nI, fa_or, fa_and, fb_xorI, Nat.or_zero, Nat.lt_irrefl, nI_add, nI_mul, nI_sub, nI_clamp, nI_ltI, nI_eq, nI_eq0, nI_0eq, nI_lt0, nI_0lt, nI_ltM1, nI_M1lt, nI_neM1, nI_M1ne, mI_lt0, mI_eq0, mI_0lt, ib_nI, nI_1, zr1, zr2, nb_z, nb_m, nz_z, nz_m, jn_, jr_, nI_eq1, Classical.not_not, nI_b01, nI_b11, nb_a, nb_o, nb_n, nb_na, Nat.reduceLT, Nat.reducePow, Nat.reduceShiftRight, Nat.reduceAnd, Nat.reduceOr, wI_up, wL_up, cpI_up, cpL_up, up_eq, up_ne, up_up, up_comm, up2_up, up_2, up2_1, up2_eq, up2_ne, up2_up2, and_false, false_and, or_true, true_or, or_false, false_or, not_true_eq_false, k_711, h0]
      rw [ih (y &&& (y - 1)) (by omega) (Nat.lt_of_le_of_lt Nat.and_le_left hl)]
      rw [show acc + 1 + pop (y &&& (y - 1)) = acc + pop y by omega]
  have := key (pop x) x rfl hx 0
  rwa [Nat.zero_add] at this
/-- the best of a set: the first with the most -/
def pick (w : Nat → Int32) (L : Nat) : Nat → Option Nat
  | 0 => none
  | k + 1 => match pick w L k with
    | none => if L.testBit k = true then some k else none
    | some b => if L.testBit k = true ∧ w b < w k then some k else some b
theorem pick_s {w : Nat → Int32} {L k : Nat} : pick w L (k + 1) = (match pick w L k with
    | none => if L.testBit k = true then some k else none
    | some b => if L.testBit k = true ∧ w b < w k then some k else some b) := rfl
def pkI (o : Option Nat) : Int32 := match o with
  | none => mI 1
  | some b => nI b
theorem pick_spec (w : Nat → Int32) (L k : Nat) : (∀ b, pick w L k = some b → b < k ∧ L.testBit b = true) ∧ (pick w L k = none ↔ ∀ j, j < k → L.testBit j = false) := by
  induction k with
  | zero => exact ⟨fun b h => by simp [pick] at h, by simp [pick]⟩
  | succ k ih =>
    simp only [pick_s]
    cases hp : pick w L k with
    | none =>
      have h0 := ih.2.mp hp
      dsimp only
      by_cases h : L.testBit k = true
      · rw [if_pos h]
        refine ⟨fun b q => ?_, ?_⟩
        · cases q; exact ⟨Nat.lt_succ_self _, h⟩
        · simp only [reduceCtorEq, false_iff]
          intro q
          rw [q k (Nat.lt_succ_self k)] at h
          cases h
      · rw [if_neg h]
        refine ⟨fun b q => (by cases q), ?_⟩
        simp only [true_iff]
        intro j hj
        rcases Nat.lt_succ_iff_lt_or_eq.mp hj with q | rfl
        · exact h0 j q
        · simpa using h
    | some b0 =>
      have h0 := ih.1 b0 hp
      dsimp only
      split
      · rename_i h
        refine ⟨fun b q => ?_, ?_⟩
        · cases q; exact ⟨Nat.lt_succ_self _, h.1⟩
        · simp only [reduceCtorEq, false_iff]
          intro q
          rw [q k (Nat.lt_succ_self k)] at h
          cases h.1
      · refine ⟨fun b q => ?_, ?_⟩
        · cases q; exact ⟨Nat.lt_succ_of_lt h0.1, h0.2⟩
        · simp only [reduceCtorEq, false_iff]
          intro q
          have := q b0 (Nat.lt_succ_of_lt h0.1)
          rw [h0.2] at this
          cases this
theorem pick_congr {w w' : Nat → Int32} {L k : Nat} (h : ∀ j, j < k → L.testBit j = true → w j = w' j) : pick w L k = pick w' L k := by
  induction k with
  | zero => rfl
  | succ k ih =>
    have e := ih (fun j hj q => h j (Nat.lt_succ_of_lt hj) q)
    simp only [pick_s]
    rw [e]
    cases hp : pick w' L k with
    | none => rfl
    | some b =>
      dsimp only
      have h0 := (pick_spec w' L k).1 b hp
      by_cases q : L.testBit k = true
      · rw [h b (by omega) h0.2, h k (by omega) q]
      · simp [q]
theorem pick_more {w : Nat → Int32} {L k k' : Nat} (hk : k ≤ k') (h : ∀ j, k ≤ j → j < k' → L.testBit j = false) : pick w L k' = pick w L k := by
  induction k' with
  | zero => rw [Nat.le_zero.mp hk]
  | succ k' ih =>
    rcases Nat.lt_or_ge k (k' + 1) with q | q
    · have e := ih (by omega) (fun j h1 h2 => h j h1 (by omega))
      simp only [pick_s]
      rw [e, h k' (by omega) (by omega)]
      cases pick w L k <;> simp
    · rw [show k = k' + 1 by omega]
theorem m_mostWorth (d L m : Nat) (hL : L < 4096) (μ : sM) (hm : μ.1 56 5 = nI m) (h12 : m ≤ 12) : callD (d + 1) 732 [.ref 55, .int (nI L)] μ = some (some (.int (pkI (pick (μ.1 61) L m))), μ) := by
  rw [callD_e (Nat.le_of_ble_eq_true rfl), runD_evW]
  simp (maxSteps := 3000000) (disch := omega) only [evW_s, st_icN, st_icM, st_lconst, st_iload, st_aload, st_lload, st_istore, st_astore, st_lstore, st_iinc, st_iadd, st_isub, st_imul, st_iand, st_ior, st_ixor, st_ishl, st_ishr, st_iushr, st_idiv, st_irem, st_i2b, st_i2s, st_i2c, st_i2l, st_l2i, st_land, st_lor, st_lshl, st_lshr, st_lcmp, st_dup, st_dupa, st_dup2, st_pop, st_goto, st_ceq, st_cne, st_clt, st_cge, st_cgt, st_cle, st_zeq, st_zne, st_zlt, st_zge, st_zgt, st_zle, st_tsw, st_lsw, st_iaload, st_baload, st_caload, st_laload, st_aaload, st_iastore, st_bastore, st_lastore, st_alen, st_get, st_put, st_gets, st_ldc, st_v1, st_v2, st_v3, st_v4, st_v5, st_v6, st_s1, st_s2, st_s3, st_s4, st_cpy, st_iret, st_zret, st_bret, st_cret, st_lret, st_vret, ldI_, ldA_, ldL_, stB_0, stB_1, stB_s, notL_i, notL_r, notL_n, gfK_r, gfK_i, cont_v, cont_n, cont_ite, rcOK, tb_o, tb_k, tb_c, tb_n, tb_rd, tb_al, tb_ki, swT, swL, List.getD_cons_zero, List.getD_cons_succ, List.set_cons_zero, List.set_cons_succ, List.length_cons, List.length_nil, Nat.reduceAdd, Nat.reduceMul, Nat.reduceLeDiff, Nat.reduceDiv, Nat.reduceMod, Nat.reduceBEq, Nat.reduceEqDiff, Int.reduceToNat, Int.reduceAdd, Int64.reduceOfInt, Bool.true_and, Bool.and_true, Bool.and_self, Bool.false_and, Bool.and_false, Bool.false_eq_true, Bool.or_true, Bool.true_or, Bool.or_false, Bool.false_or, if_true, if_false, ↓reduceIte, ↓reduceDIte, true_and, and_true, and_self, Nat.le_refl, Nat.zero_le, beq_self_eq_true, loc0, tb_m, xp_0, xp_i, xp_r, xp_l, pad, ne_eq, not_false_eq_true, Nat.reduceSub, oiN, oiM, oN, List.toList_toArray, Nat.not_lt_zero, Nat.and_one_is_mod, sh1, shr_nI, fa_or, fa_and, fb_xorI, Nat.or_zero, Nat.lt_irrefl, nI_add, nI_mul, nI_sub, nI_clamp, nI_ltI, nI_eq, nI_eq0, nI_0eq, nI_lt0, nI_0lt, nI_ltM1, nI_M1lt, nI_neM1, nI_M1ne, mI_lt0, mI_eq0, mI_0lt, ib_nI, nI_1, zr1, zr2, nb_z, nb_m, nz_z, nz_m, jn_, jr_, nI_eq1, Classical.not_not, nI_b01, nI_b11, nb_a, nb_o, nb_n, nb_na, Nat.reduceLT, Nat.reducePow, Nat.reduceShiftRight, Nat.reduceAnd, Nat.reduceOr, wI_up, wL_up, cpI_up, cpL_up, up_eq, up_ne, up_up, up_comm, up2_up, up_2, up2_1, up2_eq, up2_ne, up2_up2, and_false, false_and, or_true, true_or, or_false, false_or, not_true_eq_false, k_732]
  refine loopU (f := fun j => runD d 732 4 [.ref 55, .int (nI L), .int (pkI (pick (μ.1 61) L j)), .int (nI j)] [] μ) (n := m) (fun j hj => ?_) ?_
  · have hr : L >>> j % 2 < 2 ^ 31 := by omega
    conv => lhs; rw [runD_evW]
    simp only [pick_s]
    cases hp : pick (μ.1 61) L j with
    | none =>
      simp (maxSteps := 3000000) (disch := omega) only [evW_s, st_icN, st_icM, st_lconst, st_iload, st_aload, st_lload, st_istore, st_astore, st_lstore, st_iinc, st_iadd, st_isub, st_imul, st_iand, st_ior, st_ixor, st_ishl, st_ishr, st_iushr, st_idiv, st_irem, st_i2b, st_i2s, st_i2c, st_i2l, st_l2i, st_land, st_lor, st_lshl, st_lshr, st_lcmp, st_dup, st_dupa, st_dup2, st_pop, st_goto, st_ceq, st_cne, st_clt, st_cge, st_cgt, st_cle, st_zeq, st_zne, st_zlt, st_zge, st_zgt, st_zle, st_tsw, st_lsw, st_iaload, st_baload, st_caload, st_laload, st_aaload, st_iastore, st_bastore, st_lastore, st_alen, st_get, st_put, st_gets, st_ldc, st_v1, st_v2, st_v3, st_v4, st_v5, st_v6, st_s1, st_s2, st_s3, st_s4, st_cpy, st_iret, st_zret, st_bret, st_cret, st_lret, st_vret, ldI_, ldA_, ldL_, stB_0, stB_1, stB_s, notL_i, notL_r, notL_n, gfK_r, gfK_i, cont_v, cont_n, cont_ite, rcOK, tb_o, tb_k, tb_c, tb_n, tb_rd, tb_al, tb_ki, swT, swL, List.getD_cons_zero, List.getD_cons_succ, List.set_cons_zero, List.set_cons_succ, List.length_cons, List.length_nil, Nat.reduceAdd, Nat.reduceMul, Nat.reduceLeDiff, Nat.reduceDiv, Nat.reduceMod, Nat.reduceBEq, Nat.reduceEqDiff, Int.reduceToNat, Int.reduceAdd, Int64.reduceOfInt, Bool.true_and, Bool.and_true, Bool.and_self, Bool.false_and, Bool.and_false, Bool.false_eq_true, Bool.or_true, Bool.true_or, Bool.or_false, Bool.false_or, if_true, if_false, ↓reduceIte, ↓reduceDIte, true_and, and_true, and_self, Nat.le_refl, Nat.zero_le, beq_self_eq_true, loc0, tb_m, xp_0, xp_i, xp_r, xp_l, pad, ne_eq, not_false_eq_true, Nat.reduceSub, oiN, oiM, oN, List.toList_toArray, Nat.not_lt_zero, Nat.and_one_is_mod, sh1, shr_nI, fa_or, fa_and, fb_xorI, Nat.or_zero, Nat.lt_irrefl, nI_add, nI_mul, nI_sub, nI_clamp, nI_ltI, nI_eq, nI_eq0, nI_0eq, nI_lt0, nI_0lt, nI_ltM1, nI_M1lt, nI_neM1, nI_M1ne, mI_lt0, mI_eq0, mI_0lt, ib_nI, nI_1, zr1, zr2, nb_z, nb_m, nz_z, nz_m, jn_, jr_, nI_eq1, Classical.not_not, nI_b01, nI_b11, nb_a, nb_o, nb_n, nb_na, Nat.reduceLT, Nat.reducePow, Nat.reduceShiftRight, Nat.reduceAnd, Nat.reduceOr, wI_up, wL_up, cpI_up, cpL_up, up_eq, up_ne, up_up, up_comm, up2_up, up_2, up2_1, up2_eq, up2_ne, up2_up2, and_false, false_and, or_true, true_or, or_false, false_or, not_true_eq_false, k_732, hm, hj, and1, tb_iff, pkI]
      by_cases q : L.testBit j = true <;> simp only [q, if_true, if_false, Bool.false_eq_true]
    | some b =>
      have hb := ((pick_spec (μ.1 61) L j).1 b hp).1
      simp (maxSteps := 3000000) (disch := omega) only [evW_s, st_icN, st_icM, st_lconst, st_iload, st_aload, st_lload, st_istore, st_astore, st_lstore, st_iinc, st_iadd, st_isub, st_imul, st_iand, st_ior, st_ixor, st_ishl, st_ishr, st_iushr, st_idiv, st_irem, st_i2b, st_i2s, st_i2c, st_i2l, st_l2i, st_land, st_lor, st_lshl, st_lshr, st_lcmp, st_dup, st_dupa, st_dup2, st_pop, st_goto, st_ceq, st_cne, st_clt, st_cge, st_cgt, st_cle, st_zeq, st_zne, st_zlt, st_zge, st_zgt, st_zle, st_tsw, st_lsw, st_iaload, st_baload, st_caload, st_laload, st_aaload, st_iastore, st_bastore, st_lastore, st_alen, st_get, st_put, st_gets, st_ldc, st_v1, st_v2, st_v3, st_v4, st_v5, st_v6, st_s1, st_s2, st_s3, st_s4, st_cpy, st_iret, st_zret, st_bret, st_cret, st_lret, st_vret, ldI_, ldA_, ldL_, stB_0, stB_1, stB_s, notL_i, notL_r, notL_n, gfK_r, gfK_i, cont_v, cont_n, cont_ite, rcOK, tb_o, tb_k, tb_c, tb_n, tb_rd, tb_al, tb_ki, swT, swL, List.getD_cons_zero, List.getD_cons_succ, List.set_cons_zero, List.set_cons_succ, List.length_cons, List.length_nil, Nat.reduceAdd, Nat.reduceMul, Nat.reduceLeDiff, Nat.reduceDiv, Nat.reduceMod, Nat.reduceBEq, Nat.reduceEqDiff, Int.reduceToNat, Int.reduceAdd, Int64.reduceOfInt, Bool.true_and, Bool.and_true, Bool.and_self, Bool.false_and, Bool.and_false, Bool.false_eq_true, Bool.or_true, Bool.true_or, Bool.or_false, Bool.false_or, if_true, if_false, ↓reduceIte, ↓reduceDIte, true_and, and_true, and_self, Nat.le_refl, Nat.zero_le, beq_self_eq_true, loc0, tb_m, xp_0, xp_i, xp_r, xp_l, pad, ne_eq, not_false_eq_true, Nat.reduceSub, oiN, oiM, oN, List.toList_toArray, Nat.not_lt_zero, Nat.and_one_is_mod, sh1, shr_nI, fa_or, fa_and, fb_xorI, Nat.or_zero, Nat.lt_irrefl, nI_add, nI_mul, nI_sub, nI_clamp, nI_ltI, nI_eq, nI_eq0, nI_0eq, nI_lt0, nI_0lt, nI_ltM1, nI_M1lt, nI_neM1, nI_M1ne, mI_lt0, mI_eq0, mI_0lt, ib_nI, nI_1, zr1, zr2, nb_z, nb_m, nz_z, nz_m, jn_, jr_, nI_eq1, Classical.not_not, nI_b01, nI_b11, nb_a, nb_o, nb_n, nb_na, Nat.reduceLT, Nat.reducePow, Nat.reduceShiftRight, Nat.reduceAnd, Nat.reduceOr, wI_up, wL_up, cpI_up, cpL_up, up_eq, up_ne, up_up, up_comm, up2_up, up_2, up2_1, up2_eq, up2_ne, up2_up2, and_false, false_and, or_true, true_or, or_false, false_or, not_true_eq_false, k_732, hm, hj, and1, tb_iff, pkI]
      by_cases q : L.testBit j = true
      · by_cases q2 : (μ.1 61) b < (μ.1 61) j <;> simp only [q, q2, if_true, if_false, and_true, and_false]
      · simp only [q, if_false, Bool.false_eq_true, false_and]
  · rw [runD_evW]
    simp (maxSteps := 3000000) (disch := omega) only [evW_s, st_icN, st_icM, st_lconst, st_iload, st_aload, st_lload, st_istore, st_astore, st_lstore, st_iinc, st_iadd, st_isub, st_imul, st_iand, st_ior, st_ixor, st_ishl, st_ishr, st_iushr, st_idiv, st_irem, st_i2b, st_i2s, st_i2c, st_i2l, st_l2i, st_land, st_lor, st_lshl, st_lshr, st_lcmp, st_dup, st_dupa, st_dup2, st_pop, st_goto, st_ceq, st_cne, st_clt, st_cge, st_cgt, st_cle, st_zeq, st_zne, st_zlt, st_zge, st_zgt, st_zle, st_tsw, st_lsw, st_iaload, st_baload, st_caload, st_laload, st_aaload, st_iastore, st_bastore, st_lastore, st_alen, st_get, st_put, st_gets, st_ldc, st_v1, st_v2, st_v3, st_v4, st_v5, st_v6, st_s1, st_s2, st_s3, st_s4, st_cpy, st_iret, st_zret, st_bret, st_cret, st_lret, st_vret, ldI_, ldA_, ldL_, stB_0, stB_1, stB_s, notL_i, notL_r, notL_n, gfK_r, gfK_i, cont_v, cont_n, cont_ite, rcOK, tb_o, tb_k, tb_c, tb_n, tb_rd, tb_al, tb_ki, swT, swL, List.getD_cons_zero, List.getD_cons_succ, List.set_cons_zero, List.set_cons_succ, List.length_cons, List.length_nil, Nat.reduceAdd, Nat.reduceMul, Nat.reduceLeDiff, Nat.reduceDiv, Nat.reduceMod, Nat.reduceBEq, Nat.reduceEqDiff, Int.reduceToNat, Int.reduceAdd, Int64.reduceOfInt, Bool.true_and, Bool.and_true, Bool.and_self, Bool.false_and, Bool.and_false, Bool.false_eq_true, Bool.or_true, Bool.true_or, Bool.or_false, Bool.false_or, if_true, if_false, ↓reduceIte, ↓reduceDIte, true_and, and_true, and_self, Nat.le_refl, Nat.zero_le, beq_self_eq_true, loc0, tb_m, xp_0, xp_i, xp_r, xp_l, pad, ne_eq, not_false_eq_true, Nat.reduceSub, oiN, oiM, oN, List.toList_toArray, Nat.not_lt_zero, Nat.and_one_is_mod, sh1, shr_nI, fa_or, fa_and, fb_xorI, Nat.or_zero, Nat.lt_irrefl, nI_add, nI_mul, nI_sub, nI_clamp, nI_ltI, nI_eq, nI_eq0, nI_0eq, nI_lt0, nI_0lt, nI_ltM1, nI_M1lt, nI_neM1, nI_M1ne, mI_lt0, mI_eq0, mI_0lt, ib_nI, nI_1, zr1, zr2, nb_z, nb_m, nz_z, nz_m, jn_, jr_, nI_eq1, Classical.not_not, nI_b01, nI_b11, nb_a, nb_o, nb_n, nb_na, Nat.reduceLT, Nat.reducePow, Nat.reduceShiftRight, Nat.reduceAnd, Nat.reduceOr, wI_up, wL_up, cpI_up, cpL_up, up_eq, up_ne, up_up, up_comm, up2_up, up_2, up2_1, up2_eq, up2_ne, up2_up2, and_false, false_and, or_true, true_or, or_false, false_or, not_true_eq_false, k_732, hm]
def ntz (x : Nat) : Nat := fa_first (fun j => x.testBit j) 12
theorem ntz_mask : ∀ x, x < 4096 → x ≠ 0 → (nI x ^^^ mI 1) &&& (nI x - nI 1) = nI (2 ^ ntz x - 1) ∧ ntz x < 12 := all4096 (P := fun x => x ≠ 0 → (nI x ^^^ mI 1) &&& (nI x - nI 1) = nI (2 ^ ntz x - 1) ∧ ntz x < 12) (by decide +kernel)
theorem ntz_bit {x : Nat} (h : ntz x < 12) : x.testBit (ntz x) = true ∧ ∀ j, j < ntz x → x.testBit j = false := ⟨fa_first_yes _ 12 h, fun j hj => fa_first_no _ 12 j hj⟩

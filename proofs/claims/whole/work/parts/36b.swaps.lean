/-! 36b.swaps: twos counted from both ends -/
theorem ct_sm (p : Nat → Bool) (n : Nat) : fb_ct p n = fb_sm (fun k => if p k then 1 else 0) n := by
  induction n with
  | zero => rfl
  | succ n ih => rw [fb_ct_succ, fb_sm_succ, ih]
theorem sm_ext {f g : Nat → Nat} {n : Nat} (h : ∀ k, k < n → f k = g k) : fb_sm f n = fb_sm g n := fb_sm_cong h
theorem dbl (A : Nat → Nat → Nat) (sym : ∀ c k, A c k = A k c) (irr : ∀ c, A c c = 0) (n : Nat) : fb_sm (fun c => fb_sm (A c) n) n = 2 * fb_sm (fun c => fb_sm (fun k => if c < k then A c k else 0) n) n := by
  induction n with
  | zero => rfl
  | succ n ih =>
    rw [fb_sm_succ, fb_sm_succ (fun c => fb_sm (fun k => if c < k then A c k else 0) (n + 1))]
    have e1 : fb_sm (fun c => fb_sm (A c) (n + 1)) n = fb_sm (fun c => fb_sm (A c) n) n + fb_sm (fun c => A c n) n := by
      rw [← fb_sm_add]
      exact sm_ext (fun c _ => fb_sm_succ _ _)
    have e2 : fb_sm (fun c => fb_sm (fun k => if c < k then A c k else 0) (n + 1)) n = fb_sm (fun c => fb_sm (fun k => if c < k then A c k else 0) n) n + fb_sm (fun c => A c n) n := by
      rw [← fb_sm_add]
      exact sm_ext (fun c hc => by rw [fb_sm_succ, if_pos hc])
    have e3 : fb_sm (A n) (n + 1) = fb_sm (fun c => A c n) n := by
      rw [fb_sm_succ, irr, Nat.add_zero]
      exact sm_ext (fun c _ => sym n c)
    have e4 : fb_sm (fun k => if n < k then A n k else 0) (n + 1) = 0 := by
      have : fb_sm (fun k => if n < k then A n k else 0) (n + 1) = fb_sm (fun _ => 0) (n + 1) := sm_ext (fun k hk => if_neg (by omega))
      rw [this, fb_sm_const, Nat.mul_zero]
    rw [e1, e2, e3, e4, ih]
    omega
theorem sm_cut {f : Nat → Nat} {n m : Nat} (h : n ≤ m) (z : ∀ k, n ≤ k → f k = 0) : fb_sm f m = fb_sm f n := by
  have e := fb_sm_split f n (m - n)
  rw [show n + (m - n) = m by omega] at e
  have : fb_sm (fun k => f (n + k)) (m - n) = fb_sm (fun _ => 0) (m - n) := sm_ext (fun k _ => z _ (by omega))
  rw [e, this, fb_sm_const, Nat.mul_zero, Nat.add_zero]
theorem pop_shr {x c n : Nat} (hc : c < n) (hn : n ≤ 12) (hz : ∀ k, n ≤ k → x.testBit k = false) (hcc : x.testBit c = false) : pop (x >>> c) = fb_sm (fun k => if c < k then (if x.testBit k then 1 else 0) else 0) n := by
  unfold pop
  rw [ct_sm]
  have e := fb_sm_split (fun k => if c ≤ k then (if x.testBit k then 1 else 0) else 0) c 12
  have e0 : fb_sm (fun k => if c ≤ k then (if x.testBit k then 1 else 0) else 0) c = 0 := by
    rw [sm_ext (g := fun _ => 0) (fun k hk => if_neg (by omega)), fb_sm_const, Nat.mul_zero]
  have e1 : fb_sm (fun k => (fun k => if c ≤ k then (if x.testBit k then 1 else 0) else 0) (c + k)) 12 = fb_sm (fun k => if (x >>> c).testBit k then 1 else 0) 12 := sm_ext (fun k _ => by
    dsimp only
    rw [if_pos (Nat.le_add_right c k), Nat.testBit_shiftRight])
  have e2 : fb_sm (fun k => if c ≤ k then (if x.testBit k then 1 else 0) else 0) (c + 12) = fb_sm (fun k => if c ≤ k then (if x.testBit k then 1 else 0) else 0) n := sm_cut (by omega) (fun k hk => by rw [hz k hk]; simp)
  rw [← e1]
  rw [e0, Nat.zero_add] at e
  rw [← e, e2]
  refine sm_ext (fun k _ => ?_)
  by_cases q : c = k
  · subst q; simp [hcc]
  · by_cases q2 : c < k
    · rw [if_pos q2, if_pos (by omega)]
    · rw [if_neg q2, if_neg (by omega)]
theorem sub_bits {s : Nat → Int32} {n m c k : Nat} (hc : c < n) (hk : k < n) : (al s n m c).testBit k = (al s n m k).testBit c := by
  unfold al
  rw [mkN_bit, mkN_bit]
  simp only [hc, hk, decide_true, Bool.true_and]
  by_cases q : k = c
  · subst q; simp
  · rw [decide_eq_true q, decide_eq_true (Ne.symm q), Bool.true_and, Bool.true_and, Bool.and_comm]
theorem al_irr {s : Nat → Int32} {n m c : Nat} : (al s n m c).testBit c = false := by
  unfold al
  rw [mkN_bit]
  simp
theorem swaps_eq {s : Nat → Int32} {n m : Nat} (hn : n ≤ 12) : sN (fun c => pop (al s n m c)) n = 2 * sN (fun c => pop (al s n m c >>> c)) n := by
  have es : ∀ (f : Nat → Nat) k, sN f k = fb_sm f k := fun f k => by
    induction k with
    | zero => rfl
    | succ k ih => rw [sN, fb_sm_succ, ih]
  have hz : ∀ c k, n ≤ k → (al s n m c).testBit k = false := fun c k hk => by
    unfold al
    rw [mkN_bit, decide_eq_false (by omega), Bool.false_and]
  obtain ⟨A, hA⟩ : ∃ A : Nat → Nat → Nat, A = fun c k => if c < n ∧ k < n ∧ (al s n m c).testBit k = true then 1 else 0 := ⟨_, rfl⟩
  have h := dbl A (fun c k => by
    rw [hA]
    dsimp only
    by_cases hc : c < n <;> by_cases hk : k < n <;> simp [hc, hk]
    rw [sub_bits hc hk]) (fun c => by rw [hA]; simp [al_irr]) n
  rw [es, es]
  refine Eq.trans (sm_ext (fun c hc => ?_)) (h.trans (congrArg (2 * ·) (sm_ext (fun c hc => ?_))))
  · unfold pop
    rw [ct_sm, sm_cut hn (fun k hk => by rw [hz c k hk]; rfl)]
    refine sm_ext (fun k hk => ?_)
    rw [hA]
    simp [hc, hk]
  · rw [pop_shr hc hn (hz c) al_irr]
    refine sm_ext (fun k hk => ?_)
    rw [hA]
    simp [hc, hk]
section
variable {L : Nat} {xs : Nat → Int32} {μ : sM}
theorem t_swaps (hI : Inv L xs μ) : Ok2 L xs (callD 20 619 [.ref 0] μ) (fun μ1 => callD 20 748 [.ref 55] μ1) := by
  obtain ⟨n, m, hn12, hm12, hn, hm, hn1, hm1, i1, i2, i3, l1, l2, l3⟩ := hI.is
  obtain ⟨hS, hG⟩ := hI.1
  have bnd : ∀ (f : Nat → Nat) k, (∀ c, f c ≤ 12) → sN f k ≤ 12 * k := fun f k hf => by
    induction k with
    | zero => exact Nat.le_refl 0
    | succ k ih => have := hf k; rw [sN]; omega
  have hb1 := bnd (fun c => pop (al (μ.1 56) n m c)) n (fun c => pop_le _)
  have hl : runD 19 619 4 [.ref 0, .int (nI 0), .int (nI 0)] [] μ = some (some (.int (nI (sN (fun c => pop (al (μ.1 56) n m c >>> c)) n))), μ) := by
    refine loopU (f := fun j => runD 19 619 4 [.ref 0, .int (nI (sN (fun c => pop (al (μ.1 56) n m c)) j)), .int (nI j)] [] μ) (n := n) (fun j hj => ?_) ?_
    · have h1 := c_alikeWith 14 n m μ _ j hS hG (by omega) hn hm hn12 hm12
      have h2 := c_bitCount 18 (al (μ.1 56) n m j) (al_lt hn12) μ
      conv => lhs; rw [runD_evW]
      simp (maxSteps := 3000000) (disch := omega) only [evW_s, st_icN, st_icM, st_lconst, st_iload, st_aload, st_lload, st_istore, st_astore, st_lstore, st_iinc, st_iadd, st_isub, st_imul, st_iand, st_ior, st_ixor, st_ishl, st_ishr, st_iushr, st_idiv, st_irem, st_i2b, st_i2s, st_i2c, st_i2l, st_l2i, st_land, st_lor, st_lshl, st_lshr, st_lcmp, st_dup, st_dupa, st_dup2, st_pop, st_goto, st_ceq, st_cne, st_clt, st_cge, st_cgt, st_cle, st_zeq, st_zne, st_zlt, st_zge, st_zgt, st_zle, st_tsw, st_lsw, st_iaload, st_baload, st_caload, st_laload, st_aaload, st_iastore, st_bastore, st_lastore, st_alen, st_get, st_put, st_gets, st_ldc, st_v1, st_v2, st_v3, st_v4, st_v5, st_v6, st_s1, st_s2, st_s3, st_s4, st_cpy, st_iret, st_zret, st_bret, st_cret, st_lret, st_vret, ldI_, ldA_, ldL_, stB_0, stB_1, stB_s, notL_i, notL_r, notL_n, gfK_r, gfK_i, cont_v, cont_n, cont_ite, rcOK, tb_o, tb_k, tb_c, tb_n, tb_rd, tb_al, tb_ki, swT, swL, List.getD_cons_zero, List.getD_cons_succ, List.set_cons_zero, List.set_cons_succ, List.length_cons, List.length_nil, Nat.reduceAdd, Nat.reduceMul, Nat.reduceLeDiff, Nat.reduceDiv, Nat.reduceMod, Nat.reduceBEq, Nat.reduceEqDiff, Int.reduceToNat, Int.reduceAdd, Int64.reduceOfInt, Bool.true_and, Bool.and_true, Bool.and_self, Bool.false_and, Bool.and_false, Bool.false_eq_true, Bool.or_true, Bool.true_or, Bool.or_false, Bool.false_or, if_true, if_false, ↓reduceIte, ↓reduceDIte, true_and, and_true, and_self, Nat.le_refl, Nat.zero_le, beq_self_eq_true, loc0, tb_m, xp_0, xp_i, xp_r, xp_l, pad, ne_eq, not_false_eq_true, Nat.reduceSub, oiN, oiM, oN, List.toList_toArray, Nat.not_lt_zero, Nat.and_one_is_mod, sh1, shr_nI, fa_or, fa_and, fb_xorI, Nat.or_zero, Nat.lt_irrefl, nI_add, nI_mul, nI_sub, nI_clamp, nI_ltI, nI_eq, nI_eq0, nI_0eq, nI_lt0, nI_0lt, nI_ltM1, nI_M1lt, nI_neM1, nI_M1ne, mI_lt0, mI_eq0, mI_0lt, ib_nI, nI_1, zr1, zr2, nb_z, nb_m, nz_z, nz_m, jn_, jr_, nI_eq1, Classical.not_not, nI_b01, nI_b11, nb_a, nb_o, nb_n, nb_na, Nat.reduceLT, Nat.reducePow, Nat.reduceShiftRight, Nat.reduceAnd, Nat.reduceOr, wI_up, wL_up, cpI_up, cpL_up, up_eq, up_ne, up_up, up_comm, up2_up, up_2, up2_1, up2_eq, up2_ne, up2_up2, and_false, false_and, or_true, true_or, or_false, false_or, not_true_eq_false, xm1, and0, ud_eq, bOK_t, c_isWithin, m_in, c_isKind, c_isTrait, m_isTrait, c_isSheet, m_isSheet, c_tell1, c_tell2, c_tell3, c_tell4, c_tell6, c_tell7, m_finds1, m_finds2, m_finds3, m_finds4, m_finds6, m_finds7, c_max, c_min, m_within, k_619, hn1, hj, h1, h2, sN]
    · have e := swaps_eq (s := μ.1 56) (n := n) (m := m) hn12
      have e2 : sN (fun c => pop (al (μ.1 56) n m c)) n / 2 = sN (fun c => pop (al (μ.1 56) n m c >>> c)) n := by omega
      rw [runD_evW]
      simp (maxSteps := 3000000) (disch := omega) only [evW_s, st_icN, st_icM, st_lconst, st_iload, st_aload, st_lload, st_istore, st_astore, st_lstore, st_iinc, st_iadd, st_isub, st_imul, st_iand, st_ior, st_ixor, st_ishl, st_ishr, st_iushr, st_idiv, st_irem, st_i2b, st_i2s, st_i2c, st_i2l, st_l2i, st_land, st_lor, st_lshl, st_lshr, st_lcmp, st_dup, st_dupa, st_dup2, st_pop, st_goto, st_ceq, st_cne, st_clt, st_cge, st_cgt, st_cle, st_zeq, st_zne, st_zlt, st_zge, st_zgt, st_zle, st_tsw, st_lsw, st_iaload, st_baload, st_caload, st_laload, st_aaload, st_iastore, st_bastore, st_lastore, st_alen, st_get, st_put, st_gets, st_ldc, st_v1, st_v2, st_v3, st_v4, st_v5, st_v6, st_s1, st_s2, st_s3, st_s4, st_cpy, st_iret, st_zret, st_bret, st_cret, st_lret, st_vret, ldI_, ldA_, ldL_, stB_0, stB_1, stB_s, notL_i, notL_r, notL_n, gfK_r, gfK_i, cont_v, cont_n, cont_ite, rcOK, tb_o, tb_k, tb_c, tb_n, tb_rd, tb_al, tb_ki, swT, swL, List.getD_cons_zero, List.getD_cons_succ, List.set_cons_zero, List.set_cons_succ, List.length_cons, List.length_nil, Nat.reduceAdd, Nat.reduceMul, Nat.reduceLeDiff, Nat.reduceDiv, Nat.reduceMod, Nat.reduceBEq, Nat.reduceEqDiff, Int.reduceToNat, Int.reduceAdd, Int64.reduceOfInt, Bool.true_and, Bool.and_true, Bool.and_self, Bool.false_and, Bool.and_false, Bool.false_eq_true, Bool.or_true, Bool.true_or, Bool.or_false, Bool.false_or, if_true, if_false, ↓reduceIte, ↓reduceDIte, true_and, and_true, and_self, Nat.le_refl, Nat.zero_le, beq_self_eq_true, loc0, tb_m, xp_0, xp_i, xp_r, xp_l, pad, ne_eq, not_false_eq_true, Nat.reduceSub, oiN, oiM, oN, List.toList_toArray, Nat.not_lt_zero, Nat.and_one_is_mod, sh1, shr_nI, fa_or, fa_and, fb_xorI, Nat.or_zero, Nat.lt_irrefl, nI_add, nI_mul, nI_sub, nI_clamp, nI_ltI, nI_eq, nI_eq0, nI_0eq, nI_lt0, nI_0lt, nI_ltM1, nI_M1lt, nI_neM1, nI_M1ne, mI_lt0, mI_eq0, mI_0lt, ib_nI, nI_1, zr1, zr2, nb_z, nb_m, nz_z, nz_m, jn_, jr_, nI_eq1, Classical.not_not, nI_b01, nI_b11, nb_a, nb_o, nb_n, nb_na, Nat.reduceLT, Nat.reducePow, Nat.reduceShiftRight, Nat.reduceAnd, Nat.reduceOr, wI_up, wL_up, cpI_up, cpL_up, up_eq, up_ne, up_up, up_comm, up2_up, up_2, up2_1, up2_eq, up2_ne, up2_up2, and_false, false_and, or_true, true_or, or_false, false_or, not_true_eq_false, xm1, and0, ud_eq, bOK_t, c_isWithin, m_in, c_isKind, c_isTrait, m_isTrait, c_isSheet, m_isSheet, c_tell1, c_tell2, c_tell3, c_tell4, c_tell6, c_tell7, m_finds1, m_finds2, m_finds3, m_finds4, m_finds6, m_finds7, c_max, c_min, m_within, k_619, hn1, nI_div, e2]
  rw [callD_e (Nat.le_of_ble_eq_true rfl), runD_evW]
  simp (maxSteps := 3000000) (disch := omega) only [evW_s, st_icN, st_icM, st_lconst, st_iload, st_aload, st_lload, st_istore, st_astore, st_lstore, st_iinc, st_iadd, st_isub, st_imul, st_iand, st_ior, st_ixor, st_ishl, st_ishr, st_iushr, st_idiv, st_irem, st_i2b, st_i2s, st_i2c, st_i2l, st_l2i, st_land, st_lor, st_lshl, st_lshr, st_lcmp, st_dup, st_dupa, st_dup2, st_pop, st_goto, st_ceq, st_cne, st_clt, st_cge, st_cgt, st_cle, st_zeq, st_zne, st_zlt, st_zge, st_zgt, st_zle, st_tsw, st_lsw, st_iaload, st_baload, st_caload, st_laload, st_aaload, st_iastore, st_bastore, st_lastore, st_alen, st_get, st_put, st_gets, st_ldc, st_v1, st_v2, st_v3, st_v4, st_v5, st_v6, st_s1, st_s2, st_s3, st_s4, st_cpy, st_iret, st_zret, st_bret, st_cret, st_lret, st_vret, ldI_, ldA_, ldL_, stB_0, stB_1, stB_s, notL_i, notL_r, notL_n, gfK_r, gfK_i, cont_v, cont_n, cont_ite, rcOK, tb_o, tb_k, tb_c, tb_n, tb_rd, tb_al, tb_ki, swT, swL, List.getD_cons_zero, List.getD_cons_succ, List.set_cons_zero, List.set_cons_succ, List.length_cons, List.length_nil, Nat.reduceAdd, Nat.reduceMul, Nat.reduceLeDiff, Nat.reduceDiv, Nat.reduceMod, Nat.reduceBEq, Nat.reduceEqDiff, Int.reduceToNat, Int.reduceAdd, Int64.reduceOfInt, Bool.true_and, Bool.and_true, Bool.and_self, Bool.false_and, Bool.and_false, Bool.false_eq_true, Bool.or_true, Bool.true_or, Bool.or_false, Bool.false_or, if_true, if_false, ↓reduceIte, ↓reduceDIte, true_and, and_true, and_self, Nat.le_refl, Nat.zero_le, beq_self_eq_true, loc0, tb_m, xp_0, xp_i, xp_r, xp_l, pad, ne_eq, not_false_eq_true, Nat.reduceSub, oiN, oiM, oN, List.toList_toArray, Nat.not_lt_zero, Nat.and_one_is_mod, sh1, shr_nI, fa_or, fa_and, fb_xorI, Nat.or_zero, Nat.lt_irrefl, nI_add, nI_mul, nI_sub, nI_clamp, nI_ltI, nI_eq, nI_eq0, nI_0eq, nI_lt0, nI_0lt, nI_ltM1, nI_M1lt, nI_neM1, nI_M1ne, mI_lt0, mI_eq0, mI_0lt, ib_nI, nI_1, zr1, zr2, nb_z, nb_m, nz_z, nz_m, jn_, jr_, nI_eq1, Classical.not_not, nI_b01, nI_b11, nb_a, nb_o, nb_n, nb_na, Nat.reduceLT, Nat.reducePow, Nat.reduceShiftRight, Nat.reduceAnd, Nat.reduceOr, wI_up, wL_up, cpI_up, cpL_up, up_eq, up_ne, up_up, up_comm, up2_up, up_2, up2_1, up2_eq, up2_ne, up2_up2, and_false, false_and, or_true, true_or, or_false, false_or, not_true_eq_false, xm1, and0, ud_eq, bOK_t, c_isWithin, m_in, c_isKind, c_isTrait, m_isTrait, c_isSheet, m_isSheet, c_tell1, c_tell2, c_tell3, c_tell4, c_tell6, c_tell7, m_finds1, m_finds2, m_finds3, m_finds4, m_finds6, m_finds7, c_max, c_min, m_within, k_619, hl]
  refine Ok2_i ?_
  have hl2 : runD 19 748 4 [.ref 55, .int (nI 0), .int (nI 0)] [] μ = some (some (.int (nI (sN (fun c => pop (al (μ.1 56) n m c >>> c)) n))), μ) := by
    refine loopU (f := fun j => runD 19 748 4 [.ref 55, .int (nI (sN (fun c => pop (al (μ.1 56) n m c >>> c)) j)), .int (nI j)] [] μ) (n := n) (fun j hj => ?_) ?_
    · have h1 := m_alikeWith 14 n m μ j hG (by omega) hn hm hn12 hm12
      have ha : al (μ.1 56) n m j < 4096 := al_lt hn12
      have hs : al (μ.1 56) n m j >>> j < 4096 := Nat.lt_of_le_of_lt (Nat.shiftRight_le _ _) ha
      have h2 := m_bitsOf 18 (al (μ.1 56) n m j >>> j) hs μ
      conv => lhs; rw [runD_evW]
      simp (maxSteps := 3000000) (disch := omega) only [evW_s, st_icN, st_icM, st_lconst, st_iload, st_aload, st_lload, st_istore, st_astore, st_lstore, st_iinc, st_iadd, st_isub, st_imul, st_iand, st_ior, st_ixor, st_ishl, st_ishr, st_iushr, st_idiv, st_irem, st_i2b, st_i2s, st_i2c, st_i2l, st_l2i, st_land, st_lor, st_lshl, st_lshr, st_lcmp, st_dup, st_dupa, st_dup2, st_pop, st_goto, st_ceq, st_cne, st_clt, st_cge, st_cgt, st_cle, st_zeq, st_zne, st_zlt, st_zge, st_zgt, st_zle, st_tsw, st_lsw, st_iaload, st_baload, st_caload, st_laload, st_aaload, st_iastore, st_bastore, st_lastore, st_alen, st_get, st_put, st_gets, st_ldc, st_v1, st_v2, st_v3, st_v4, st_v5, st_v6, st_s1, st_s2, st_s3, st_s4, st_cpy, st_iret, st_zret, st_bret, st_cret, st_lret, st_vret, ldI_, ldA_, ldL_, stB_0, stB_1, stB_s, notL_i, notL_r, notL_n, gfK_r, gfK_i, cont_v, cont_n, cont_ite, rcOK, tb_o, tb_k, tb_c, tb_n, tb_rd, tb_al, tb_ki, swT, swL, List.getD_cons_zero, List.getD_cons_succ, List.set_cons_zero, List.set_cons_succ, List.length_cons, List.length_nil, Nat.reduceAdd, Nat.reduceMul, Nat.reduceLeDiff, Nat.reduceDiv, Nat.reduceMod, Nat.reduceBEq, Nat.reduceEqDiff, Int.reduceToNat, Int.reduceAdd, Int64.reduceOfInt, Bool.true_and, Bool.and_true, Bool.and_self, Bool.false_and, Bool.and_false, Bool.false_eq_true, Bool.or_true, Bool.true_or, Bool.or_false, Bool.false_or, if_true, if_false, ↓reduceIte, ↓reduceDIte, true_and, and_true, and_self, Nat.le_refl, Nat.zero_le, beq_self_eq_true, loc0, tb_m, xp_0, xp_i, xp_r, xp_l, pad, ne_eq, not_false_eq_true, Nat.reduceSub, oiN, oiM, oN, List.toList_toArray, Nat.not_lt_zero, Nat.and_one_is_mod, sh1, shr_nI, fa_or, fa_and, fb_xorI, Nat.or_zero, Nat.lt_irrefl, nI_add, nI_mul, nI_sub, nI_clamp, nI_ltI, nI_eq, nI_eq0, nI_0eq, nI_lt0, nI_0lt, nI_ltM1, nI_M1lt, nI_neM1, nI_M1ne, mI_lt0, mI_eq0, mI_0lt, ib_nI, nI_1, zr1, zr2, nb_z, nb_m, nz_z, nz_m, jn_, jr_, nI_eq1, Classical.not_not, nI_b01, nI_b11, nb_a, nb_o, nb_n, nb_na, Nat.reduceLT, Nat.reducePow, Nat.reduceShiftRight, Nat.reduceAnd, Nat.reduceOr, wI_up, wL_up, cpI_up, cpL_up, up_eq, up_ne, up_up, up_comm, up2_up, up_2, up2_1, up2_eq, up2_ne, up2_up2, and_false, false_and, or_true, true_or, or_false, false_or, not_true_eq_false, xm1, and0, ud_eq, bOK_t, c_isWithin, m_in, c_isKind, c_isTrait, m_isTrait, c_isSheet, m_isSheet, c_tell1, c_tell2, c_tell3, c_tell4, c_tell6, c_tell7, m_finds1, m_finds2, m_finds3, m_finds4, m_finds6, m_finds7, c_max, c_min, m_within, k_748, hn, hj, h1, h2, sN]
    · rw [runD_evW]
      simp (maxSteps := 3000000) (disch := omega) only [evW_s, st_icN, st_icM, st_lconst, st_iload, st_aload, st_lload, st_istore, st_astore, st_lstore, st_iinc, st_iadd, st_isub, st_imul, st_iand, st_ior, st_ixor, st_ishl, st_ishr, st_iushr, st_idiv, st_irem, st_i2b, st_i2s, st_i2c, st_i2l, st_l2i, st_land, st_lor, st_lshl, st_lshr, st_lcmp, st_dup, st_dupa, st_dup2, st_pop, st_goto, st_ceq, st_cne, st_clt, st_cge, st_cgt, st_cle, st_zeq, st_zne, st_zlt, st_zge, st_zgt, st_zle, st_tsw, st_lsw, st_iaload, st_baload, st_caload, st_laload, st_aaload, st_iastore, st_bastore, st_lastore, st_alen, st_get, st_put, st_gets, st_ldc, st_v1, st_v2, st_v3, st_v4, st_v5, st_v6, st_s1, st_s2, st_s3, st_s4, st_cpy, st_iret, st_zret, st_bret, st_cret, st_lret, st_vret, ldI_, ldA_, ldL_, stB_0, stB_1, stB_s, notL_i, notL_r, notL_n, gfK_r, gfK_i, cont_v, cont_n, cont_ite, rcOK, tb_o, tb_k, tb_c, tb_n, tb_rd, tb_al, tb_ki, swT, swL, List.getD_cons_zero, List.getD_cons_succ, List.set_cons_zero, List.set_cons_succ, List.length_cons, List.length_nil, Nat.reduceAdd, Nat.reduceMul, Nat.reduceLeDiff, Nat.reduceDiv, Nat.reduceMod, Nat.reduceBEq, Nat.reduceEqDiff, Int.reduceToNat, Int.reduceAdd, Int64.reduceOfInt, Bool.true_and, Bool.and_true, Bool.and_self, Bool.false_and, Bool.and_false, Bool.false_eq_true, Bool.or_true, Bool.true_or, Bool.or_false, Bool.false_or, if_true, if_false, ↓reduceIte, ↓reduceDIte, true_and, and_true, and_self, Nat.le_refl, Nat.zero_le, beq_self_eq_true, loc0, tb_m, xp_0, xp_i, xp_r, xp_l, pad, ne_eq, not_false_eq_true, Nat.reduceSub, oiN, oiM, oN, List.toList_toArray, Nat.not_lt_zero, Nat.and_one_is_mod, sh1, shr_nI, fa_or, fa_and, fb_xorI, Nat.or_zero, Nat.lt_irrefl, nI_add, nI_mul, nI_sub, nI_clamp, nI_ltI, nI_eq, nI_eq0, nI_0eq, nI_lt0, nI_0lt, nI_ltM1, nI_M1lt, nI_neM1, nI_M1ne, mI_lt0, mI_eq0, mI_0lt, ib_nI, nI_1, zr1, zr2, nb_z, nb_m, nz_z, nz_m, jn_, jr_, nI_eq1, Classical.not_not, nI_b01, nI_b11, nb_a, nb_o, nb_n, nb_na, Nat.reduceLT, Nat.reducePow, Nat.reduceShiftRight, Nat.reduceAnd, Nat.reduceOr, wI_up, wL_up, cpI_up, cpL_up, up_eq, up_ne, up_up, up_comm, up2_up, up_2, up2_1, up2_eq, up2_ne, up2_up2, and_false, false_and, or_true, true_or, or_false, false_or, not_true_eq_false, xm1, and0, ud_eq, bOK_t, c_isWithin, m_in, c_isKind, c_isTrait, m_isTrait, c_isSheet, m_isSheet, c_tell1, c_tell2, c_tell3, c_tell4, c_tell6, c_tell7, m_finds1, m_finds2, m_finds3, m_finds4, m_finds6, m_finds7, c_max, c_min, m_within, k_748, hn]
  rw [callD_e (Nat.le_of_ble_eq_true rfl), runD_evW]
  simp (maxSteps := 3000000) (disch := omega) only [evW_s, st_icN, st_icM, st_lconst, st_iload, st_aload, st_lload, st_istore, st_astore, st_lstore, st_iinc, st_iadd, st_isub, st_imul, st_iand, st_ior, st_ixor, st_ishl, st_ishr, st_iushr, st_idiv, st_irem, st_i2b, st_i2s, st_i2c, st_i2l, st_l2i, st_land, st_lor, st_lshl, st_lshr, st_lcmp, st_dup, st_dupa, st_dup2, st_pop, st_goto, st_ceq, st_cne, st_clt, st_cge, st_cgt, st_cle, st_zeq, st_zne, st_zlt, st_zge, st_zgt, st_zle, st_tsw, st_lsw, st_iaload, st_baload, st_caload, st_laload, st_aaload, st_iastore, st_bastore, st_lastore, st_alen, st_get, st_put, st_gets, st_ldc, st_v1, st_v2, st_v3, st_v4, st_v5, st_v6, st_s1, st_s2, st_s3, st_s4, st_cpy, st_iret, st_zret, st_bret, st_cret, st_lret, st_vret, ldI_, ldA_, ldL_, stB_0, stB_1, stB_s, notL_i, notL_r, notL_n, gfK_r, gfK_i, cont_v, cont_n, cont_ite, rcOK, tb_o, tb_k, tb_c, tb_n, tb_rd, tb_al, tb_ki, swT, swL, List.getD_cons_zero, List.getD_cons_succ, List.set_cons_zero, List.set_cons_succ, List.length_cons, List.length_nil, Nat.reduceAdd, Nat.reduceMul, Nat.reduceLeDiff, Nat.reduceDiv, Nat.reduceMod, Nat.reduceBEq, Nat.reduceEqDiff, Int.reduceToNat, Int.reduceAdd, Int64.reduceOfInt, Bool.true_and, Bool.and_true, Bool.and_self, Bool.false_and, Bool.and_false, Bool.false_eq_true, Bool.or_true, Bool.true_or, Bool.or_false, Bool.false_or, if_true, if_false, ↓reduceIte, ↓reduceDIte, true_and, and_true, and_self, Nat.le_refl, Nat.zero_le, beq_self_eq_true, loc0, tb_m, xp_0, xp_i, xp_r, xp_l, pad, ne_eq, not_false_eq_true, Nat.reduceSub, oiN, oiM, oN, List.toList_toArray, Nat.not_lt_zero, Nat.and_one_is_mod, sh1, shr_nI, fa_or, fa_and, fb_xorI, Nat.or_zero, Nat.lt_irrefl, nI_add, nI_mul, nI_sub, nI_clamp, nI_ltI, nI_eq, nI_eq0, nI_0eq, nI_lt0, nI_0lt, nI_ltM1, nI_M1lt, nI_neM1, nI_M1ne, mI_lt0, mI_eq0, mI_0lt, ib_nI, nI_1, zr1, zr2, nb_z, nb_m, nz_z, nz_m, jn_, jr_, nI_eq1, Classical.not_not, nI_b01, nI_b11, nb_a, nb_o, nb_n, nb_na, Nat.reduceLT, Nat.reducePow, Nat.reduceShiftRight, Nat.reduceAnd, Nat.reduceOr, wI_up, wL_up, cpI_up, cpL_up, up_eq, up_ne, up_up, up_comm, up2_up, up_2, up2_1, up2_eq, up2_ne, up2_up2, and_false, false_and, or_true, true_or, or_false, false_or, not_true_eq_false, xm1, and0, ud_eq, bOK_t, c_isWithin, m_in, c_isKind, c_isTrait, m_isTrait, c_isSheet, m_isSheet, c_tell1, c_tell2, c_tell3, c_tell4, c_tell6, c_tell7, m_finds1, m_finds2, m_finds3, m_finds4, m_finds6, m_finds7, c_max, c_min, m_within, k_748, hl2]
  exact Ok1_i rfl hI
end

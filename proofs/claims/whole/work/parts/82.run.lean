/-! 82.run: the law's loop, from its first memory -/
section
variable {L : Nat} {xs : Nat → Int32} {μ : sM}
theorem lP_0 : lawP 0 = 212 := rfl
theorem lP_1 : lawP 1 = 265 := rfl
theorem lP_2 : lawP 2 = 298 := rfl
theorem lP_3 : lawP 3 = 341 := rfl
theorem lP_4 : lawP 4 = 404 := rfl
theorem lP_5 : lawP 5 = 437 := rfl
theorem lP_6 : lawP 6 = 470 := rfl
theorem lP_7 : lawP 7 = 503 := rfl
theorem lP_8 : lawP 8 = 536 := rfl
theorem lP_9 : lawP 9 = 559 := rfl
theorem lP_10 : lawP 10 = 592 := rfl
theorem lP_11 : lawP 11 = 615 := rfl
theorem lP_12 : lawP 12 = 638 := rfl
theorem lP_13 : lawP 13 = 661 := rfl
theorem lP_14 : lawP 14 = 720 := rfl
theorem lP_15 : lawP 15 = 743 := rfl
theorem lP_16 : lawP 16 = 766 := rfl
theorem lP_17 : lawP 17 = 789 := rfl
theorem lP_18 : lawP 18 = 812 := rfl
theorem lP_19 : lawP 19 = 835 := rfl
theorem lP_20 : lawP 20 = 848 := rfl
theorem lP_21 : lawP 21 = 861 := rfl
theorem lP_22 : lawP 22 = 884 := rfl
theorem lP_23 : lawP 23 = 917 := rfl
theorem lP_24 : lawP 24 = 950 := rfl
theorem lP_25 : lawP 25 = 973 := rfl
theorem lP_26 : lawP 26 = 1006 := rfl
theorem lP_27 : lawP 27 = 1029 := rfl
theorem lP_28 : lawP 28 = 1052 := rfl
theorem lP_29 : lawP 29 = 1085 := rfl
theorem lP_30 : lawP 30 = 1098 := rfl
theorem lP_31 : lawP 31 = 1111 := rfl
theorem lP_32 : lawP 32 = 1154 := rfl
theorem lP_33 : lawP 33 = 1228 := rfl
theorem lP_34 : lawP 34 = 1291 := rfl
theorem lP_35 : lawP 35 = 1314 := rfl
theorem lP_36 : lawP 36 = 1347 := rfl
theorem lP_37 : lawP 37 = 1360 := rfl
theorem lP_38 : lawP 38 = 1373 := rfl
theorem lP_39 : lawP 39 = 1386 := rfl
theorem lP_40 : lawP 40 = 1409 := rfl
theorem law_step {i : Nat} (hI : Inv L xs μ) (hi : i + 6 ≤ L) (hL : L ≤ 384) : ∃ μ2, runD 20 1000 18 [.ref 99, .ref 0, .ref 55, .int (nI i)] [] μ = runD 20 1000 18 [.ref 99, .ref 0, .ref 55, .int (nI (i + 6))] [] μ2 ∧ Inv L xs μ2 := by
  obtain ⟨k, hk, he⟩ := law_head hI hi hL
  rw [he]
  by_cases h : k < 41
  · have h41 : k = 0 ∨ k = 1 ∨ k = 2 ∨ k = 3 ∨ k = 4 ∨ k = 5 ∨ k = 6 ∨ k = 7 ∨ k = 8 ∨ k = 9 ∨ k = 10 ∨ k = 11 ∨ k = 12 ∨ k = 13 ∨ k = 14 ∨ k = 15 ∨ k = 16 ∨ k = 17 ∨ k = 18 ∨ k = 19 ∨ k = 20 ∨ k = 21 ∨ k = 22 ∨ k = 23 ∨ k = 24 ∨ k = 25 ∨ k = 26 ∨ k = 27 ∨ k = 28 ∨ k = 29 ∨ k = 30 ∨ k = 31 ∨ k = 32 ∨ k = 33 ∨ k = 34 ∨ k = 35 ∨ k = 36 ∨ k = 37 ∨ k = 38 ∨ k = 39 ∨ k = 40 := by omega
    rcases h41 with rfl | rfl | rfl | rfl | rfl | rfl | rfl | rfl | rfl | rfl | rfl | rfl | rfl | rfl | rfl | rfl | rfl | rfl | rfl | rfl | rfl | rfl | rfl | rfl | rfl | rfl | rfl | rfl | rfl | rfl | rfl | rfl | rfl | rfl | rfl | rfl | rfl | rfl | rfl | rfl | rfl
    · rw [lP_0]; exact law_0 hI hi hL
    · rw [lP_1]; exact law_1 hI hi hL
    · rw [lP_2]; exact law_2 hI hi hL
    · rw [lP_3]; exact law_3 hI hi hL
    · rw [lP_4]; exact law_4 hI hi hL
    · rw [lP_5]; exact law_5 hI hi hL
    · rw [lP_6]; exact law_6 hI hi hL
    · rw [lP_7]; exact law_7 hI hi hL
    · rw [lP_8]; exact law_8 hI hi hL
    · rw [lP_9]; exact law_9 hI hi hL
    · rw [lP_10]; exact law_10 hI hi hL
    · rw [lP_11]; exact law_11 hI hi hL
    · rw [lP_12]; exact law_12 hI hi hL
    · rw [lP_13]; exact law_13 hI hi hL
    · rw [lP_14]; exact law_14 hI hi hL
    · rw [lP_15]; exact law_15 hI hi hL
    · rw [lP_16]; exact law_16 hI hi hL
    · rw [lP_17]; exact law_17 hI hi hL
    · rw [lP_18]; exact law_18 hI hi hL
    · rw [lP_19]; exact law_19 hI hi hL
    · rw [lP_20]; exact law_20 hI hi hL
    · rw [lP_21]; exact law_21 hI hi hL
    · rw [lP_22]; exact law_22 hI hi hL
    · rw [lP_23]; exact law_23 hI hi hL
    · rw [lP_24]; exact law_24 hI hi hL
    · rw [lP_25]; exact law_25 hI hi hL
    · rw [lP_26]; exact law_26 hI hi hL
    · rw [lP_27]; exact law_27 hI hi hL
    · rw [lP_28]; exact law_28 hI hi hL
    · rw [lP_29]; exact law_29 hI hi hL
    · rw [lP_30]; exact law_30 hI hi hL
    · rw [lP_31]; exact law_31 hI hi hL
    · rw [lP_32]; exact law_32 hI hi hL
    · rw [lP_33]; exact law_33 hI hi hL
    · rw [lP_34]; exact law_34 hI hi hL
    · rw [lP_35]; exact law_35 hI hi hL
    · rw [lP_36]; exact law_36 hI hi hL
    · rw [lP_37]; exact law_37 hI hi hL
    · rw [lP_38]; exact law_38 hI hi hL
    · rw [lP_39]; exact law_39 hI hi hL
    · rw [lP_40]; exact law_40 hI hi hL
  · exact ⟨μ, law_def hI k h, hI⟩
theorem law_run (hL : L ≤ 384) : ∀ (f i : Nat) (μ : sM), L < i + 6 * f → i ≤ L + 6 → Inv L xs μ → ∃ u, runD 20 1000 18 [.ref 99, .ref 0, .ref 55, .int (nI i)] [] μ = some (some (.int (nI 1)), u) := by
  intro f
  induction f with
  | zero => intro i μ h1 h2 hI; exact ⟨μ, law_end hI (by omega) hL h2⟩
  | succ f ih =>
    intro i μ h1 h2 hI
    by_cases h : i + 6 ≤ L
    · obtain ⟨μ2, e, hI2⟩ := law_step hI h hL
      obtain ⟨u, hu⟩ := ih (i + 6) μ2 (by omega) (by omega) hI2
      exact ⟨u, e.trans hu⟩
    · exact ⟨μ, law_end hI (by omega) hL h2⟩
theorem row0 : ∀ i, i < 162 → (if ro i = 0 then (if ix i = 13 then (20 : Int32) else if ix i = 14 then 60 else 0) else 0) = upd (upd (fun _ => 0) 1 20) 2 60 i := by decide +kernel
theorem inv0 {fN fA : Nat → Int32} (hN : ∀ j, j < 85 → fN j = namesT.getD j 0) (hA : ∀ j, j < 18 → fA j = nameAtT.getD j 0) : Inv L xs (mu0 L xs fN fA) := by
  have z : ∀ k, (k ≠ 99 ∧ k ≠ 98 ∧ k ≠ 66 ∧ k ≠ 67 ∧ k ≠ 56 ∧ ¬ (k = 1 ∨ k = 12 ∨ k = 23)) → (mu0 L xs fN fA).1 k = fun _ => 0 := fun k h => z_mu h
  refine ⟨⟨fun i hi => ?_, ?_⟩, ⟨?_, Or.inl ?_⟩, ⟨fun j hj => ?_, ?_⟩, ⟨⟨0, by decide, ?_, ?_⟩, fun i hi => ⟨0, by decide, ?_, ?_⟩⟩, fun s hs => ⟨⟨0, 0, Or.inl rfl, by decide, fun _ => rfl, ?_, ?_, ?_, ?_⟩, fun i hi => rfl⟩, ?_, ?_, ?_, ?_⟩
  · rw [f_mu, ← row0 i hi]
    have := ro_lt hi
    by_cases h : ro i = 0
    · rw [h, if_pos rfl, s_mu (Or.inl rfl)]
    · rw [if_neg h, z _ (by omega)]
  · rw [f_mu]
    have h0 : Gd (fun _ => (0 : Int32)) := fun i hi => Or.inl ⟨0, Nat.zero_le _, rfl⟩
    exact (h0.put (okV_f (i := 1) (t := 20) (by decide) (by decide))).put (okV_f (i := 2) (t := 60) (by decide) (by decide))
  · rw [z 55 (by decide), z 0 (by decide)]
  · rw [z 0 (by decide)]; rfl
  · rw [z 54 (by decide), z 59 (by decide)]
  · rw [z 55 (by decide), z 59 (by decide)]; decide
  · rw [z 43 (by decide)]; rfl
  · rw [z 55 (by decide)]; rfl
  · rw [z 65 (by decide)]; rfl
  · rw [z 44 (by decide)]
    show (0 : Int32) = (nI 0).toInt8.toInt32
    decide
  · rw [z (46 + 2 * s) (by omega)]; rfl
  · rw [z 68 (by decide)]; rfl
  · rw [z (46 + 2 * s) (by omega)]; rfl
  · rw [z 69 (by decide)]; rfl
  · rw [n_mu]; exact hN
  · rw [a_mu]; exact hA
  · rfl
  · rfl
theorem law_all (hL : L ≤ 384) {fN fA : Nat → Int32} (hN : ∀ j, j < 85 → fN j = namesT.getD j 0) (hA : ∀ j, j < 18 → fA j = nameAtT.getD j 0) : ∃ (n : Nat) (u : sM), run 20 n 1000 16 [.ref 99, .ref 0, .ref 55, .null] [] (mu0 L xs fN fA) = some (some (.int 1), u) := by
  obtain ⟨u, hu⟩ := law_run hL 100 0 _ (by omega) (by omega) (inv0 (L := L) (xs := xs) hN hA)
  have e : runD 20 1000 16 [.ref 99, .ref 0, .ref 55, .null] [] (mu0 L xs fN fA) = some (some (.int 1), u) := by
    refine Eq.trans ?_ hu
    rw [runD_evW]
    simp (maxSteps := 3000000) (disch := omega) only [evW_s, st_icN, st_icM, st_lconst, st_iload, st_aload, st_lload, st_istore, st_astore, st_lstore, st_iinc, st_iadd, st_isub, st_imul, st_iand, st_ior, st_ixor, st_ishl, st_ishr, st_iushr, st_idiv, st_irem, st_i2b, st_i2s, st_i2c, st_i2l, st_l2i, st_land, st_lor, st_lshl, st_lshr, st_lcmp, st_dup, st_dupa, st_dup2, st_pop, st_goto, st_ceq, st_cne, st_clt, st_cge, st_cgt, st_cle, st_zeq, st_zne, st_zlt, st_zge, st_zgt, st_zle, st_tsw, st_lsw, st_iaload, st_baload, st_caload, st_laload, st_aaload, st_iastore, st_bastore, st_lastore, st_alen, st_get, st_put, st_gets, st_ldc, st_v1, st_v2, st_v3, st_v4, st_v5, st_v6, st_s1, st_s2, st_s3, st_s4, st_cpy, st_iret, st_zret, st_bret, st_cret, st_lret, st_vret, ldI_, ldA_, ldL_, stB_0, stB_1, stB_s, notL_i, notL_r, notL_n, gfK_r, gfK_i, cont_v, cont_n, cont_ite, rcOK, tb_o, tb_k, tb_c, tb_n, tb_rd, tb_al, tb_ki, swT, swL, List.getD_cons_zero, List.getD_cons_succ, List.set_cons_zero, List.set_cons_succ, List.length_cons, List.length_nil, Nat.reduceAdd, Nat.reduceMul, Nat.reduceLeDiff, Nat.reduceDiv, Nat.reduceMod, Nat.reduceBEq, Nat.reduceEqDiff, Int.reduceToNat, Int.reduceAdd, Int64.reduceOfInt, Bool.true_and, Bool.and_true, Bool.and_self, Bool.false_and, Bool.and_false, Bool.false_eq_true, Bool.or_true, Bool.true_or, Bool.or_false, Bool.false_or, if_true, if_false, ↓reduceIte, ↓reduceDIte, true_and, and_true, and_self, Nat.le_refl, Nat.zero_le, beq_self_eq_true, loc0, tb_m, xp_0, xp_i, xp_r, xp_l, pad, ne_eq, not_false_eq_true, Nat.reduceSub, oiN, oiM, oN, List.toList_toArray, Nat.not_lt_zero, Nat.and_one_is_mod, sh1, shr_nI, fa_or, fa_and, fb_xorI, Nat.or_zero, Nat.lt_irrefl, nI_add, nI_mul, nI_sub, nI_clamp, nI_ltI, nI_eq, nI_eq0, nI_0eq, nI_lt0, nI_0lt, nI_ltM1, nI_M1lt, nI_neM1, nI_M1ne, mI_lt0, mI_eq0, mI_0lt, ib_nI, nI_1, zr1, zr2, nb_z, nb_m, nz_z, nz_m, jn_, jr_, nI_eq1, Classical.not_not, nI_b01, nI_b11, nb_a, nb_o, nb_n, nb_na, Nat.reduceLT, Nat.reducePow, Nat.reduceShiftRight, Nat.reduceAnd, Nat.reduceOr, wI_up, wL_up, cpI_up, cpL_up, up_eq, up_ne, up_up, up_comm, up2_up, up_2, up2_1, up2_eq, up2_ne, up2_up2, and_false, false_and, or_true, true_or, or_false, false_or, not_true_eq_false, xm1, and0, ud_eq, bOK_t, k_1000_p0]
  obtain ⟨n, hn⟩ := runD_to e
  exact ⟨n, u, hn⟩
end

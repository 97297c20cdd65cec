/-! 70.tok: tokens, pure -/
def rnp (p : Nat → Bool) (T i : Nat) : Nat := i + fa_first (fun j => !p (i + j)) (T - i)
theorem rnp_spec {p : Nat → Bool} {T i : Nat} (h : i ≤ T) : i ≤ rnp p T i ∧ rnp p T i ≤ T ∧ (∀ j, i ≤ j → j < rnp p T i → p j = true) ∧ (rnp p T i < T → p (rnp p T i) = false) := by
  unfold rnp
  have h1 := fa_first_le (fun j => !p (i + j)) (T - i)
  refine ⟨Nat.le_add_right _ _, by omega, fun j hj hj2 => ?_, fun hlt => ?_⟩
  · have := fa_first_no (fun j => !p (i + j)) (T - i) (j - i) (by omega)
    rw [show i + (j - i) = j by omega] at this
    simpa using this
  · have := fa_first_yes (fun j => !p (i + j)) (T - i) (by omega)
    simpa using this
def bC (v : Nat) : Int32 := (nI v).toInt8.toInt32
def isBl (v : Nat) : Bool := v == 32
def isLt (v : Nat) : Bool := decide (97 ≤ v ∧ v ≤ 122)
def isDg (v : Nat) : Bool := decide (48 ≤ v ∧ v ≤ 57)
theorem bC_32 : ∀ v, v < 256 → (bC v = nI 32 ↔ isBl v = true) := by decide +kernel
theorem bC_59 : ∀ v, v < 256 → (bC v = nI 59 ↔ v = 59) := by decide +kernel
theorem bC_lt : ∀ v, v < 256 → ((¬ bC v < nI 97 ∧ ¬ nI 122 < bC v) ↔ isLt v = true) := by decide +kernel
theorem bC_dg : ∀ v, v < 256 → ((¬ bC v < nI 48 ∧ ¬ nI 57 < bC v) ↔ isDg v = true) := by decide +kernel
theorem bC_nI : ∀ v, v < 128 → bC v = nI v := by decide +kernel
/-- what is taken of a number, digit by digit -/
def nv (B : Nat → Nat) (st : Nat) : Nat → Nat
  | 0 => 0
  | k + 1 => 10 * nv B st k + (B (st + k) - 48)
section
variable (B : Nat → Nat) (T : Nat)
def tkS (e : Nat) : Nat := rnp (fun j => isBl (B j)) T e
def tkK (e : Nat) : Nat := if tkS B T e < T then (if isLt (B (tkS B T e)) = true then 1 else if isDg (B (tkS B T e)) = true then 2 else if B (tkS B T e) = 59 then 3 else 4) else 0
def tkE (e : Nat) : Nat := if tkK B T e = 0 then tkS B T e else if tkK B T e = 1 then rnp (fun j => isLt (B j)) T (tkS B T e) else if tkK B T e = 2 then rnp (fun j => isDg (B j)) T (tkS B T e) else tkS B T e + 1
def tkV (e : Nat) : Nat := nv B (tkS B T e) (tkE B T e - tkS B T e)
end
/-! names -/
def wdT : List (List Nat) := [[108, 105, 110, 101], [115, 101, 101, 110], [104, 101, 97, 112, 101, 100], [108, 101, 97, 110, 101, 100], [99, 111, 112, 105, 101, 100], [99, 111, 100, 101, 100], [108, 101, 102, 116], [119, 111, 114, 107], [99, 111, 110, 100, 117, 99, 116], [104, 97, 110, 100], [118, 111, 105, 99, 101], [119, 111, 114, 100, 115], [99, 104, 105, 108, 100], [103, 105, 114, 108], [111, 102], [112, 97, 116, 105, 101, 110, 99, 101], [108, 101, 110, 103, 116, 104]]
def wl' (k : Nat) : Nat := (wdT.getD k []).length
def wc (k j : Nat) : Nat := (wdT.getD k []).getD j 0
def naN (k : Nat) : Nat := ([0, 4, 8, 14, 20, 26, 31, 35, 39, 46, 50, 55, 60, 65, 69, 71, 79, 85] : List Nat).getD k 0
theorem na_ok : ∀ k, k < 18 → nameAtT.getD k 0 = nI (naN k) ∧ naN k ≤ 85 := by decide +kernel
theorem na_s : ∀ k, k < 17 → naN (k + 1) = naN k + wl' k ∧ wl' k ≤ 8 := by decide +kernel
theorem nm_ok : ∀ k, k < 17 → ∀ j, j < wl' k → namesT.getD (naN k + j) 0 = nI (wc k j) ∧ wc k j < 128 := by decide +kernel
theorem wd_inj : ∀ k, k < 17 → ∀ k', k' < 17 → wl' k = wl' k' → (∀ j, j < wl' k → wc k j = wc k' j) → k = k' := by decide +kernel
def Mw (B : Nat → Nat) (st len k : Nat) : Bool := decide (len = wl' k) && a1D (fun j => !(B (st + j) == wc k j)) (wl' k)
theorem Mw_iff {B : Nat → Nat} {st len k : Nat} : Mw B st len k = true ↔ len = wl' k ∧ ∀ j, j < wl' k → B (st + j) = wc k j := by
  unfold Mw
  rw [Bool.and_eq_true, decide_eq_true_eq, a1D_iff]
  refine and_congr_right (fun _ => forall_congr' (fun j => imp_congr_right (fun _ => ?_)))
  simp
def nid (B : Nat → Nat) (st len : Nat) : Nat := fa_first (fun k => Mw B st len k) 17
theorem nid_le (B : Nat → Nat) (st len : Nat) : nid B st len ≤ 17 := fa_first_le _ 17
theorem Mw_nid {B : Nat → Nat} {st len k : Nat} (hk : k < 17) : (Mw B st len k = true) = (nid B st len = k) := by
  apply propext
  constructor
  · intro h
    have hle : ¬ k < nid B st len := fun q => by
      have := fa_first_no (fun k => Mw B st len k) 17 k q
      rw [h] at this
      cases this
    have hy : Mw B st len (nid B st len) = true := fa_first_yes (fun k => Mw B st len k) 17 (show fa_first _ 17 < 17 by have : nid B st len = fa_first (fun k => Mw B st len k) 17 := rfl; omega)
    rw [Mw_iff] at h hy
    have h17 : nid B st len < 17 := by omega
    refine (wd_inj k hk _ h17 (h.1.symm.trans hy.1) (fun j hj => ?_)).symm
    have e1 := h.2 j hj
    have e2 := hy.2 j (by rw [← hy.1, h.1]; exact hj)
    exact e1.symm.trans e2
  · intro h
    have : nid B st len < 17 := by omega
    have hy := fa_first_yes (fun k => Mw B st len k) 17 this
    rw [← h]
    exact hy
theorem agrN (x u : Nat → Nat) (z len : Nat) : ∃ K, (∀ j, j < K → j < z ∧ j < len ∧ x j = u j) ∧ ((K = z ∧ K = len) ∨ (K = z ∧ K < len) ∨ (K < z ∧ K = len) ∨ (K < z ∧ K < len ∧ ¬ x K = u K)) := by
  obtain ⟨K, hK, h1, h2⟩ := fb_first (p := fun i => ¬ (i < z ∧ i < len ∧ x i = u i)) (n := z + 1) ⟨z, by omega, fun h => by omega⟩
  have h3 : ∀ j, j < K → j < z ∧ j < len ∧ x j = u j := fun j hj => Classical.not_not.mp (h2 j hj)
  refine ⟨K, h3, ?_⟩
  have e1 : K ≤ z := by omega
  have e2 : K ≤ len := by
    rcases Nat.lt_or_ge len K with q | q
    · have := (h3 len q).2.1; omega
    · exact q
  by_cases q1 : K = z
  · by_cases q2 : K = len
    · exact Or.inl ⟨q1, q2⟩
    · exact Or.inr (Or.inl ⟨q1, by omega⟩)
  · by_cases q2 : K = len
    · exact Or.inr (Or.inr (Or.inl ⟨by omega, q2⟩))
    · exact Or.inr (Or.inr (Or.inr ⟨by omega, by omega, fun q => h1 ⟨by omega, by omega, q⟩⟩))
/-- the two ways of holding a number down -/
theorem mn_hold (c x v : Nat) (hc : 10 ≤ c) (hv : 48 ≤ v) : mn c (10 * mn c x + v - 48) = mn c (10 * x + (v - 48)) := by
  unfold mn
  split <;> split <;> split <;> omega
section
variable {B : Nat → Nat} {T e : Nat}
theorem tkS_spec (h : e ≤ T) : e ≤ tkS B T e ∧ tkS B T e ≤ T ∧ (∀ j, e ≤ j → j < tkS B T e → isBl (B j) = true) ∧ (tkS B T e < T → isBl (B (tkS B T e)) = false) := rnp_spec h
theorem tkE_le (h : e ≤ T) : tkS B T e ≤ tkE B T e ∧ tkE B T e ≤ T := by
  obtain ⟨h1, h2, h3, h4⟩ := tkS_spec (B := B) h
  unfold tkE
  by_cases q0 : tkK B T e = 0
  · rw [if_pos q0]; omega
  · rw [if_neg q0]
    have hlt : tkS B T e < T := by
      rcases Nat.lt_or_ge (tkS B T e) T with q | q
      · exact q
      · exfalso
        apply q0
        unfold tkK
        rw [if_neg (by omega)]
    by_cases q1 : tkK B T e = 1
    · rw [if_pos q1]
      have := rnp_spec (p := fun j => isLt (B j)) h2
      exact ⟨this.1, this.2.1⟩
    · rw [if_neg q1]
      by_cases q2 : tkK B T e = 2
      · rw [if_pos q2]
        have := rnp_spec (p := fun j => isDg (B j)) h2
        exact ⟨this.1, this.2.1⟩
      · rw [if_neg q2]
        omega
theorem tkK_cases (h : e ≤ T) : (tkK B T e = 0 ∧ tkS B T e = T ∧ tkE B T e = T) ∨ (tkK B T e = 1 ∧ tkS B T e < T ∧ isLt (B (tkS B T e)) = true ∧ tkE B T e = rnp (fun j => isLt (B j)) T (tkS B T e)) ∨ (tkK B T e = 2 ∧ tkS B T e < T ∧ isLt (B (tkS B T e)) = false ∧ isDg (B (tkS B T e)) = true ∧ tkE B T e = rnp (fun j => isDg (B j)) T (tkS B T e)) ∨ (tkK B T e = 3 ∧ tkS B T e < T ∧ isLt (B (tkS B T e)) = false ∧ isDg (B (tkS B T e)) = false ∧ B (tkS B T e) = 59 ∧ tkE B T e = tkS B T e + 1) ∨ (tkK B T e = 4 ∧ tkS B T e < T ∧ isLt (B (tkS B T e)) = false ∧ isDg (B (tkS B T e)) = false ∧ B (tkS B T e) ≠ 59 ∧ tkE B T e = tkS B T e + 1) := by
  obtain ⟨h1, h2, h3, h4⟩ := tkS_spec (B := B) h
  by_cases q : tkS B T e < T
  · by_cases q1 : isLt (B (tkS B T e)) = true
    · have ek : tkK B T e = 1 := by unfold tkK; rw [if_pos q, if_pos q1]
      right; left
      refine ⟨ek, q, q1, ?_⟩
      unfold tkE
      rw [ek, if_neg (by decide), if_pos rfl]
    · have q1' : isLt (B (tkS B T e)) = false := by simpa using q1
      by_cases q2 : isDg (B (tkS B T e)) = true
      · have ek : tkK B T e = 2 := by unfold tkK; rw [if_pos q, if_neg q1, if_pos q2]
        right; right; left
        refine ⟨ek, q, q1', q2, ?_⟩
        unfold tkE
        rw [ek, if_neg (by decide), if_neg (by decide), if_pos rfl]
      · have q2' : isDg (B (tkS B T e)) = false := by simpa using q2
        by_cases q3 : B (tkS B T e) = 59
        · have ek : tkK B T e = 3 := by unfold tkK; rw [if_pos q, if_neg q1, if_neg q2, if_pos q3]
          right; right; right; left
          refine ⟨ek, q, q1', q2', q3, ?_⟩
          unfold tkE
          rw [ek, if_neg (by decide), if_neg (by decide), if_neg (by decide)]
        · have ek : tkK B T e = 4 := by unfold tkK; rw [if_pos q, if_neg q1, if_neg q2, if_neg q3]
          right; right; right; right
          refine ⟨ek, q, q1', q2', q3, ?_⟩
          unfold tkE
          rw [ek, if_neg (by decide), if_neg (by decide), if_neg (by decide)]
  · have ek : tkK B T e = 0 := by unfold tkK; rw [if_neg q]
    left
    have : tkS B T e = T := by omega
    refine ⟨ek, this, ?_⟩
    unfold tkE
    rw [ek, if_pos rfl, this]
end
/-! the class's tape and its token -/
def TB (B : Nat → Nat) (T : Nat) (μ : sM) : Prop := T ≤ 120 ∧ (∀ i, i < 120 → B i < 256) ∧ ∀ i, i < 120 → μ.1 44 i = bC (B i)
def CT (B : Nat → Nat) (T e : Nat) (r : Nat → Int32) : Prop := r 1 = nI T ∧ r 2 = nI (tkK B T e) ∧ r 3 = nI (tkS B T e) ∧ r 4 = nI (if tkK B T e = 4 then tkS B T e else tkE B T e) ∧ (tkK B T e = 2 → r 5 = nI (mn 100 (tkV B T e)))
theorem c_isLetter (d : Nat) (x : Int32) (μ : sM) : callD (d + 1) 9 [.int x] μ = some (some (.int (if ¬ x < nI 97 ∧ ¬ nI 122 < x then nI 1 else nI 0)), μ) := by
  rw [callD_e (Nat.le_of_ble_eq_true rfl), runD_evW]
  simp (maxSteps := 3000000) (disch := omega) only [evW_s, st_icN, st_icM, st_lconst, st_iload, st_aload, st_lload, st_istore, st_astore, st_lstore, st_iinc, st_iadd, st_isub, st_imul, st_iand, st_ior, st_ixor, st_ishl, st_ishr, st_iushr, st_idiv, st_irem, st_i2b, st_i2s, st_i2c, st_i2l, st_l2i, st_land, st_lor, st_lshl, st_lshr, st_lcmp, st_dup, st_dupa, st_dup2, st_pop, st_goto, st_ceq, st_cne, st_clt, st_cge, st_cgt, st_cle, st_zeq, st_zne, st_zlt, st_zge, st_zgt, st_zle, st_tsw, st_lsw, st_iaload, st_baload, st_caload, st_laload, st_aaload, st_iastore, st_bastore, st_lastore, st_alen, st_get, st_put, st_gets, st_ldc, st_v1, st_v2, st_v3, st_v4, st_v5, st_v6, st_s1, st_s2, st_s3, st_s4, st_cpy, st_iret, st_zret, st_bret, st_cret, st_lret, st_vret, ldI_, ldA_, ldL_, stB_0, stB_1, stB_s, notL_i, notL_r, notL_n, gfK_r, gfK_i, cont_v, cont_n, cont_ite, rcOK, tb_o, tb_k, tb_c, tb_n, tb_rd, tb_al, tb_ki, swT, swL, List.getD_cons_zero, List.getD_cons_succ, List.set_cons_zero, List.set_cons_succ, List.length_cons, List.length_nil, Nat.reduceAdd, Nat.reduceMul, Nat.reduceLeDiff, Nat.reduceDiv, Nat.reduceMod, Nat.reduceBEq, Nat.reduceEqDiff, Int.reduceToNat, Int.reduceAdd, Int64.reduceOfInt, Bool.true_and, Bool.and_true, Bool.and_self, Bool.false_and, Bool.and_false, Bool.false_eq_true, Bool.or_true, Bool.true_or, Bool.or_false, Bool.false_or, if_true, if_false, ↓reduceIte, ↓reduceDIte, true_and, and_true, and_self, Nat.le_refl, Nat.zero_le, beq_self_eq_true, loc0, tb_m, xp_0, xp_i, xp_r, xp_l, pad, ne_eq, not_false_eq_true, Nat.reduceSub, oiN, oiM, oN, List.toList_toArray, Nat.not_lt_zero, Nat.and_one_is_mod, sh1, shr_nI, fa_or, fa_and, fb_xorI, Nat.or_zero, Nat.lt_irrefl, nI_add, nI_mul, nI_sub, nI_clamp, nI_ltI, nI_eq, nI_eq0, nI_0eq, nI_lt0, nI_0lt, nI_ltM1, nI_M1lt, nI_neM1, nI_M1ne, mI_lt0, mI_eq0, mI_0lt, ib_nI, nI_1, zr1, zr2, nb_z, nb_m, nz_z, nz_m, jn_, jr_, nI_eq1, Classical.not_not, nI_b01, nI_b11, nb_a, nb_o, nb_n, nb_na, Nat.reduceLT, Nat.reducePow, Nat.reduceShiftRight, Nat.reduceAnd, Nat.reduceOr, wI_up, wL_up, cpI_up, cpL_up, up_eq, up_ne, up_up, up_comm, up2_up, up_2, up2_1, up2_eq, up2_ne, up2_up2, and_false, false_and, or_true, true_or, or_false, false_or, not_true_eq_false, xm1, and0, ud_eq, bOK_t, k_9]
  all_goals (by_cases h1 : x < nI 97 <;> by_cases h2 : nI 122 < x <;> simp [h1, h2] <;> rfl)
theorem c_isDigit (d : Nat) (x : Int32) (μ : sM) : callD (d + 1) 10 [.int x] μ = some (some (.int (if ¬ x < nI 48 ∧ ¬ nI 57 < x then nI 1 else nI 0)), μ) := by
  rw [callD_e (Nat.le_of_ble_eq_true rfl), runD_evW]
  simp (maxSteps := 3000000) (disch := omega) only [evW_s, st_icN, st_icM, st_lconst, st_iload, st_aload, st_lload, st_istore, st_astore, st_lstore, st_iinc, st_iadd, st_isub, st_imul, st_iand, st_ior, st_ixor, st_ishl, st_ishr, st_iushr, st_idiv, st_irem, st_i2b, st_i2s, st_i2c, st_i2l, st_l2i, st_land, st_lor, st_lshl, st_lshr, st_lcmp, st_dup, st_dupa, st_dup2, st_pop, st_goto, st_ceq, st_cne, st_clt, st_cge, st_cgt, st_cle, st_zeq, st_zne, st_zlt, st_zge, st_zgt, st_zle, st_tsw, st_lsw, st_iaload, st_baload, st_caload, st_laload, st_aaload, st_iastore, st_bastore, st_lastore, st_alen, st_get, st_put, st_gets, st_ldc, st_v1, st_v2, st_v3, st_v4, st_v5, st_v6, st_s1, st_s2, st_s3, st_s4, st_cpy, st_iret, st_zret, st_bret, st_cret, st_lret, st_vret, ldI_, ldA_, ldL_, stB_0, stB_1, stB_s, notL_i, notL_r, notL_n, gfK_r, gfK_i, cont_v, cont_n, cont_ite, rcOK, tb_o, tb_k, tb_c, tb_n, tb_rd, tb_al, tb_ki, swT, swL, List.getD_cons_zero, List.getD_cons_succ, List.set_cons_zero, List.set_cons_succ, List.length_cons, List.length_nil, Nat.reduceAdd, Nat.reduceMul, Nat.reduceLeDiff, Nat.reduceDiv, Nat.reduceMod, Nat.reduceBEq, Nat.reduceEqDiff, Int.reduceToNat, Int.reduceAdd, Int64.reduceOfInt, Bool.true_and, Bool.and_true, Bool.and_self, Bool.false_and, Bool.and_false, Bool.false_eq_true, Bool.or_true, Bool.true_or, Bool.or_false, Bool.false_or, if_true, if_false, ↓reduceIte, ↓reduceDIte, true_and, and_true, and_self, Nat.le_refl, Nat.zero_le, beq_self_eq_true, loc0, tb_m, xp_0, xp_i, xp_r, xp_l, pad, ne_eq, not_false_eq_true, Nat.reduceSub, oiN, oiM, oN, List.toList_toArray, Nat.not_lt_zero, Nat.and_one_is_mod, sh1, shr_nI, fa_or, fa_and, fb_xorI, Nat.or_zero, Nat.lt_irrefl, nI_add, nI_mul, nI_sub, nI_clamp, nI_ltI, nI_eq, nI_eq0, nI_0eq, nI_lt0, nI_0lt, nI_ltM1, nI_M1lt, nI_neM1, nI_M1ne, mI_lt0, mI_eq0, mI_0lt, ib_nI, nI_1, zr1, zr2, nb_z, nb_m, nz_z, nz_m, jn_, jr_, nI_eq1, Classical.not_not, nI_b01, nI_b11, nb_a, nb_o, nb_n, nb_na, Nat.reduceLT, Nat.reducePow, Nat.reduceShiftRight, Nat.reduceAnd, Nat.reduceOr, wI_up, wL_up, cpI_up, cpL_up, up_eq, up_ne, up_up, up_comm, up2_up, up_2, up2_1, up2_eq, up2_ne, up2_up2, and_false, false_and, or_true, true_or, or_false, false_or, not_true_eq_false, xm1, and0, ud_eq, bOK_t, k_10]
  all_goals (by_cases h1 : x < nI 48 <;> by_cases h2 : nI 57 < x <;> simp [h1, h2] <;> rfl)
theorem c_lt93 (d T st : Nat) (B : Nat → Nat) (g : Nat → Int32) (μ : sM) (hB : TB B T μ) (h1 : g 1 = nI T) (h4 : g 4 = nI st) (hst : st ≤ T) : runD (d + 1) 8 93 [.ref 43] [] (up 43 g μ) = some (none, up 43 (upd g 4 (nI (rnp (fun j => isLt (B j)) T st))) μ) := by
  obtain ⟨hT, hB1, hB2⟩ := hB
  obtain ⟨r1, r2, r3, r4⟩ := rnp_spec (p := fun j => isLt (B j)) hst
  obtain ⟨en, hen⟩ : ∃ en, en = rnp (fun j => isLt (B j)) T st := ⟨_, rfl⟩
  rw [← hen] at r1 r2 r3 r4 ⊢
  have e0 : up 43 (upd g 4 (nI (st + 0))) μ = up 43 g μ := by rw [Nat.add_zero, upd_self h4]
  conv => lhs; rw [← e0]
  refine loopU (f := fun j => runD (d + 1) 8 93 [.ref 43] [] (up 43 (upd g 4 (nI (st + j))) μ)) (n := en - st) (fun j hj => ?_) ?_
  · have hlt : (st + j < T) = True := eq_true (by omega)
    have hb := hB2 (st + j) (by omega)
    have hc : (¬ bC (B (st + j)) < nI 97 ∧ ¬ nI 122 < bC (B (st + j))) = True := eq_true ((bC_lt _ (hB1 _ (by omega))).mpr (r3 (st + j) (by omega) (by omega)))
    rw [show st + (j + 1) = st + j + 1 from rfl]
    generalize st + j = y at hlt hb hc ⊢
    have hy : y < 120 := by have := of_eq_true hlt; omega
    conv => lhs; rw [runD_evW]
    simp (maxSteps := 3000000) (disch := omega) only [evW_s, st_icN, st_icM, st_lconst, st_iload, st_aload, st_lload, st_istore, st_astore, st_lstore, st_iinc, st_iadd, st_isub, st_imul, st_iand, st_ior, st_ixor, st_ishl, st_ishr, st_iushr, st_idiv, st_irem, st_i2b, st_i2s, st_i2c, st_i2l, st_l2i, st_land, st_lor, st_lshl, st_lshr, st_lcmp, st_dup, st_dupa, st_dup2, st_pop, st_goto, st_ceq, st_cne, st_clt, st_cge, st_cgt, st_cle, st_zeq, st_zne, st_zlt, st_zge, st_zgt, st_zle, st_tsw, st_lsw, st_iaload, st_baload, st_caload, st_laload, st_aaload, st_iastore, st_bastore, st_lastore, st_alen, st_get, st_put, st_gets, st_ldc, st_v1, st_v2, st_v3, st_v4, st_v5, st_v6, st_s1, st_s2, st_s3, st_s4, st_cpy, st_iret, st_zret, st_bret, st_cret, st_lret, st_vret, ldI_, ldA_, ldL_, stB_0, stB_1, stB_s, notL_i, notL_r, notL_n, gfK_r, gfK_i, cont_v, cont_n, cont_ite, rcOK, tb_o, tb_k, tb_c, tb_n, tb_rd, tb_al, tb_ki, swT, swL, List.getD_cons_zero, List.getD_cons_succ, List.set_cons_zero, List.set_cons_succ, List.length_cons, List.length_nil, Nat.reduceAdd, Nat.reduceMul, Nat.reduceLeDiff, Nat.reduceDiv, Nat.reduceMod, Nat.reduceBEq, Nat.reduceEqDiff, Int.reduceToNat, Int.reduceAdd, Int64.reduceOfInt, Bool.true_and, Bool.and_true, Bool.and_self, Bool.false_and, Bool.and_false, Bool.false_eq_true, Bool.or_true, Bool.true_or, Bool.or_false, Bool.false_or, if_true, if_false, ↓reduceIte, ↓reduceDIte, true_and, and_true, and_self, Nat.le_refl, Nat.zero_le, beq_self_eq_true, loc0, tb_m, xp_0, xp_i, xp_r, xp_l, pad, ne_eq, not_false_eq_true, Nat.reduceSub, oiN, oiM, oN, List.toList_toArray, Nat.not_lt_zero, Nat.and_one_is_mod, sh1, shr_nI, fa_or, fa_and, fb_xorI, Nat.or_zero, Nat.lt_irrefl, nI_add, nI_mul, nI_sub, nI_clamp, nI_ltI, nI_eq, nI_eq0, nI_0eq, nI_lt0, nI_0lt, nI_ltM1, nI_M1lt, nI_neM1, nI_M1ne, mI_lt0, mI_eq0, mI_0lt, ib_nI, nI_1, zr1, zr2, nb_z, nb_m, nz_z, nz_m, jn_, jr_, nI_eq1, Classical.not_not, nI_b01, nI_b11, nb_a, nb_o, nb_n, nb_na, Nat.reduceLT, Nat.reducePow, Nat.reduceShiftRight, Nat.reduceAnd, Nat.reduceOr, wI_up, wL_up, cpI_up, cpL_up, up_eq, up_ne, up_up, up_comm, up2_up, up_2, up2_1, up2_eq, up2_ne, up2_up2, and_false, false_and, or_true, true_or, or_false, false_or, not_true_eq_false, xm1, and0, ud_eq, bOK_t, k_8, h1, hlt, hb, c_isLetter, hc, ud_ne, ud_ud]
  · rw [show st + (en - st) = en by omega]
    rw [runD_evW]
    by_cases q : en < T
    · have hb := hB2 en (by omega)
      have hc : (¬ bC (B en) < nI 97 ∧ ¬ nI 122 < bC (B en)) = False := eq_false (fun z => by
        have := (bC_lt _ (hB1 _ (by omega))).mp z
        rw [r4 q] at this
        cases this)
      simp (maxSteps := 3000000) (disch := omega) only [evW_s, st_icN, st_icM, st_lconst, st_iload, st_aload, st_lload, st_istore, st_astore, st_lstore, st_iinc, st_iadd, st_isub, st_imul, st_iand, st_ior, st_ixor, st_ishl, st_ishr, st_iushr, st_idiv, st_irem, st_i2b, st_i2s, st_i2c, st_i2l, st_l2i, st_land, st_lor, st_lshl, st_lshr, st_lcmp, st_dup, st_dupa, st_dup2, st_pop, st_goto, st_ceq, st_cne, st_clt, st_cge, st_cgt, st_cle, st_zeq, st_zne, st_zlt, st_zge, st_zgt, st_zle, st_tsw, st_lsw, st_iaload, st_baload, st_caload, st_laload, st_aaload, st_iastore, st_bastore, st_lastore, st_alen, st_get, st_put, st_gets, st_ldc, st_v1, st_v2, st_v3, st_v4, st_v5, st_v6, st_s1, st_s2, st_s3, st_s4, st_cpy, st_iret, st_zret, st_bret, st_cret, st_lret, st_vret, ldI_, ldA_, ldL_, stB_0, stB_1, stB_s, notL_i, notL_r, notL_n, gfK_r, gfK_i, cont_v, cont_n, cont_ite, rcOK, tb_o, tb_k, tb_c, tb_n, tb_rd, tb_al, tb_ki, swT, swL, List.getD_cons_zero, List.getD_cons_succ, List.set_cons_zero, List.set_cons_succ, List.length_cons, List.length_nil, Nat.reduceAdd, Nat.reduceMul, Nat.reduceLeDiff, Nat.reduceDiv, Nat.reduceMod, Nat.reduceBEq, Nat.reduceEqDiff, Int.reduceToNat, Int.reduceAdd, Int64.reduceOfInt, Bool.true_and, Bool.and_true, Bool.and_self, Bool.false_and, Bool.and_false, Bool.false_eq_true, Bool.or_true, Bool.true_or, Bool.or_false, Bool.false_or, if_true, if_false, ↓reduceIte, ↓reduceDIte, true_and, and_true, and_self, Nat.le_refl, Nat.zero_le, beq_self_eq_true, loc0, tb_m, xp_0, xp_i, xp_r, xp_l, pad, ne_eq, not_false_eq_true, Nat.reduceSub, oiN, oiM, oN, List.toList_toArray, Nat.not_lt_zero, Nat.and_one_is_mod, sh1, shr_nI, fa_or, fa_and, fb_xorI, Nat.or_zero, Nat.lt_irrefl, nI_add, nI_mul, nI_sub, nI_clamp, nI_ltI, nI_eq, nI_eq0, nI_0eq, nI_lt0, nI_0lt, nI_ltM1, nI_M1lt, nI_neM1, nI_M1ne, mI_lt0, mI_eq0, mI_0lt, ib_nI, nI_1, zr1, zr2, nb_z, nb_m, nz_z, nz_m, jn_, jr_, nI_eq1, Classical.not_not, nI_b01, nI_b11, nb_a, nb_o, nb_n, nb_na, Nat.reduceLT, Nat.reducePow, Nat.reduceShiftRight, Nat.reduceAnd, Nat.reduceOr, wI_up, wL_up, cpI_up, cpL_up, up_eq, up_ne, up_up, up_comm, up2_up, up_2, up2_1, up2_eq, up2_ne, up2_up2, and_false, false_and, or_true, true_or, or_false, false_or, not_true_eq_false, xm1, and0, ud_eq, bOK_t, k_8, h1, q, hb, c_isLetter, hc, ud_ne, ud_ud]
    · simp (maxSteps := 3000000) (disch := omega) only [evW_s, st_icN, st_icM, st_lconst, st_iload, st_aload, st_lload, st_istore, st_astore, st_lstore, st_iinc, st_iadd, st_isub, st_imul, st_iand, st_ior, st_ixor, st_ishl, st_ishr, st_iushr, st_idiv, st_irem, st_i2b, st_i2s, st_i2c, st_i2l, st_l2i, st_land, st_lor, st_lshl, st_lshr, st_lcmp, st_dup, st_dupa, st_dup2, st_pop, st_goto, st_ceq, st_cne, st_clt, st_cge, st_cgt, st_cle, st_zeq, st_zne, st_zlt, st_zge, st_zgt, st_zle, st_tsw, st_lsw, st_iaload, st_baload, st_caload, st_laload, st_aaload, st_iastore, st_bastore, st_lastore, st_alen, st_get, st_put, st_gets, st_ldc, st_v1, st_v2, st_v3, st_v4, st_v5, st_v6, st_s1, st_s2, st_s3, st_s4, st_cpy, st_iret, st_zret, st_bret, st_cret, st_lret, st_vret, ldI_, ldA_, ldL_, stB_0, stB_1, stB_s, notL_i, notL_r, notL_n, gfK_r, gfK_i, cont_v, cont_n, cont_ite, rcOK, tb_o, tb_k, tb_c, tb_n, tb_rd, tb_al, tb_ki, swT, swL, List.getD_cons_zero, List.getD_cons_succ, List.set_cons_zero, List.set_cons_succ, List.length_cons, List.length_nil, Nat.reduceAdd, Nat.reduceMul, Nat.reduceLeDiff, Nat.reduceDiv, Nat.reduceMod, Nat.reduceBEq, Nat.reduceEqDiff, Int.reduceToNat, Int.reduceAdd, Int64.reduceOfInt, Bool.true_and, Bool.and_true, Bool.and_self, Bool.false_and, Bool.and_false, Bool.false_eq_true, Bool.or_true, Bool.true_or, Bool.or_false, Bool.false_or, if_true, if_false, ↓reduceIte, ↓reduceDIte, true_and, and_true, and_self, Nat.le_refl, Nat.zero_le, beq_self_eq_true, loc0, tb_m, xp_0, xp_i, xp_r, xp_l, pad, ne_eq, not_false_eq_true, Nat.reduceSub, oiN, oiM, oN, List.toList_toArray, Nat.not_lt_zero, Nat.and_one_is_mod, sh1, shr_nI, fa_or, fa_and, fb_xorI, Nat.or_zero, Nat.lt_irrefl, nI_add, nI_mul, nI_sub, nI_clamp, nI_ltI, nI_eq, nI_eq0, nI_0eq, nI_lt0, nI_0lt, nI_ltM1, nI_M1lt, nI_neM1, nI_M1ne, mI_lt0, mI_eq0, mI_0lt, ib_nI, nI_1, zr1, zr2, nb_z, nb_m, nz_z, nz_m, jn_, jr_, nI_eq1, Classical.not_not, nI_b01, nI_b11, nb_a, nb_o, nb_n, nb_na, Nat.reduceLT, Nat.reducePow, Nat.reduceShiftRight, Nat.reduceAnd, Nat.reduceOr, wI_up, wL_up, cpI_up, cpL_up, up_eq, up_ne, up_up, up_comm, up2_up, up_2, up2_1, up2_eq, up2_ne, up2_up2, and_false, false_and, or_true, true_or, or_false, false_or, not_true_eq_false, xm1, and0, ud_eq, bOK_t, k_8, h1, q, ud_ne, ud_ud]
theorem c_dg157 (d T st : Nat) (B : Nat → Nat) (g : Nat → Int32) (μ : sM) (hB : TB B T μ) (h1 : g 1 = nI T) (h4 : g 4 = nI st) (h5 : g 5 = nI 0) (hst : st ≤ T) : runD (d + 1) 8 157 [.ref 43] [] (up 43 g μ) = some (none, up 43 (upd (upd g 4 (nI (rnp (fun j => isDg (B j)) T st))) 5 (nI (mn 100 (nv B st (rnp (fun j => isDg (B j)) T st - st))))) μ) := by
  obtain ⟨hT, hB1, hB2⟩ := hB
  obtain ⟨r1, r2, r3, r4⟩ := rnp_spec (p := fun j => isDg (B j)) hst
  obtain ⟨en, hen⟩ : ∃ en, en = rnp (fun j => isDg (B j)) T st := ⟨_, rfl⟩
  rw [← hen] at r1 r2 r3 r4 ⊢
  have e0 : up 43 (upd (upd g 4 (nI (st + 0))) 5 (nI (mn 100 (nv B st 0)))) μ = up 43 g μ := by
    rw [Nat.add_zero, upd_self h4, upd_self (show g 5 = nI (mn 100 (nv B st 0)) from h5)]
  conv => lhs; rw [← e0]
  refine loopU (f := fun j => runD (d + 1) 8 157 [.ref 43] [] (up 43 (upd (upd g 4 (nI (st + j))) 5 (nI (mn 100 (nv B st j)))) μ)) (n := en - st) (fun j hj => ?_) ?_
  · have hlt : (st + j < T) = True := eq_true (by omega)
    have hb := hB2 (st + j) (by omega)
    have hdg : isDg (B (st + j)) = true := r3 (st + j) (by omega) (by omega)
    have hc : (¬ bC (B (st + j)) < nI 48 ∧ ¬ nI 57 < bC (B (st + j))) = True := eq_true ((bC_dg _ (hB1 _ (by omega))).mpr hdg)
    have hv : 48 ≤ B (st + j) ∧ B (st + j) ≤ 57 := by unfold isDg at hdg; simpa using hdg
    have hbn : bC (B (st + j)) = nI (B (st + j)) := bC_nI _ (by omega)
    have hm : mn 100 (10 * mn 100 (nv B st j) + B (st + j) - 48) = mn 100 (nv B st (j + 1)) := mn_hold 100 (nv B st j) (B (st + j)) (by decide) hv.1
    have hml := mn_le 100 (nv B st j)
    have hmin := fun μ => min_n d (10 * mn 100 (nv B st j) + B (st + j) - 48) 100 μ (by omega) (by decide)
    rw [hm] at hmin
    rw [show st + (j + 1) = st + j + 1 from rfl]
    rw [hbn] at hb
    clear hc
    generalize mn 100 (nv B st (j + 1)) = w' at hmin ⊢
    generalize mn 100 (nv B st j) = w at hml hmin ⊢
    generalize hBv : B (st + j) = v at hb hv hmin
    generalize st + j = y at hlt hb ⊢
    have hy : y < 120 := by have := of_eq_true hlt; omega
    conv => lhs; rw [runD_evW]
    have v48 : (v < 48) = False := eq_false (by omega)
    have v57 : (57 < v) = False := eq_false (by omega)
    simp (maxSteps := 3000000) (disch := omega) only [evW_s, st_icN, st_icM, st_lconst, st_iload, st_aload, st_lload, st_istore, st_astore, st_lstore, st_iinc, st_iadd, st_isub, st_imul, st_iand, st_ior, st_ixor, st_ishl, st_ishr, st_iushr, st_idiv, st_irem, st_i2b, st_i2s, st_i2c, st_i2l, st_l2i, st_land, st_lor, st_lshl, st_lshr, st_lcmp, st_dup, st_dupa, st_dup2, st_pop, st_goto, st_ceq, st_cne, st_clt, st_cge, st_cgt, st_cle, st_zeq, st_zne, st_zlt, st_zge, st_zgt, st_zle, st_tsw, st_lsw, st_iaload, st_baload, st_caload, st_laload, st_aaload, st_iastore, st_bastore, st_lastore, st_alen, st_get, st_put, st_gets, st_ldc, st_v1, st_v2, st_v3, st_v4, st_v5, st_v6, st_s1, st_s2, st_s3, st_s4, st_cpy, st_iret, st_zret, st_bret, st_cret, st_lret, st_vret, ldI_, ldA_, ldL_, stB_0, stB_1, stB_s, notL_i, notL_r, notL_n, gfK_r, gfK_i, cont_v, cont_n, cont_ite, rcOK, tb_o, tb_k, tb_c, tb_n, tb_rd, tb_al, tb_ki, swT, swL, List.getD_cons_zero, List.getD_cons_succ, List.set_cons_zero, List.set_cons_succ, List.length_cons, List.length_nil, Nat.reduceAdd, Nat.reduceMul, Nat.reduceLeDiff, Nat.reduceDiv, Nat.reduceMod, Nat.reduceBEq, Nat.reduceEqDiff, Int.reduceToNat, Int.reduceAdd, Int64.reduceOfInt, Bool.true_and, Bool.and_true, Bool.and_self, Bool.false_and, Bool.and_false, Bool.false_eq_true, Bool.or_true, Bool.true_or, Bool.or_false, Bool.false_or, if_true, if_false, ↓reduceIte, ↓reduceDIte, true_and, and_true, and_self, Nat.le_refl, Nat.zero_le, beq_self_eq_true, loc0, tb_m, xp_0, xp_i, xp_r, xp_l, pad, ne_eq, not_false_eq_true, Nat.reduceSub, oiN, oiM, oN, List.toList_toArray, Nat.not_lt_zero, Nat.and_one_is_mod, sh1, shr_nI, fa_or, fa_and, fb_xorI, Nat.or_zero, Nat.lt_irrefl, nI_add, nI_mul, nI_sub, nI_clamp, nI_ltI, nI_eq, nI_eq0, nI_0eq, nI_lt0, nI_0lt, nI_ltM1, nI_M1lt, nI_neM1, nI_M1ne, mI_lt0, mI_eq0, mI_0lt, ib_nI, nI_1, zr1, zr2, nb_z, nb_m, nz_z, nz_m, jn_, jr_, nI_eq1, Classical.not_not, nI_b01, nI_b11, nb_a, nb_o, nb_n, nb_na, Nat.reduceLT, Nat.reducePow, Nat.reduceShiftRight, Nat.reduceAnd, Nat.reduceOr, wI_up, wL_up, cpI_up, cpL_up, up_eq, up_ne, up_up, up_comm, up2_up, up_2, up2_1, up2_eq, up2_ne, up2_up2, and_false, false_and, or_true, true_or, or_false, false_or, not_true_eq_false, xm1, and0, ud_eq, bOK_t, k_8, h1, hlt, hb, c_isDigit, v48, v57, hmin, ud_ne, ud_ud, ud_comm]
  · rw [show st + (en - st) = en by omega]
    rw [runD_evW]
    by_cases q : en < T
    · have hb := hB2 en (by omega)
      have hc : (¬ bC (B en) < nI 48 ∧ ¬ nI 57 < bC (B en)) = False := eq_false (fun z => by
        have := (bC_dg _ (hB1 _ (by omega))).mp z
        rw [r4 q] at this
        cases this)
      simp (maxSteps := 3000000) (disch := omega) only [evW_s, st_icN, st_icM, st_lconst, st_iload, st_aload, st_lload, st_istore, st_astore, st_lstore, st_iinc, st_iadd, st_isub, st_imul, st_iand, st_ior, st_ixor, st_ishl, st_ishr, st_iushr, st_idiv, st_irem, st_i2b, st_i2s, st_i2c, st_i2l, st_l2i, st_land, st_lor, st_lshl, st_lshr, st_lcmp, st_dup, st_dupa, st_dup2, st_pop, st_goto, st_ceq, st_cne, st_clt, st_cge, st_cgt, st_cle, st_zeq, st_zne, st_zlt, st_zge, st_zgt, st_zle, st_tsw, st_lsw, st_iaload, st_baload, st_caload, st_laload, st_aaload, st_iastore, st_bastore, st_lastore, st_alen, st_get, st_put, st_gets, st_ldc, st_v1, st_v2, st_v3, st_v4, st_v5, st_v6, st_s1, st_s2, st_s3, st_s4, st_cpy, st_iret, st_zret, st_bret, st_cret, st_lret, st_vret, ldI_, ldA_, ldL_, stB_0, stB_1, stB_s, notL_i, notL_r, notL_n, gfK_r, gfK_i, cont_v, cont_n, cont_ite, rcOK, tb_o, tb_k, tb_c, tb_n, tb_rd, tb_al, tb_ki, swT, swL, List.getD_cons_zero, List.getD_cons_succ, List.set_cons_zero, List.set_cons_succ, List.length_cons, List.length_nil, Nat.reduceAdd, Nat.reduceMul, Nat.reduceLeDiff, Nat.reduceDiv, Nat.reduceMod, Nat.reduceBEq, Nat.reduceEqDiff, Int.reduceToNat, Int.reduceAdd, Int64.reduceOfInt, Bool.true_and, Bool.and_true, Bool.and_self, Bool.false_and, Bool.and_false, Bool.false_eq_true, Bool.or_true, Bool.true_or, Bool.or_false, Bool.false_or, if_true, if_false, ↓reduceIte, ↓reduceDIte, true_and, and_true, and_self, Nat.le_refl, Nat.zero_le, beq_self_eq_true, loc0, tb_m, xp_0, xp_i, xp_r, xp_l, pad, ne_eq, not_false_eq_true, Nat.reduceSub, oiN, oiM, oN, List.toList_toArray, Nat.not_lt_zero, Nat.and_one_is_mod, sh1, shr_nI, fa_or, fa_and, fb_xorI, Nat.or_zero, Nat.lt_irrefl, nI_add, nI_mul, nI_sub, nI_clamp, nI_ltI, nI_eq, nI_eq0, nI_0eq, nI_lt0, nI_0lt, nI_ltM1, nI_M1lt, nI_neM1, nI_M1ne, mI_lt0, mI_eq0, mI_0lt, ib_nI, nI_1, zr1, zr2, nb_z, nb_m, nz_z, nz_m, jn_, jr_, nI_eq1, Classical.not_not, nI_b01, nI_b11, nb_a, nb_o, nb_n, nb_na, Nat.reduceLT, Nat.reducePow, Nat.reduceShiftRight, Nat.reduceAnd, Nat.reduceOr, wI_up, wL_up, cpI_up, cpL_up, up_eq, up_ne, up_up, up_comm, up2_up, up_2, up2_1, up2_eq, up2_ne, up2_up2, and_false, false_and, or_true, true_or, or_false, false_or, not_true_eq_false, xm1, and0, ud_eq, bOK_t, k_8, h1, q, hb, c_isDigit, hc, ud_ne, ud_ud, ud_comm]
    · simp (maxSteps := 3000000) (disch := omega) only [evW_s, st_icN, st_icM, st_lconst, st_iload, st_aload, st_lload, st_istore, st_astore, st_lstore, st_iinc, st_iadd, st_isub, st_imul, st_iand, st_ior, st_ixor, st_ishl, st_ishr, st_iushr, st_idiv, st_irem, st_i2b, st_i2s, st_i2c, st_i2l, st_l2i, st_land, st_lor, st_lshl, st_lshr, st_lcmp, st_dup, st_dupa, st_dup2, st_pop, st_goto, st_ceq, st_cne, st_clt, st_cge, st_cgt, st_cle, st_zeq, st_zne, st_zlt, st_zge, st_zgt, st_zle, st_tsw, st_lsw, st_iaload, st_baload, st_caload, st_laload, st_aaload, st_iastore, st_bastore, st_lastore, st_alen, st_get, st_put, st_gets, st_ldc, st_v1, st_v2, st_v3, st_v4, st_v5, st_v6, st_s1, st_s2, st_s3, st_s4, st_cpy, st_iret, st_zret, st_bret, st_cret, st_lret, st_vret, ldI_, ldA_, ldL_, stB_0, stB_1, stB_s, notL_i, notL_r, notL_n, gfK_r, gfK_i, cont_v, cont_n, cont_ite, rcOK, tb_o, tb_k, tb_c, tb_n, tb_rd, tb_al, tb_ki, swT, swL, List.getD_cons_zero, List.getD_cons_succ, List.set_cons_zero, List.set_cons_succ, List.length_cons, List.length_nil, Nat.reduceAdd, Nat.reduceMul, Nat.reduceLeDiff, Nat.reduceDiv, Nat.reduceMod, Nat.reduceBEq, Nat.reduceEqDiff, Int.reduceToNat, Int.reduceAdd, Int64.reduceOfInt, Bool.true_and, Bool.and_true, Bool.and_self, Bool.false_and, Bool.and_false, Bool.false_eq_true, Bool.or_true, Bool.true_or, Bool.or_false, Bool.false_or, if_true, if_false, ↓reduceIte, ↓reduceDIte, true_and, and_true, and_self, Nat.le_refl, Nat.zero_le, beq_self_eq_true, loc0, tb_m, xp_0, xp_i, xp_r, xp_l, pad, ne_eq, not_false_eq_true, Nat.reduceSub, oiN, oiM, oN, List.toList_toArray, Nat.not_lt_zero, Nat.and_one_is_mod, sh1, shr_nI, fa_or, fa_and, fb_xorI, Nat.or_zero, Nat.lt_irrefl, nI_add, nI_mul, nI_sub, nI_clamp, nI_ltI, nI_eq, nI_eq0, nI_0eq, nI_lt0, nI_0lt, nI_ltM1, nI_M1lt, nI_neM1, nI_M1ne, mI_lt0, mI_eq0, mI_0lt, ib_nI, nI_1, zr1, zr2, nb_z, nb_m, nz_z, nz_m, jn_, jr_, nI_eq1, Classical.not_not, nI_b01, nI_b11, nb_a, nb_o, nb_n, nb_na, Nat.reduceLT, Nat.reducePow, Nat.reduceShiftRight, Nat.reduceAnd, Nat.reduceOr, wI_up, wL_up, cpI_up, cpL_up, up_eq, up_ne, up_up, up_comm, up2_up, up_2, up2_1, up2_eq, up2_ne, up2_up2, and_false, false_and, or_true, true_or, or_false, false_or, not_true_eq_false, xm1, and0, ud_eq, bOK_t, k_8, h1, q, ud_ne, ud_ud, ud_comm]
set_option maxHeartbeats 8000000 in
theorem c_adv (d T e : Nat) (B : Nat → Nat) (μ : sM) (hB : TB B T μ) (he : e ≤ T) (h1 : μ.1 43 1 = nI T) (h4 : μ.1 43 4 = nI e) : ∃ f, callD (d + 2) 8 [.ref 43] μ = some (none, up 43 f μ) ∧ CT B T e f := by
  have hB0 := hB
  obtain ⟨hT, hB1, hB2⟩ := hB
  obtain ⟨s1, s2, s3, s4⟩ := tkS_spec (B := B) he
  have hcs := tkK_cases (B := B) he
  have hle := tkE_le (B := B) he
  obtain ⟨st, hst⟩ : ∃ st, st = tkS B T e := ⟨_, rfl⟩
  obtain ⟨r, hr⟩ : ∃ r, r = μ.1 43 := ⟨_, rfl⟩
  rw [← hr] at h1 h4
  have hl1 : callD (d + 2) 8 [.ref 43] μ = runD (d + 1) 8 8 [.ref 43] [] (up 43 (upd r 3 (nI st)) μ) := by
    rw [callD_e (Nat.le_of_ble_eq_true rfl), runD_evW]
    simp (maxSteps := 3000000) (disch := omega) only [evW_s, st_icN, st_icM, st_lconst, st_iload, st_aload, st_lload, st_istore, st_astore, st_lstore, st_iinc, st_iadd, st_isub, st_imul, st_iand, st_ior, st_ixor, st_ishl, st_ishr, st_iushr, st_idiv, st_irem, st_i2b, st_i2s, st_i2c, st_i2l, st_l2i, st_land, st_lor, st_lshl, st_lshr, st_lcmp, st_dup, st_dupa, st_dup2, st_pop, st_goto, st_ceq, st_cne, st_clt, st_cge, st_cgt, st_cle, st_zeq, st_zne, st_zlt, st_zge, st_zgt, st_zle, st_tsw, st_lsw, st_iaload, st_baload, st_caload, st_laload, st_aaload, st_iastore, st_bastore, st_lastore, st_alen, st_get, st_put, st_gets, st_ldc, st_v1, st_v2, st_v3, st_v4, st_v5, st_v6, st_s1, st_s2, st_s3, st_s4, st_cpy, st_iret, st_zret, st_bret, st_cret, st_lret, st_vret, ldI_, ldA_, ldL_, stB_0, stB_1, stB_s, notL_i, notL_r, notL_n, gfK_r, gfK_i, cont_v, cont_n, cont_ite, rcOK, tb_o, tb_k, tb_c, tb_n, tb_rd, tb_al, tb_ki, swT, swL, List.getD_cons_zero, List.getD_cons_succ, List.set_cons_zero, List.set_cons_succ, List.length_cons, List.length_nil, Nat.reduceAdd, Nat.reduceMul, Nat.reduceLeDiff, Nat.reduceDiv, Nat.reduceMod, Nat.reduceBEq, Nat.reduceEqDiff, Int.reduceToNat, Int.reduceAdd, Int64.reduceOfInt, Bool.true_and, Bool.and_true, Bool.and_self, Bool.false_and, Bool.and_false, Bool.false_eq_true, Bool.or_true, Bool.true_or, Bool.or_false, Bool.false_or, if_true, if_false, ↓reduceIte, ↓reduceDIte, true_and, and_true, and_self, Nat.le_refl, Nat.zero_le, beq_self_eq_true, loc0, tb_m, xp_0, xp_i, xp_r, xp_l, pad, ne_eq, not_false_eq_true, Nat.reduceSub, oiN, oiM, oN, List.toList_toArray, Nat.not_lt_zero, Nat.and_one_is_mod, sh1, shr_nI, fa_or, fa_and, fb_xorI, Nat.or_zero, Nat.lt_irrefl, nI_add, nI_mul, nI_sub, nI_clamp, nI_ltI, nI_eq, nI_eq0, nI_0eq, nI_lt0, nI_0lt, nI_ltM1, nI_M1lt, nI_neM1, nI_M1ne, mI_lt0, mI_eq0, mI_0lt, ib_nI, nI_1, zr1, zr2, nb_z, nb_m, nz_z, nz_m, jn_, jr_, nI_eq1, Classical.not_not, nI_b01, nI_b11, nb_a, nb_o, nb_n, nb_na, Nat.reduceLT, Nat.reducePow, Nat.reduceShiftRight, Nat.reduceAnd, Nat.reduceOr, wI_up, wL_up, cpI_up, cpL_up, up_eq, up_ne, up_up, up_comm, up2_up, up_2, up2_1, up2_eq, up2_ne, up2_up2, and_false, false_and, or_true, true_or, or_false, false_or, not_true_eq_false, xm1, and0, ud_eq, bOK_t, k_8, ← hr, h4]
    have hlp := loopU (f := fun j => runD (d + 1) 8 8 [.ref 43] [] (up 43 (upd r 3 (nI (e + j))) μ)) (n := st - e) (R := runD (d + 1) 8 8 [.ref 43] [] (up 43 (upd r 3 (nI st)) μ)) (fun j hj => ?_) (by rw [show e + (st - e) = st by omega])
    · exact hlp
    · have hlt : (e + j < T) = True := eq_true (by omega)
      have hb := hB2 (e + j) (by omega)
      have hc : (bC (B (e + j)) = nI 32) = True := eq_true ((bC_32 _ (hB1 _ (by omega))).mpr (s3 (e + j) (by omega) (by omega)))
      rw [show e + (j + 1) = e + j + 1 from rfl]
      generalize e + j = y at hlt hb hc ⊢
      have hy : y < 120 := by have := of_eq_true hlt; omega
      conv => lhs; rw [runD_evW]
      simp (maxSteps := 3000000) (disch := omega) only [evW_s, st_icN, st_icM, st_lconst, st_iload, st_aload, st_lload, st_istore, st_astore, st_lstore, st_iinc, st_iadd, st_isub, st_imul, st_iand, st_ior, st_ixor, st_ishl, st_ishr, st_iushr, st_idiv, st_irem, st_i2b, st_i2s, st_i2c, st_i2l, st_l2i, st_land, st_lor, st_lshl, st_lshr, st_lcmp, st_dup, st_dupa, st_dup2, st_pop, st_goto, st_ceq, st_cne, st_clt, st_cge, st_cgt, st_cle, st_zeq, st_zne, st_zlt, st_zge, st_zgt, st_zle, st_tsw, st_lsw, st_iaload, st_baload, st_caload, st_laload, st_aaload, st_iastore, st_bastore, st_lastore, st_alen, st_get, st_put, st_gets, st_ldc, st_v1, st_v2, st_v3, st_v4, st_v5, st_v6, st_s1, st_s2, st_s3, st_s4, st_cpy, st_iret, st_zret, st_bret, st_cret, st_lret, st_vret, ldI_, ldA_, ldL_, stB_0, stB_1, stB_s, notL_i, notL_r, notL_n, gfK_r, gfK_i, cont_v, cont_n, cont_ite, rcOK, tb_o, tb_k, tb_c, tb_n, tb_rd, tb_al, tb_ki, swT, swL, List.getD_cons_zero, List.getD_cons_succ, List.set_cons_zero, List.set_cons_succ, List.length_cons, List.length_nil, Nat.reduceAdd, Nat.reduceMul, Nat.reduceLeDiff, Nat.reduceDiv, Nat.reduceMod, Nat.reduceBEq, Nat.reduceEqDiff, Int.reduceToNat, Int.reduceAdd, Int64.reduceOfInt, Bool.true_and, Bool.and_true, Bool.and_self, Bool.false_and, Bool.and_false, Bool.false_eq_true, Bool.or_true, Bool.true_or, Bool.or_false, Bool.false_or, if_true, if_false, ↓reduceIte, ↓reduceDIte, true_and, and_true, and_self, Nat.le_refl, Nat.zero_le, beq_self_eq_true, loc0, tb_m, xp_0, xp_i, xp_r, xp_l, pad, ne_eq, not_false_eq_true, Nat.reduceSub, oiN, oiM, oN, List.toList_toArray, Nat.not_lt_zero, Nat.and_one_is_mod, sh1, shr_nI, fa_or, fa_and, fb_xorI, Nat.or_zero, Nat.lt_irrefl, nI_add, nI_mul, nI_sub, nI_clamp, nI_ltI, nI_eq, nI_eq0, nI_0eq, nI_lt0, nI_0lt, nI_ltM1, nI_M1lt, nI_neM1, nI_M1ne, mI_lt0, mI_eq0, mI_0lt, ib_nI, nI_1, zr1, zr2, nb_z, nb_m, nz_z, nz_m, jn_, jr_, nI_eq1, Classical.not_not, nI_b01, nI_b11, nb_a, nb_o, nb_n, nb_na, Nat.reduceLT, Nat.reducePow, Nat.reduceShiftRight, Nat.reduceAnd, Nat.reduceOr, wI_up, wL_up, cpI_up, cpL_up, up_eq, up_ne, up_up, up_comm, up2_up, up_2, up2_1, up2_eq, up2_ne, up2_up2, and_false, false_and, or_true, true_or, or_false, false_or, not_true_eq_false, xm1, and0, ud_eq, bOK_t, k_8, h1, hlt, hb, hc, ud_ne, ud_ud]
  have hnb : st < T → (bC (B st) = nI 32) = False := fun q => eq_false (fun z => by
    have h := (bC_32 _ (hB1 _ (by omega))).mp z
    rw [hst] at q h
    rw [s4 q] at h
    cases h)
  rw [hl1]
  have fin : ∀ f, f 1 = nI T → f 2 = nI (tkK B T e) → f 3 = nI st → f 4 = nI (if tkK B T e = 4 then st else tkE B T e) → (tkK B T e = 2 → f 5 = nI (mn 100 (tkV B T e))) → CT B T e f := fun f a1 a2 a3 a4 a5 => ⟨a1, a2, by rw [← hst]; exact a3, by rw [← hst]; exact a4, a5⟩
  rw [← hst] at hcs s2
  rcases hcs with ⟨k0, k1, k2⟩ | ⟨k0, k1, k2, k3⟩ | ⟨k0, k1, k2, k3, k4⟩ | ⟨k0, k1, k2, k3, k4, k5⟩ | ⟨k0, k1, k2, k3, k4, k5⟩
  · have hlt : (st < T) = False := eq_false (by omega)
    have hst120 : st ≤ 120 := by omega
    refine ⟨upd (upd (upd r 2 (nI 0)) 3 (nI st)) 4 (nI st), ?_, fin _ ?_ ?_ ?_ ?_ ?_⟩
    · rw [runD_evW]
      simp (maxSteps := 3000000) (disch := omega) only [evW_s, st_icN, st_icM, st_lconst, st_iload, st_aload, st_lload, st_istore, st_astore, st_lstore, st_iinc, st_iadd, st_isub, st_imul, st_iand, st_ior, st_ixor, st_ishl, st_ishr, st_iushr, st_idiv, st_irem, st_i2b, st_i2s, st_i2c, st_i2l, st_l2i, st_land, st_lor, st_lshl, st_lshr, st_lcmp, st_dup, st_dupa, st_dup2, st_pop, st_goto, st_ceq, st_cne, st_clt, st_cge, st_cgt, st_cle, st_zeq, st_zne, st_zlt, st_zge, st_zgt, st_zle, st_tsw, st_lsw, st_iaload, st_baload, st_caload, st_laload, st_aaload, st_iastore, st_bastore, st_lastore, st_alen, st_get, st_put, st_gets, st_ldc, st_v1, st_v2, st_v3, st_v4, st_v5, st_v6, st_s1, st_s2, st_s3, st_s4, st_cpy, st_iret, st_zret, st_bret, st_cret, st_lret, st_vret, ldI_, ldA_, ldL_, stB_0, stB_1, stB_s, notL_i, notL_r, notL_n, gfK_r, gfK_i, cont_v, cont_n, cont_ite, rcOK, tb_o, tb_k, tb_c, tb_n, tb_rd, tb_al, tb_ki, swT, swL, List.getD_cons_zero, List.getD_cons_succ, List.set_cons_zero, List.set_cons_succ, List.length_cons, List.length_nil, Nat.reduceAdd, Nat.reduceMul, Nat.reduceLeDiff, Nat.reduceDiv, Nat.reduceMod, Nat.reduceBEq, Nat.reduceEqDiff, Int.reduceToNat, Int.reduceAdd, Int64.reduceOfInt, Bool.true_and, Bool.and_true, Bool.and_self, Bool.false_and, Bool.and_false, Bool.false_eq_true, Bool.or_true, Bool.true_or, Bool.or_false, Bool.false_or, if_true, if_false, ↓reduceIte, ↓reduceDIte, true_and, and_true, and_self, Nat.le_refl, Nat.zero_le, beq_self_eq_true, loc0, tb_m, xp_0, xp_i, xp_r, xp_l, pad, ne_eq, not_false_eq_true, Nat.reduceSub, oiN, oiM, oN, List.toList_toArray, Nat.not_lt_zero, Nat.and_one_is_mod, sh1, shr_nI, fa_or, fa_and, fb_xorI, Nat.or_zero, Nat.lt_irrefl, nI_add, nI_mul, nI_sub, nI_clamp, nI_ltI, nI_eq, nI_eq0, nI_0eq, nI_lt0, nI_0lt, nI_ltM1, nI_M1lt, nI_neM1, nI_M1ne, mI_lt0, mI_eq0, mI_0lt, ib_nI, nI_1, zr1, zr2, nb_z, nb_m, nz_z, nz_m, jn_, jr_, nI_eq1, Classical.not_not, nI_b01, nI_b11, nb_a, nb_o, nb_n, nb_na, Nat.reduceLT, Nat.reducePow, Nat.reduceShiftRight, Nat.reduceAnd, Nat.reduceOr, wI_up, wL_up, cpI_up, cpL_up, up_eq, up_ne, up_up, up_comm, up2_up, up_2, up2_1, up2_eq, up2_ne, up2_up2, and_false, false_and, or_true, true_or, or_false, false_or, not_true_eq_false, xm1, and0, ud_eq, bOK_t, k_8, h1, hlt, ud_ne, ud_ud, ud_comm]
    · simp (disch := decide) only [ud_ne, h1]
    · simp (disch := decide) only [ud_ne, ud_eq, k0]
    · simp (disch := decide) only [ud_ne, ud_eq]
    · rw [ud_eq, k0, if_neg (by decide), k2, k1]
    · intro z; omega
  · have hlt : (st < T) = True := eq_true k1
    have hb := hB2 st (by omega)
    have hnb' := hnb k1
    have hc : (¬ bC (B st) < nI 97 ∧ ¬ nI 122 < bC (B st)) = True := eq_true ((bC_lt _ (hB1 _ (by omega))).mpr k2)
    have hl := c_lt93 d T st B (upd (upd (upd r 2 (nI 1)) 3 (nI st)) 4 (nI st)) μ hB0 (by simp (disch := decide) only [ud_ne, h1]) ud_eq (by omega)
    refine ⟨_, Eq.trans ?_ hl, fin _ ?_ ?_ ?_ ?_ ?_⟩
    · have hy : st < 120 := by omega
      rw [runD_evW]
      simp (maxSteps := 3000000) (disch := omega) only [evW_s, st_icN, st_icM, st_lconst, st_iload, st_aload, st_lload, st_istore, st_astore, st_lstore, st_iinc, st_iadd, st_isub, st_imul, st_iand, st_ior, st_ixor, st_ishl, st_ishr, st_iushr, st_idiv, st_irem, st_i2b, st_i2s, st_i2c, st_i2l, st_l2i, st_land, st_lor, st_lshl, st_lshr, st_lcmp, st_dup, st_dupa, st_dup2, st_pop, st_goto, st_ceq, st_cne, st_clt, st_cge, st_cgt, st_cle, st_zeq, st_zne, st_zlt, st_zge, st_zgt, st_zle, st_tsw, st_lsw, st_iaload, st_baload, st_caload, st_laload, st_aaload, st_iastore, st_bastore, st_lastore, st_alen, st_get, st_put, st_gets, st_ldc, st_v1, st_v2, st_v3, st_v4, st_v5, st_v6, st_s1, st_s2, st_s3, st_s4, st_cpy, st_iret, st_zret, st_bret, st_cret, st_lret, st_vret, ldI_, ldA_, ldL_, stB_0, stB_1, stB_s, notL_i, notL_r, notL_n, gfK_r, gfK_i, cont_v, cont_n, cont_ite, rcOK, tb_o, tb_k, tb_c, tb_n, tb_rd, tb_al, tb_ki, swT, swL, List.getD_cons_zero, List.getD_cons_succ, List.set_cons_zero, List.set_cons_succ, List.length_cons, List.length_nil, Nat.reduceAdd, Nat.reduceMul, Nat.reduceLeDiff, Nat.reduceDiv, Nat.reduceMod, Nat.reduceBEq, Nat.reduceEqDiff, Int.reduceToNat, Int.reduceAdd, Int64.reduceOfInt, Bool.true_and, Bool.and_true, Bool.and_self, Bool.false_and, Bool.and_false, Bool.false_eq_true, Bool.or_true, Bool.true_or, Bool.or_false, Bool.false_or, if_true, if_false, ↓reduceIte, ↓reduceDIte, true_and, and_true, and_self, Nat.le_refl, Nat.zero_le, beq_self_eq_true, loc0, tb_m, xp_0, xp_i, xp_r, xp_l, pad, ne_eq, not_false_eq_true, Nat.reduceSub, oiN, oiM, oN, List.toList_toArray, Nat.not_lt_zero, Nat.and_one_is_mod, sh1, shr_nI, fa_or, fa_and, fb_xorI, Nat.or_zero, Nat.lt_irrefl, nI_add, nI_mul, nI_sub, nI_clamp, nI_ltI, nI_eq, nI_eq0, nI_0eq, nI_lt0, nI_0lt, nI_ltM1, nI_M1lt, nI_neM1, nI_M1ne, mI_lt0, mI_eq0, mI_0lt, ib_nI, nI_1, zr1, zr2, nb_z, nb_m, nz_z, nz_m, jn_, jr_, nI_eq1, Classical.not_not, nI_b01, nI_b11, nb_a, nb_o, nb_n, nb_na, Nat.reduceLT, Nat.reducePow, Nat.reduceShiftRight, Nat.reduceAnd, Nat.reduceOr, wI_up, wL_up, cpI_up, cpL_up, up_eq, up_ne, up_up, up_comm, up2_up, up_2, up2_1, up2_eq, up2_ne, up2_up2, and_false, false_and, or_true, true_or, or_false, false_or, not_true_eq_false, xm1, and0, ud_eq, bOK_t, k_8, h1, hlt, hb, hnb', c_isLetter, hc, ud_ne, ud_ud, ud_comm]
    · simp (disch := decide) only [ud_ne, h1]
    · simp (disch := decide) only [ud_ne, ud_eq, k0]
    · simp (disch := decide) only [ud_ne, ud_eq]
    · rw [ud_eq, k0, if_neg (by decide), k3]
    · intro z; omega
  · have hlt : (st < T) = True := eq_true k1
    have hb := hB2 st (by omega)
    have hnb' := hnb k1
    have hc : (¬ bC (B st) < nI 97 ∧ ¬ nI 122 < bC (B st)) = False := eq_false (fun z => by
      have := (bC_lt _ (hB1 _ (by omega))).mp z
      rw [k2] at this
      cases this)
    have hc2 : (¬ bC (B st) < nI 48 ∧ ¬ nI 57 < bC (B st)) = True := eq_true ((bC_dg _ (hB1 _ (by omega))).mpr k3)
    have hl := c_dg157 d T st B (upd (upd (upd (upd r 2 (nI 2)) 3 (nI st)) 4 (nI st)) 5 (nI 0)) μ hB0 (by simp (disch := decide) only [ud_ne, h1]) (by simp (disch := decide) only [ud_ne, ud_eq]) ud_eq (by omega)
    refine ⟨_, Eq.trans ?_ hl, fin _ ?_ ?_ ?_ ?_ ?_⟩
    · have hy : st < 120 := by omega
      rw [runD_evW]
      simp (maxSteps := 3000000) (disch := omega) only [evW_s, st_icN, st_icM, st_lconst, st_iload, st_aload, st_lload, st_istore, st_astore, st_lstore, st_iinc, st_iadd, st_isub, st_imul, st_iand, st_ior, st_ixor, st_ishl, st_ishr, st_iushr, st_idiv, st_irem, st_i2b, st_i2s, st_i2c, st_i2l, st_l2i, st_land, st_lor, st_lshl, st_lshr, st_lcmp, st_dup, st_dupa, st_dup2, st_pop, st_goto, st_ceq, st_cne, st_clt, st_cge, st_cgt, st_cle, st_zeq, st_zne, st_zlt, st_zge, st_zgt, st_zle, st_tsw, st_lsw, st_iaload, st_baload, st_caload, st_laload, st_aaload, st_iastore, st_bastore, st_lastore, st_alen, st_get, st_put, st_gets, st_ldc, st_v1, st_v2, st_v3, st_v4, st_v5, st_v6, st_s1, st_s2, st_s3, st_s4, st_cpy, st_iret, st_zret, st_bret, st_cret, st_lret, st_vret, ldI_, ldA_, ldL_, stB_0, stB_1, stB_s, notL_i, notL_r, notL_n, gfK_r, gfK_i, cont_v, cont_n, cont_ite, rcOK, tb_o, tb_k, tb_c, tb_n, tb_rd, tb_al, tb_ki, swT, swL, List.getD_cons_zero, List.getD_cons_succ, List.set_cons_zero, List.set_cons_succ, List.length_cons, List.length_nil, Nat.reduceAdd, Nat.reduceMul, Nat.reduceLeDiff, Nat.reduceDiv, Nat.reduceMod, Nat.reduceBEq, Nat.reduceEqDiff, Int.reduceToNat, Int.reduceAdd, Int64.reduceOfInt, Bool.true_and, Bool.and_true, Bool.and_self, Bool.false_and, Bool.and_false, Bool.false_eq_true, Bool.or_true, Bool.true_or, Bool.or_false, Bool.false_or, if_true, if_false, ↓reduceIte, ↓reduceDIte, true_and, and_true, and_self, Nat.le_refl, Nat.zero_le, beq_self_eq_true, loc0, tb_m, xp_0, xp_i, xp_r, xp_l, pad, ne_eq, not_false_eq_true, Nat.reduceSub, oiN, oiM, oN, List.toList_toArray, Nat.not_lt_zero, Nat.and_one_is_mod, sh1, shr_nI, fa_or, fa_and, fb_xorI, Nat.or_zero, Nat.lt_irrefl, nI_add, nI_mul, nI_sub, nI_clamp, nI_ltI, nI_eq, nI_eq0, nI_0eq, nI_lt0, nI_0lt, nI_ltM1, nI_M1lt, nI_neM1, nI_M1ne, mI_lt0, mI_eq0, mI_0lt, ib_nI, nI_1, zr1, zr2, nb_z, nb_m, nz_z, nz_m, jn_, jr_, nI_eq1, Classical.not_not, nI_b01, nI_b11, nb_a, nb_o, nb_n, nb_na, Nat.reduceLT, Nat.reducePow, Nat.reduceShiftRight, Nat.reduceAnd, Nat.reduceOr, wI_up, wL_up, cpI_up, cpL_up, up_eq, up_ne, up_up, up_comm, up2_up, up_2, up2_1, up2_eq, up2_ne, up2_up2, and_false, false_and, or_true, true_or, or_false, false_or, not_true_eq_false, xm1, and0, ud_eq, bOK_t, k_8, h1, hlt, hb, hnb', c_isLetter, hc, c_isDigit, hc2, ud_ne, ud_ud, ud_comm]
    · simp (disch := decide) only [ud_ne, h1]
    · simp (disch := decide) only [ud_ne, ud_eq, k0]
    · simp (disch := decide) only [ud_ne, ud_eq]
    · rw [ud_ne (by decide), ud_eq, k0, if_neg (by decide), k4]
    · intro _
      rw [ud_eq]
      unfold tkV
      rw [← hst, k4]
  · have hlt : (st < T) = True := eq_true k1
    have hb := hB2 st (by omega)
    have hnb' := hnb k1
    have hc : (¬ bC (B st) < nI 97 ∧ ¬ nI 122 < bC (B st)) = False := eq_false (fun z => by
      have := (bC_lt _ (hB1 _ (by omega))).mp z
      rw [k2] at this
      cases this)
    have hc2 : (¬ bC (B st) < nI 48 ∧ ¬ nI 57 < bC (B st)) = False := eq_false (fun z => by
      have := (bC_dg _ (hB1 _ (by omega))).mp z
      rw [k3] at this
      cases this)
    have hc3 : (bC (B st) = nI 59) = True := eq_true ((bC_59 _ (hB1 _ (by omega))).mpr k4)
    have hy : st < 120 := by omega
    refine ⟨upd (upd (upd r 2 (nI 3)) 3 (nI st)) 4 (nI (st + 1)), ?_, fin _ ?_ ?_ ?_ ?_ ?_⟩
    · rw [runD_evW]
      simp (maxSteps := 3000000) (disch := omega) only [evW_s, st_icN, st_icM, st_lconst, st_iload, st_aload, st_lload, st_istore, st_astore, st_lstore, st_iinc, st_iadd, st_isub, st_imul, st_iand, st_ior, st_ixor, st_ishl, st_ishr, st_iushr, st_idiv, st_irem, st_i2b, st_i2s, st_i2c, st_i2l, st_l2i, st_land, st_lor, st_lshl, st_lshr, st_lcmp, st_dup, st_dupa, st_dup2, st_pop, st_goto, st_ceq, st_cne, st_clt, st_cge, st_cgt, st_cle, st_zeq, st_zne, st_zlt, st_zge, st_zgt, st_zle, st_tsw, st_lsw, st_iaload, st_baload, st_caload, st_laload, st_aaload, st_iastore, st_bastore, st_lastore, st_alen, st_get, st_put, st_gets, st_ldc, st_v1, st_v2, st_v3, st_v4, st_v5, st_v6, st_s1, st_s2, st_s3, st_s4, st_cpy, st_iret, st_zret, st_bret, st_cret, st_lret, st_vret, ldI_, ldA_, ldL_, stB_0, stB_1, stB_s, notL_i, notL_r, notL_n, gfK_r, gfK_i, cont_v, cont_n, cont_ite, rcOK, tb_o, tb_k, tb_c, tb_n, tb_rd, tb_al, tb_ki, swT, swL, List.getD_cons_zero, List.getD_cons_succ, List.set_cons_zero, List.set_cons_succ, List.length_cons, List.length_nil, Nat.reduceAdd, Nat.reduceMul, Nat.reduceLeDiff, Nat.reduceDiv, Nat.reduceMod, Nat.reduceBEq, Nat.reduceEqDiff, Int.reduceToNat, Int.reduceAdd, Int64.reduceOfInt, Bool.true_and, Bool.and_true, Bool.and_self, Bool.false_and, Bool.and_false, Bool.false_eq_true, Bool.or_true, Bool.true_or, Bool.or_false, Bool.false_or, if_true, if_false, ↓reduceIte, ↓reduceDIte, true_and, and_true, and_self, Nat.le_refl, Nat.zero_le, beq_self_eq_true, loc0, tb_m, xp_0, xp_i, xp_r, xp_l, pad, ne_eq, not_false_eq_true, Nat.reduceSub, oiN, oiM, oN, List.toList_toArray, Nat.not_lt_zero, Nat.and_one_is_mod, sh1, shr_nI, fa_or, fa_and, fb_xorI, Nat.or_zero, Nat.lt_irrefl, nI_add, nI_mul, nI_sub, nI_clamp, nI_ltI, nI_eq, nI_eq0, nI_0eq, nI_lt0, nI_0lt, nI_ltM1, nI_M1lt, nI_neM1, nI_M1ne, mI_lt0, mI_eq0, mI_0lt, ib_nI, nI_1, zr1, zr2, nb_z, nb_m, nz_z, nz_m, jn_, jr_, nI_eq1, Classical.not_not, nI_b01, nI_b11, nb_a, nb_o, nb_n, nb_na, Nat.reduceLT, Nat.reducePow, Nat.reduceShiftRight, Nat.reduceAnd, Nat.reduceOr, wI_up, wL_up, cpI_up, cpL_up, up_eq, up_ne, up_up, up_comm, up2_up, up_2, up2_1, up2_eq, up2_ne, up2_up2, and_false, false_and, or_true, true_or, or_false, false_or, not_true_eq_false, xm1, and0, ud_eq, bOK_t, k_8, h1, hlt, hb, hnb', c_isLetter, hc, c_isDigit, hc2, hc3, ud_ne, ud_ud, ud_comm]
    · simp (disch := decide) only [ud_ne, h1]
    · simp (disch := decide) only [ud_ne, ud_eq, k0]
    · simp (disch := decide) only [ud_ne, ud_eq]
    · rw [ud_eq, k0, if_neg (by decide), k5]
    · intro z; omega
  · have hlt : (st < T) = True := eq_true k1
    have hb := hB2 st (by omega)
    have hnb' := hnb k1
    have hc : (¬ bC (B st) < nI 97 ∧ ¬ nI 122 < bC (B st)) = False := eq_false (fun z => by
      have := (bC_lt _ (hB1 _ (by omega))).mp z
      rw [k2] at this
      cases this)
    have hc2 : (¬ bC (B st) < nI 48 ∧ ¬ nI 57 < bC (B st)) = False := eq_false (fun z => by
      have := (bC_dg _ (hB1 _ (by omega))).mp z
      rw [k3] at this
      cases this)
    have hc3 : (bC (B st) = nI 59) = False := eq_false (fun z => k4 ((bC_59 _ (hB1 _ (by omega))).mp z))
    have hy : st < 120 := by omega
    refine ⟨upd (upd (upd r 2 (nI 4)) 3 (nI st)) 4 (nI st), ?_, fin _ ?_ ?_ ?_ ?_ ?_⟩
    · rw [runD_evW]
      simp (maxSteps := 3000000) (disch := omega) only [evW_s, st_icN, st_icM, st_lconst, st_iload, st_aload, st_lload, st_istore, st_astore, st_lstore, st_iinc, st_iadd, st_isub, st_imul, st_iand, st_ior, st_ixor, st_ishl, st_ishr, st_iushr, st_idiv, st_irem, st_i2b, st_i2s, st_i2c, st_i2l, st_l2i, st_land, st_lor, st_lshl, st_lshr, st_lcmp, st_dup, st_dupa, st_dup2, st_pop, st_goto, st_ceq, st_cne, st_clt, st_cge, st_cgt, st_cle, st_zeq, st_zne, st_zlt, st_zge, st_zgt, st_zle, st_tsw, st_lsw, st_iaload, st_baload, st_caload, st_laload, st_aaload, st_iastore, st_bastore, st_lastore, st_alen, st_get, st_put, st_gets, st_ldc, st_v1, st_v2, st_v3, st_v4, st_v5, st_v6, st_s1, st_s2, st_s3, st_s4, st_cpy, st_iret, st_zret, st_bret, st_cret, st_lret, st_vret, ldI_, ldA_, ldL_, stB_0, stB_1, stB_s, notL_i, notL_r, notL_n, gfK_r, gfK_i, cont_v, cont_n, cont_ite, rcOK, tb_o, tb_k, tb_c, tb_n, tb_rd, tb_al, tb_ki, swT, swL, List.getD_cons_zero, List.getD_cons_succ, List.set_cons_zero, List.set_cons_succ, List.length_cons, List.length_nil, Nat.reduceAdd, Nat.reduceMul, Nat.reduceLeDiff, Nat.reduceDiv, Nat.reduceMod, Nat.reduceBEq, Nat.reduceEqDiff, Int.reduceToNat, Int.reduceAdd, Int64.reduceOfInt, Bool.true_and, Bool.and_true, Bool.and_self, Bool.false_and, Bool.and_false, Bool.false_eq_true, Bool.or_true, Bool.true_or, Bool.or_false, Bool.false_or, if_true, if_false, ↓reduceIte, ↓reduceDIte, true_and, and_true, and_self, Nat.le_refl, Nat.zero_le, beq_self_eq_true, loc0, tb_m, xp_0, xp_i, xp_r, xp_l, pad, ne_eq, not_false_eq_true, Nat.reduceSub, oiN, oiM, oN, List.toList_toArray, Nat.not_lt_zero, Nat.and_one_is_mod, sh1, shr_nI, fa_or, fa_and, fb_xorI, Nat.or_zero, Nat.lt_irrefl, nI_add, nI_mul, nI_sub, nI_clamp, nI_ltI, nI_eq, nI_eq0, nI_0eq, nI_lt0, nI_0lt, nI_ltM1, nI_M1lt, nI_neM1, nI_M1ne, mI_lt0, mI_eq0, mI_0lt, ib_nI, nI_1, zr1, zr2, nb_z, nb_m, nz_z, nz_m, jn_, jr_, nI_eq1, Classical.not_not, nI_b01, nI_b11, nb_a, nb_o, nb_n, nb_na, Nat.reduceLT, Nat.reducePow, Nat.reduceShiftRight, Nat.reduceAnd, Nat.reduceOr, wI_up, wL_up, cpI_up, cpL_up, up_eq, up_ne, up_up, up_comm, up2_up, up_2, up2_1, up2_eq, up2_ne, up2_up2, and_false, false_and, or_true, true_or, or_false, false_or, not_true_eq_false, xm1, and0, ud_eq, bOK_t, k_8, h1, hlt, hb, hnb', c_isLetter, hc, c_isDigit, hc2, hc3, ud_ne, ud_ud, ud_comm]
    · simp (disch := decide) only [ud_ne, h1]
    · simp (disch := decide) only [ud_ne, ud_eq, k0]
    · simp (disch := decide) only [ud_ne, ud_eq]
    · rw [ud_eq, k0, if_pos rfl]
    · intro z; omega

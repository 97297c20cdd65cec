/-! 27.greedy: a report is written: the reference -/
theorem ud_comm {f : Nat → Int32} {i j : Nat} {x y : Int32} (h : i < j) : upd (upd f j y) i x = upd (upd f i x) j y := fa_upd_swap f (Nat.ne_of_gt h) y x
theorem ud_ud {f : Nat → Int32} {i : Nat} {x y : Int32} : upd (upd f i x) i y = upd f i y := fa_upd_twice f i x y
def clr (L b : Nat) : Nat := L &&& (2 ^ b ^^^ 4294967295)
theorem clr_bit {L b : Nat} (hL : L < 4096) (k : Nat) : (clr L b).testBit k = (L.testBit k && decide (k ≠ b)) := by
  unfold clr
  rw [Nat.testBit_and, Nat.testBit_xor, Nat.testBit_two_pow, show (4294967295 : Nat) = 2 ^ 32 - 1 from rfl, Nat.testBit_two_pow_sub_one]
  by_cases h : k < 32
  · by_cases q : b = k
    · subst q; simp [h]
    · simp [h, q, Ne.symm q]
  · have : L.testBit k = false := Nat.testBit_lt_two_pow (Nat.lt_of_lt_of_le hL (Nat.pow_le_pow_right (by decide) (by omega) : 2 ^ 12 ≤ 2 ^ k))
    simp [this]
theorem clr_lt {L b : Nat} (hL : L < 4096) : clr L b < 4096 := Nat.lt_of_le_of_lt Nat.and_le_left hL
theorem pop_clr {L b : Nat} (hL : L < 4096) (hb : b < 12) (h : L.testBit b = true) : pop (clr L b) + 1 = pop L := by
  have e := fb_ct_upd (fun k => L.testBit k) false (i := b) (n := 12) hb
  rw [if_pos h, if_neg (by decide)] at e
  have e2 : pop (clr L b) = fb_ct (fun k => if k = b then false else L.testBit k) 12 := by
    unfold pop
    refine fb_ct_cong (fun k _ => ?_)
    rw [clr_bit hL]
    by_cases q : k = b <;> simp [q]
  rw [e2]
  exact e
theorem pop_zero {L : Nat} (hL : L < 4096) (h : pop L = 0) : L = 0 := by
  rcases Nat.eq_zero_or_pos L with q | q
  · exact q
  · have := pop_dec L hL (by omega)
    omega
theorem pop_mk {P : Nat → Bool} {m : Nat} (h : m ≤ 12) : pop (mkN P m) ≤ m := by
  unfold pop
  have e := fb_ct_split (fun j => (mkN P m).testBit j) m (12 - m)
  rw [show m + (12 - m) = 12 by omega] at e
  have z : fb_ct (fun k => (mkN P m).testBit (m + k)) (12 - m) = 0 := fb_ct_zero.mpr (fun k _ => by rw [mkN_bit, decide_eq_false (by omega), Bool.false_and])
  have l := fb_ct_le (fun j => (mkN P m).testBit j) m
  omega
def sO (us : List Nat) : Nat := us.foldl (fun a b => a ||| 2 ^ b) 0
def dO (f : Nat → Nat) (us : List Nat) : Nat := us.foldl (fun a b => a + f b) 0
theorem sO_s {us : List Nat} {b : Nat} : sO (us ++ [b]) = sO us ||| 2 ^ b := by simp [sO, List.foldl_append]
theorem dO_s {f : Nat → Nat} {us : List Nat} {b : Nat} : dO f (us ++ [b]) = dO f us + f b := by simp [dO, List.foldl_append]
theorem sO_lt {us : List Nat} (h : ∀ b ∈ us, b < 12) : sO us < 4096 := by
  have key : ∀ (us : List Nat) (a : Nat), a < 2 ^ 12 → (∀ b ∈ us, b < 12) → us.foldl (fun a b => a ||| 2 ^ b) a < 2 ^ 12 := by
    intro us
    induction us with
    | nil => intro a ha _; exact ha
    | cons x us ih =>
      intro a ha h
      exact ih _ (Nat.or_lt_two_pow ha (Nat.pow_lt_pow_right (by decide) (h x List.mem_cons_self))) (fun b hb => h b (List.mem_cons_of_mem _ hb))
  exact key us 0 (by decide) h
theorem dO_le {f : Nat → Nat} {us : List Nat} {k : Nat} (h : ∀ b, f b ≤ k) : dO f us ≤ k * us.length := by
  have key : ∀ (us : List Nat) (a : Nat), us.foldl (fun a b => a + f b) a ≤ a + k * us.length := by
    intro us
    induction us with
    | nil => intro a; simp
    | cons x us ih =>
      intro a
      have := ih (a + f x)
      have := h x
      simp only [List.foldl_cons, List.length_cons]
      rw [Nat.mul_add]
      omega
  have := key us 0
  rwa [Nat.zero_add] at this
def wrow (us : List Nat) (r : Nat → Int32) : Nat → Int32 := fun i => if i < us.length then nI (us.getD i 0) else r i
theorem wrow_0 {r : Nat → Int32} : wrow [] r = r := by funext i; simp [wrow]
theorem wrow_s {us : List Nat} {r : Nat → Int32} {b : Nat} : upd (wrow us r) us.length (nI b) = wrow (us ++ [b]) r := by
  funext i
  by_cases q : i = us.length
  · subst q; rw [ud_eq]; simp [wrow, List.getD_eq_getElem?_getD]
  · rw [ud_ne q]
    unfold wrow
    by_cases h : i < us.length
    · have : i < (us ++ [b]).length := by simp; omega
      rw [if_pos h, if_pos this]
      congr 1
      rw [List.getD_eq_getElem?_getD, List.getD_eq_getElem?_getD, List.getElem?_append_left h]
    · have : ¬ i < (us ++ [b]).length := by simp; omega
      rw [if_neg h, if_neg this]
def gr (w : Nat → Int32) (wd : Nat → Nat) (len m : Nat) : Nat → Nat → Nat → List Nat → List Nat
  | 0, _, _, us => us
  | f + 1, L, ws, us => match pick w L m with
    | none => us
    | some b => if us.length < 6 then (if ws + wd b ≤ len then gr w wd len m f (clr L b) (ws + wd b) (us ++ [b]) else gr w wd len m f (clr L b) ws us) else us
theorem gr_s {w : Nat → Int32} {wd : Nat → Nat} {len m f L ws : Nat} {us : List Nat} : gr w wd len m (f + 1) L ws us = (match pick w L m with
    | none => us
    | some b => if us.length < 6 then (if ws + wd b ≤ len then gr w wd len m f (clr L b) (ws + wd b) (us ++ [b]) else gr w wd len m f (clr L b) ws us) else us) := rfl
theorem grd_ok {w : Nat → Int32} {wd : Nat → Nat} {len m : Nat} (hm : m ≤ 12) : ∀ (f L ws : Nat) (us : List Nat), us.length ≤ 6 → (∀ b ∈ us, b < 12) → (gr w wd len m f L ws us).length ≤ 6 ∧ ∀ b ∈ gr w wd len m f L ws us, b < 12 := by
  intro f
  induction f with
  | zero => intro L ws us h1 h2; exact ⟨h1, h2⟩
  | succ f ih =>
    intro L ws us h1 h2
    rw [gr_s]
    cases hp : pick w L m with
    | none => exact ⟨h1, h2⟩
    | some b =>
      have hb := ((pick_spec w L m).1 b hp).1
      dsimp only
      split
      · split
        · refine ih _ _ _ (by simp; omega) (fun x hx => ?_)
          rcases List.mem_append.mp hx with q | q
          · exact h2 x q
          · rw [List.mem_singleton.mp q]; omega
        · exact ih _ _ _ h1 h2
      · exact ⟨h1, h2⟩
theorem gr_congr {w w' : Nat → Int32} {wd : Nat → Nat} {len m : Nat} (h : ∀ j, j < m → w j = w' j) : ∀ (f L ws : Nat) (us : List Nat), gr w wd len m f L ws us = gr w' wd len m f L ws us := by
  intro f
  induction f with
  | zero => intro L ws us; rfl
  | succ f ih =>
    intro L ws us
    rw [gr_s, gr_s, pick_congr (fun j hj _ => h j hj)]
    cases pick w' L m with
    | none => rfl
    | some b =>
      dsimp only
      rw [ih, ih]
def tr2 (t k : Nat) : Nat := if 99 < t + k + 1 then 99 else t + k + 1
theorem tr2_le (t k : Nat) : tr2 t k ≤ 99 := by unfold tr2; split <;> omega
def wrS (s : Nat → Int32) (c : Nat) (us : List Nat) : Nat → Int32 := upd (upd s (6 + 8 * c + 7) (nI (sO us))) 0 (nI (tr2 (s 0).toNatClampNeg us.length))
theorem wrS_ok {s : Nat → Int32} (hG : Gd s) {c : Nat} (hc : c < 12) {us : List Nat} (h : ∀ b ∈ us, b < 12) : Gd (wrS s c us) := by
  have := sO_lt h
  refine (hG.put (okV_c hc (by decide) ?_)).put (okV_f (by decide) ?_)
  · simp; omega
  · simpa using tr2_le _ _
def s0 (s : Nat → Int32) (c : Nat) : Nat → Int32 := upd s (6 + 8 * c + 7) (nI 0)
theorem s0_ok {s : Nat → Int32} (hG : Gd s) {c : Nat} (hc : c < 12) : Gd (s0 s c) := hG.put (okV_c hc (by decide) (by simp))
def wl (s : Nat → Int32) (n m c : Nat) : List Nat := gr (wth (s0 s c) n) (wrd s) (s 2).toNatClampNeg m 12 (mkN (usP (s0 s c) c) m) 0 []
theorem wl_ok {s : Nat → Int32} {n m c : Nat} (hm : m ≤ 12) : (wl s n m c).length ≤ 6 ∧ ∀ b ∈ wl s n m c, b < 12 := grd_ok hm _ _ _ _ (by simp) (fun b h => by simp at h)
def sd (s : Nat → Int32) (n m c : Nat) : Nat := dO (fun l => sy (s0 s c) l n) (wl s n m c)
theorem sd_le {s : Nat → Int32} {n m c : Nat} (hn : n ≤ 12) (hm : m ≤ 12) : sd s n m c ≤ 72 := by
  have h1 := dO_le (f := fun l => sy (s0 s c) l n) (us := wl s n m c) (k := 12) (fun b => Nat.le_trans (sy_le _ _ _) hn)
  have h2 := (wl_ok (s := s) (n := n) (m := m) (c := c) hm).1
  unfold sd
  omega
theorem m_gr (d n m c len t0 : Nat) (s : Nat → Int32) (hG : Gd s) (hc : c < 12) (hn : s 4 = nI n) (hm : s 5 = nI m) (hn12 : n ≤ 12) (h12 : m ≤ 12) (hlen : s 2 = nI len) (hl99 : len ≤ 99) (ht0 : s 0 = nI t0) (ht99 : t0 ≤ 99) (μ : sM) (hs : μ.1 56 = s) : ∀ (f L ws : Nat) (us : List Nat), L < 4096 → pop L ≤ f → us.length ≤ 6 → (∀ b ∈ us, b < 12) → ws ≤ len →
    runD (d + 3) 733 103 [.ref 55, .int (nI c), .int (nI L), .int (nI (sO us)), .int (nI ws), .int (pkI (pick (μ.1 61) L m))] [] (up 55 (upd (upd (μ.1 55) 7 (nI us.length)) 8 (nI (dO (fun l => sy s l n) us))) (up 60 (wrow us (μ.1 60)) μ)) = some (none, up 55 (upd (upd (μ.1 55) 7 (nI (gr (μ.1 61) (wrd s) len m f L ws us).length)) 8 (nI (dO (fun l => sy s l n) (gr (μ.1 61) (wrd s) len m f L ws us)))) (up 56 (wrS s c (gr (μ.1 61) (wrd s) len m f L ws us)) (up 60 (wrow (gr (μ.1 61) (wrd s) len m f L ws us) (μ.1 60)) μ))) := by
  have hend : ∀ (us : List Nat) (a b e : Int32), us.length ≤ 6 → (e < 0 ∨ ¬ us.length < 6) → runD (d + 3) 733 103 [.ref 55, .int (nI c), .int a, .int (nI (sO us)), .int b, .int e] [] (up 55 (upd (upd (μ.1 55) 7 (nI us.length)) 8 (nI (dO (fun l => sy s l n) us))) (up 60 (wrow us (μ.1 60)) μ)) = some (none, up 55 (upd (upd (μ.1 55) 7 (nI us.length)) 8 (nI (dO (fun l => sy s l n) us))) (up 56 (wrS s c us) (up 60 (wrow us (μ.1 60)) μ))) := by
    intro us a b e h6 h
    have e1 : (if 99 < t0 + us.length + 1 then nI 99 else nI (t0 + us.length + 1)) = nI (tr2 t0 us.length) := by unfold tr2; split <;> rfl
    have e2 : (s 0).toNatClampNeg = t0 := by rw [ht0, nI_clamp (by omega)]
    have e3 : upd s (6 + 8 * c + 7) (nI (sO us)) 0 = nI t0 := by rw [ud_ne (by omega), ht0]
    have es : ∀ x, upd (upd s (6 + 8 * c + 7) x) 0 (nI (tr2 t0 us.length)) = upd (upd s (6 + 8 * c + 7) x) 0 (nI (tr2 t0 us.length)) := fun _ => rfl
    unfold wrS
    rw [e2]
    rw [runD_evW]
    by_cases q : e < 0
    · simp (maxSteps := 3000000) (disch := omega) only [evW_s, st_icN, st_icM, st_lconst, st_iload, st_aload, st_lload, st_istore, st_astore, st_lstore, st_iinc, st_iadd, st_isub, st_imul, st_iand, st_ior, st_ixor, st_ishl, st_ishr, st_iushr, st_idiv, st_irem, st_i2b, st_i2s, st_i2c, st_i2l, st_l2i, st_land, st_lor, st_lshl, st_lshr, st_lcmp, st_dup, st_dupa, st_dup2, st_pop, st_goto, st_ceq, st_cne, st_clt, st_cge, st_cgt, st_cle, st_zeq, st_zne, st_zlt, st_zge, st_zgt, st_zle, st_tsw, st_lsw, st_iaload, st_baload, st_caload, st_laload, st_aaload, st_iastore, st_bastore, st_lastore, st_alen, st_get, st_put, st_gets, st_ldc, st_v1, st_v2, st_v3, st_v4, st_v5, st_v6, st_s1, st_s2, st_s3, st_s4, st_cpy, st_iret, st_zret, st_bret, st_cret, st_lret, st_vret, ldI_, ldA_, ldL_, stB_0, stB_1, stB_s, notL_i, notL_r, notL_n, gfK_r, gfK_i, cont_v, cont_n, cont_ite, rcOK, tb_o, tb_k, tb_c, tb_n, tb_rd, tb_al, tb_ki, swT, swL, List.getD_cons_zero, List.getD_cons_succ, List.set_cons_zero, List.set_cons_succ, List.length_cons, List.length_nil, Nat.reduceAdd, Nat.reduceMul, Nat.reduceLeDiff, Nat.reduceDiv, Nat.reduceMod, Nat.reduceBEq, Nat.reduceEqDiff, Int.reduceToNat, Int.reduceAdd, Int64.reduceOfInt, Bool.true_and, Bool.and_true, Bool.and_self, Bool.false_and, Bool.and_false, Bool.false_eq_true, Bool.or_true, Bool.true_or, Bool.or_false, Bool.false_or, if_true, if_false, ↓reduceIte, ↓reduceDIte, true_and, and_true, and_self, Nat.le_refl, Nat.zero_le, beq_self_eq_true, loc0, tb_m, xp_0, xp_i, xp_r, xp_l, pad, ne_eq, not_false_eq_true, Nat.reduceSub, oiN, oiM, oN, List.toList_toArray, Nat.not_lt_zero, Nat.and_one_is_mod, sh1, shr_nI, fa_or, fa_and, fb_xorI, Nat.or_zero, Nat.lt_irrefl, nI_add, nI_mul, nI_sub, nI_clamp, nI_ltI, nI_eq, nI_eq0, nI_0eq, nI_lt0, nI_0lt, nI_ltM1, nI_M1lt, nI_neM1, nI_M1ne, mI_lt0, mI_eq0, mI_0lt, ib_nI, nI_1, zr1, zr2, nb_z, nb_m, nz_z, nz_m, jn_, jr_, nI_eq1, Classical.not_not, nI_b01, nI_b11, nb_a, nb_o, nb_n, nb_na, Nat.reduceLT, Nat.reducePow, Nat.reduceShiftRight, Nat.reduceAnd, Nat.reduceOr, wI_up, wL_up, cpI_up, cpL_up, up_eq, up_ne, up_up, up_comm, up2_up, up_2, up2_1, up2_eq, up2_ne, up2_up2, and_false, false_and, or_true, true_or, or_false, false_or, not_true_eq_false, xm1, and0, ud_eq, k_733, q, ud_ne, m_store, hs, ht0, m_within, e1]
    · have h5 : ¬ us.length < 6 := h.resolve_left q
      simp (maxSteps := 3000000) (disch := omega) only [evW_s, st_icN, st_icM, st_lconst, st_iload, st_aload, st_lload, st_istore, st_astore, st_lstore, st_iinc, st_iadd, st_isub, st_imul, st_iand, st_ior, st_ixor, st_ishl, st_ishr, st_iushr, st_idiv, st_irem, st_i2b, st_i2s, st_i2c, st_i2l, st_l2i, st_land, st_lor, st_lshl, st_lshr, st_lcmp, st_dup, st_dupa, st_dup2, st_pop, st_goto, st_ceq, st_cne, st_clt, st_cge, st_cgt, st_cle, st_zeq, st_zne, st_zlt, st_zge, st_zgt, st_zle, st_tsw, st_lsw, st_iaload, st_baload, st_caload, st_laload, st_aaload, st_iastore, st_bastore, st_lastore, st_alen, st_get, st_put, st_gets, st_ldc, st_v1, st_v2, st_v3, st_v4, st_v5, st_v6, st_s1, st_s2, st_s3, st_s4, st_cpy, st_iret, st_zret, st_bret, st_cret, st_lret, st_vret, ldI_, ldA_, ldL_, stB_0, stB_1, stB_s, notL_i, notL_r, notL_n, gfK_r, gfK_i, cont_v, cont_n, cont_ite, rcOK, tb_o, tb_k, tb_c, tb_n, tb_rd, tb_al, tb_ki, swT, swL, List.getD_cons_zero, List.getD_cons_succ, List.set_cons_zero, List.set_cons_succ, List.length_cons, List.length_nil, Nat.reduceAdd, Nat.reduceMul, Nat.reduceLeDiff, Nat.reduceDiv, Nat.reduceMod, Nat.reduceBEq, Nat.reduceEqDiff, Int.reduceToNat, Int.reduceAdd, Int64.reduceOfInt, Bool.true_and, Bool.and_true, Bool.and_self, Bool.false_and, Bool.and_false, Bool.false_eq_true, Bool.or_true, Bool.true_or, Bool.or_false, Bool.false_or, if_true, if_false, ↓reduceIte, ↓reduceDIte, true_and, and_true, and_self, Nat.le_refl, Nat.zero_le, beq_self_eq_true, loc0, tb_m, xp_0, xp_i, xp_r, xp_l, pad, ne_eq, not_false_eq_true, Nat.reduceSub, oiN, oiM, oN, List.toList_toArray, Nat.not_lt_zero, Nat.and_one_is_mod, sh1, shr_nI, fa_or, fa_and, fb_xorI, Nat.or_zero, Nat.lt_irrefl, nI_add, nI_mul, nI_sub, nI_clamp, nI_ltI, nI_eq, nI_eq0, nI_0eq, nI_lt0, nI_0lt, nI_ltM1, nI_M1lt, nI_neM1, nI_M1ne, mI_lt0, mI_eq0, mI_0lt, ib_nI, nI_1, zr1, zr2, nb_z, nb_m, nz_z, nz_m, jn_, jr_, nI_eq1, Classical.not_not, nI_b01, nI_b11, nb_a, nb_o, nb_n, nb_na, Nat.reduceLT, Nat.reducePow, Nat.reduceShiftRight, Nat.reduceAnd, Nat.reduceOr, wI_up, wL_up, cpI_up, cpL_up, up_eq, up_ne, up_up, up_comm, up2_up, up_2, up2_1, up2_eq, up2_ne, up2_up2, and_false, false_and, or_true, true_or, or_false, false_or, not_true_eq_false, xm1, and0, ud_eq, k_733, q, h5, ud_ne, m_store, hs, ht0, m_within, e1]
  intro f
  induction f with
  | zero =>
    intro L ws us hL hp h6 hb hw
    have hz := pop_zero hL (by omega)
    subst hz
    have : pick (μ.1 61) 0 m = none := (pick_spec _ 0 m).2.mpr (fun j _ => by simp)
    rw [this]
    exact hend us _ _ _ h6 (Or.inl (by decide))
  | succ f ih =>
    intro L ws us hL hp h6 hb hw
    rw [gr_s]
    cases hq : pick (μ.1 61) L m with
    | none => exact hend us _ _ _ h6 (Or.inl (by decide))
    | some b =>
      obtain ⟨hbm, hbt⟩ := (pick_spec (μ.1 61) L m).1 b hq
      have hpc := pop_clr hL (show b < 12 by omega) hbt
      obtain ⟨ew, hwd⟩ := wrd_eq hG (l := b) (by omega)
      by_cases h5 : us.length < 6
      · have hsy : ∀ f g, callD (d + 3) 722 [.ref 55, .int (nI b)] (up 55 f (up 60 g μ)) = some (some (.int (nI (sy s b n))), up 55 f (up 60 g μ)) := fun f g => by
          have e : (up 55 f (up 60 g μ)).1 56 = s := by rw [up_ne (by decide), up_ne (by decide), hs]
          have := m_saysOf d b n (up 55 f (up 60 g μ)) (by rw [e]; exact hG) (by omega) (by rw [e]; exact hn) hn12
          rwa [e] at this
        have hmw : ∀ f g, callD (d + 3) 732 [.ref 55, .int (nI (clr L b))] (up 55 f (up 60 g μ)) = some (some (.int (pkI (pick (μ.1 61) (clr L b) m))), up 55 f (up 60 g μ)) := fun f g => by
          have e : (up 55 f (up 60 g μ)).1 56 = s := by rw [up_ne (by decide), up_ne (by decide), hs]
          have := m_mostWorth (d + 2) (clr L b) m (clr_lt hL) (up 55 f (up 60 g μ)) (by rw [e]; exact hm) h12
          rwa [show (up 55 f (up 60 g μ)).1 61 = μ.1 61 by rw [up_ne (by decide), up_ne (by decide)]] at this
        have ecl : L &&& (2 ^ b ^^^ 4294967295) = clr L b := rfl
        dsimp only
        rw [if_pos h5]
        by_cases hl : ws + wrd s b ≤ len
        · have hl' : (len < ws + wrd s b) = False := eq_false (by omega)
          rw [if_pos hl]
          rw [runD_evW]
          simp (maxSteps := 3000000) (disch := omega) only [evW_s, st_icN, st_icM, st_lconst, st_iload, st_aload, st_lload, st_istore, st_astore, st_lstore, st_iinc, st_iadd, st_isub, st_imul, st_iand, st_ior, st_ixor, st_ishl, st_ishr, st_iushr, st_idiv, st_irem, st_i2b, st_i2s, st_i2c, st_i2l, st_l2i, st_land, st_lor, st_lshl, st_lshr, st_lcmp, st_dup, st_dupa, st_dup2, st_pop, st_goto, st_ceq, st_cne, st_clt, st_cge, st_cgt, st_cle, st_zeq, st_zne, st_zlt, st_zge, st_zgt, st_zle, st_tsw, st_lsw, st_iaload, st_baload, st_caload, st_laload, st_aaload, st_iastore, st_bastore, st_lastore, st_alen, st_get, st_put, st_gets, st_ldc, st_v1, st_v2, st_v3, st_v4, st_v5, st_v6, st_s1, st_s2, st_s3, st_s4, st_cpy, st_iret, st_zret, st_bret, st_cret, st_lret, st_vret, ldI_, ldA_, ldL_, stB_0, stB_1, stB_s, notL_i, notL_r, notL_n, gfK_r, gfK_i, cont_v, cont_n, cont_ite, rcOK, tb_o, tb_k, tb_c, tb_n, tb_rd, tb_al, tb_ki, swT, swL, List.getD_cons_zero, List.getD_cons_succ, List.set_cons_zero, List.set_cons_succ, List.length_cons, List.length_nil, Nat.reduceAdd, Nat.reduceMul, Nat.reduceLeDiff, Nat.reduceDiv, Nat.reduceMod, Nat.reduceBEq, Nat.reduceEqDiff, Int.reduceToNat, Int.reduceAdd, Int64.reduceOfInt, Bool.true_and, Bool.and_true, Bool.and_self, Bool.false_and, Bool.and_false, Bool.false_eq_true, Bool.or_true, Bool.true_or, Bool.or_false, Bool.false_or, if_true, if_false, ↓reduceIte, ↓reduceDIte, true_and, and_true, and_self, Nat.le_refl, Nat.zero_le, beq_self_eq_true, loc0, tb_m, xp_0, xp_i, xp_r, xp_l, pad, ne_eq, not_false_eq_true, Nat.reduceSub, oiN, oiM, oN, List.toList_toArray, Nat.not_lt_zero, Nat.and_one_is_mod, sh1, shr_nI, fa_or, fa_and, fb_xorI, Nat.or_zero, Nat.lt_irrefl, nI_add, nI_mul, nI_sub, nI_clamp, nI_ltI, nI_eq, nI_eq0, nI_0eq, nI_lt0, nI_0lt, nI_ltM1, nI_M1lt, nI_neM1, nI_M1ne, mI_lt0, mI_eq0, mI_0lt, ib_nI, nI_1, zr1, zr2, nb_z, nb_m, nz_z, nz_m, jn_, jr_, nI_eq1, Classical.not_not, nI_b01, nI_b11, nb_a, nb_o, nb_n, nb_na, Nat.reduceLT, Nat.reducePow, Nat.reduceShiftRight, Nat.reduceAnd, Nat.reduceOr, wI_up, wL_up, cpI_up, cpL_up, up_eq, up_ne, up_up, up_comm, up2_up, up_2, up2_1, up2_eq, up2_ne, up2_up2, and_false, false_and, or_true, true_or, or_false, false_or, not_true_eq_false, xm1, and0, ud_eq, k_733, pkI, h5, ud_ne, ud_comm, ud_ud, m_lineAt, hs, ew, hlen, hl', hsy, hmw, ecl]
          have := ih (clr L b) (ws + wrd s b) (us ++ [b]) (clr_lt hL) (by omega) (by simp; omega) (fun x hx => by
            rcases List.mem_append.mp hx with q | q
            · exact hb x q
            · rw [List.mem_singleton.mp q]; omega) hl
          rw [sO_s, dO_s, ← wrow_s, List.length_append] at this
          exact this
        · have hl' : (len < ws + wrd s b) = True := eq_true (by omega)
          rw [if_neg hl]
          rw [runD_evW]
          simp (maxSteps := 3000000) (disch := omega) only [evW_s, st_icN, st_icM, st_lconst, st_iload, st_aload, st_lload, st_istore, st_astore, st_lstore, st_iinc, st_iadd, st_isub, st_imul, st_iand, st_ior, st_ixor, st_ishl, st_ishr, st_iushr, st_idiv, st_irem, st_i2b, st_i2s, st_i2c, st_i2l, st_l2i, st_land, st_lor, st_lshl, st_lshr, st_lcmp, st_dup, st_dupa, st_dup2, st_pop, st_goto, st_ceq, st_cne, st_clt, st_cge, st_cgt, st_cle, st_zeq, st_zne, st_zlt, st_zge, st_zgt, st_zle, st_tsw, st_lsw, st_iaload, st_baload, st_caload, st_laload, st_aaload, st_iastore, st_bastore, st_lastore, st_alen, st_get, st_put, st_gets, st_ldc, st_v1, st_v2, st_v3, st_v4, st_v5, st_v6, st_s1, st_s2, st_s3, st_s4, st_cpy, st_iret, st_zret, st_bret, st_cret, st_lret, st_vret, ldI_, ldA_, ldL_, stB_0, stB_1, stB_s, notL_i, notL_r, notL_n, gfK_r, gfK_i, cont_v, cont_n, cont_ite, rcOK, tb_o, tb_k, tb_c, tb_n, tb_rd, tb_al, tb_ki, swT, swL, List.getD_cons_zero, List.getD_cons_succ, List.set_cons_zero, List.set_cons_succ, List.length_cons, List.length_nil, Nat.reduceAdd, Nat.reduceMul, Nat.reduceLeDiff, Nat.reduceDiv, Nat.reduceMod, Nat.reduceBEq, Nat.reduceEqDiff, Int.reduceToNat, Int.reduceAdd, Int64.reduceOfInt, Bool.true_and, Bool.and_true, Bool.and_self, Bool.false_and, Bool.and_false, Bool.false_eq_true, Bool.or_true, Bool.true_or, Bool.or_false, Bool.false_or, if_true, if_false, ↓reduceIte, ↓reduceDIte, true_and, and_true, and_self, Nat.le_refl, Nat.zero_le, beq_self_eq_true, loc0, tb_m, xp_0, xp_i, xp_r, xp_l, pad, ne_eq, not_false_eq_true, Nat.reduceSub, oiN, oiM, oN, List.toList_toArray, Nat.not_lt_zero, Nat.and_one_is_mod, sh1, shr_nI, fa_or, fa_and, fb_xorI, Nat.or_zero, Nat.lt_irrefl, nI_add, nI_mul, nI_sub, nI_clamp, nI_ltI, nI_eq, nI_eq0, nI_0eq, nI_lt0, nI_0lt, nI_ltM1, nI_M1lt, nI_neM1, nI_M1ne, mI_lt0, mI_eq0, mI_0lt, ib_nI, nI_1, zr1, zr2, nb_z, nb_m, nz_z, nz_m, jn_, jr_, nI_eq1, Classical.not_not, nI_b01, nI_b11, nb_a, nb_o, nb_n, nb_na, Nat.reduceLT, Nat.reducePow, Nat.reduceShiftRight, Nat.reduceAnd, Nat.reduceOr, wI_up, wL_up, cpI_up, cpL_up, up_eq, up_ne, up_up, up_comm, up2_up, up_2, up2_1, up2_eq, up2_ne, up2_up2, and_false, false_and, or_true, true_or, or_false, false_or, not_true_eq_false, xm1, and0, ud_eq, k_733, pkI, h5, ud_ne, ud_comm, ud_ud, m_lineAt, hs, ew, hlen, hl', hsy, hmw, ecl]
          exact ih (clr L b) ws us (clr_lt hL) (by omega) h6 hb hw
      · dsimp only
        rw [if_neg h5]
        exact hend us _ _ _ h6 (Or.inr h5)

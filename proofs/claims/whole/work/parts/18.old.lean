/-! 18.old: by wip/whole/gen_old.py -/
def sIdx (i : Nat) : Nat := ([32, 41, 51, 69, 86, 90, 95, 58, 67] : List Nat).getD i 0
def sTm (i : Nat) : Term := .string "FortyReports$HeapText" (sIdx i)
theorem wo_a : Cond.laysStatic "FortyReports" "ABOVE" "[I" ∈ lw_tbl := List.mem_of_getElem? (i := 367) (by decide +kernel)
theorem wo_c : Cond.laysStatic "java/lang/String" "COMPACT_STRINGS" "Z" ∈ lw_tbl := List.mem_of_getElem? (i := 660) (by decide +kernel)
theorem wo_f : Cond.laysStatic "jdk/internal/util/Preconditions" "SIOOBE_FORMATTER" "Ljava/util/function/BiFunction;" ∈ lw_tbl := List.mem_of_getElem? (i := 676) (by decide +kernel)
theorem wo_ia : Cond.initialized "FortyReports" ∈ lw_tbl := List.mem_of_getElem? (i := 56) (by decide +kernel)
theorem wo_ic : Cond.initialized "java/lang/String" ∈ lw_tbl := List.mem_of_getElem? (i := 67) (by decide +kernel)
theorem wo_if : Cond.initialized "jdk/internal/util/Preconditions" ∈ lw_tbl := List.mem_of_getElem? (i := 69) (by decide +kernel)
theorem wo_s0 : Cond.stringRef "FortyReports$HeapText" 32 "child" ∈ lw_tbl := List.mem_of_getElem? (i := 642) (by decide +kernel)
theorem wo_s1 : Cond.stringRef "FortyReports$HeapText" 41 "patience" ∈ lw_tbl := List.mem_of_getElem? (i := 716) (by decide +kernel)
theorem wo_s2 : Cond.stringRef "FortyReports$HeapText" 51 "length" ∈ lw_tbl := List.mem_of_getElem? (i := 717) (by decide +kernel)
theorem wo_s3 : Cond.stringRef "FortyReports$HeapText" 69 "words" ∈ lw_tbl := List.mem_of_getElem? (i := 724) (by decide +kernel)
theorem wo_s4 : Cond.stringRef "FortyReports$HeapText" 86 "seen" ∈ lw_tbl := List.mem_of_getElem? (i := 713) (by decide +kernel)
theorem wo_s5 : Cond.stringRef "FortyReports$HeapText" 90 "girl" ∈ lw_tbl := List.mem_of_getElem? (i := 714) (by decide +kernel)
theorem wo_s6 : Cond.stringRef "FortyReports$HeapText" 95 "of" ∈ lw_tbl := List.mem_of_getElem? (i := 715) (by decide +kernel)
theorem wo_s7 : Cond.stringRef "FortyReports$HeapText" 58 "line seen heaped leaned copied coded left" ∈ lw_tbl := List.mem_of_getElem? (i := 722) (by decide +kernel)
theorem wo_s8 : Cond.stringRef "FortyReports$HeapText" 67 "work conduct hand voice" ∈ lw_tbl := List.mem_of_getElem? (i := 723) (by decide +kernel)
abbrev fN1 : List Cond := flatC (Jvm.Cond.and given_1 narrow_1)
theorem fo_a1 : Cond.arrayOf (Term.static "FortyReports" "ABOVE" "[I") .int ∈ fN1 := by decide +kernel
theorem fo_a2 : Cond.eq (.length (Term.static "FortyReports" "ABOVE" "[I")) (.int 7) ∈ fN1 := by decide +kernel
theorem fo_a3 : ∀ j, j < 7 → Cond.eq (.elem (Term.static "FortyReports" "ABOVE" "[I") (.int (Int32.ofNat j))) (.int (abvT.getD j 0)) ∈ fN1 := by decide +kernel
theorem fo_c : Cond.eq (.static "java/lang/String" "COMPACT_STRINGS" "Z") (.int 1) ∈ fN1 := by decide +kernel
theorem fo_f : Cond.isRef (.static "jdk/internal/util/Preconditions" "SIOOBE_FORMATTER" "Ljava/util/function/BiFunction;") ∈ fN1 := by decide +kernel
theorem fo_1 : ∀ i, i < 9 → Cond.exactly (sTm i) "java/lang/String" ∈ fN1 := by decide +kernel
theorem fo_2 : ∀ i, i < 9 → Cond.eq (.field (sTm i) "java/lang/String" "coder" "B") (.int 0) ∈ fN1 := by decide +kernel
theorem fo_3 : ∀ i, i < 9 → Cond.arrayOf (.field (sTm i) "java/lang/String" "value" "[B") .byte ∈ fN1 := by decide +kernel
theorem fo_4 : ∀ i, i < 9 → Cond.eq (.length (.field (sTm i) "java/lang/String" "value" "[B")) (.int (Int32.ofNat ((strT.map List.length).getD i 0))) ∈ fN1 := by decide +kernel
theorem fo_5_0 : ∀ j, j < 5 → Cond.eq (.elem (.field (sTm 0) "java/lang/String" "value" "[B") (.int (Int32.ofNat j))) (.int ((strT.getD 0 []).getD j 0)) ∈ fN1 := by decide +kernel
theorem fo_5_1 : ∀ j, j < 8 → Cond.eq (.elem (.field (sTm 1) "java/lang/String" "value" "[B") (.int (Int32.ofNat j))) (.int ((strT.getD 1 []).getD j 0)) ∈ fN1 := by decide +kernel
theorem fo_5_2 : ∀ j, j < 6 → Cond.eq (.elem (.field (sTm 2) "java/lang/String" "value" "[B") (.int (Int32.ofNat j))) (.int ((strT.getD 2 []).getD j 0)) ∈ fN1 := by decide +kernel
theorem fo_5_3 : ∀ j, j < 5 → Cond.eq (.elem (.field (sTm 3) "java/lang/String" "value" "[B") (.int (Int32.ofNat j))) (.int ((strT.getD 3 []).getD j 0)) ∈ fN1 := by decide +kernel
theorem fo_5_4 : ∀ j, j < 4 → Cond.eq (.elem (.field (sTm 4) "java/lang/String" "value" "[B") (.int (Int32.ofNat j))) (.int ((strT.getD 4 []).getD j 0)) ∈ fN1 := by decide +kernel
theorem fo_5_5 : ∀ j, j < 4 → Cond.eq (.elem (.field (sTm 5) "java/lang/String" "value" "[B") (.int (Int32.ofNat j))) (.int ((strT.getD 5 []).getD j 0)) ∈ fN1 := by decide +kernel
theorem fo_5_6 : ∀ j, j < 2 → Cond.eq (.elem (.field (sTm 6) "java/lang/String" "value" "[B") (.int (Int32.ofNat j))) (.int ((strT.getD 6 []).getD j 0)) ∈ fN1 := by decide +kernel
theorem fo_5_7 : ∀ j, j < 41 → Cond.eq (.elem (.field (sTm 7) "java/lang/String" "value" "[B") (.int (Int32.ofNat j))) (.int ((strT.getD 7 []).getD j 0)) ∈ fN1 := by decide +kernel
theorem fo_5_8 : ∀ j, j < 23 → Cond.eq (.elem (.field (sTm 8) "java/lang/String" "value" "[B") (.int (Int32.ofNat j))) (.int ((strT.getD 8 []).getD j 0)) ∈ fN1 := by decide +kernel
theorem fo_6 : ∀ i, i < 9 → ∀ j, j < 9 → i ≠ j → Cond.not (Cond.eq (sTm i) (sTm j)) ∈ fN1 ∨ Cond.not (Cond.eq (sTm j) (sTm i)) ∈ fN1 := by decide +kernel
theorem old_start {p : Program} {s : State} {m : MethodId} {meth : Method} {c : Code} {b L : Nat} {xs : Nat → Int32} (C0 : lw_At p s m meth c b L xs) : ∃ (t : Nat) (fm : Value) (aK aV : Nat → Nat), ∀ ad : Nat → Nat, ad 99 = b → ad 101 = t → (∀ i, i < 9 → ad (110 + i) = aK i ∧ ad (120 + i) = aV i) → oldF ad fm (fun q : Nat => s.heap.size ≤ q) L xs s s.heap := by
  obtain ⟨hx, hb, hr, hml, hown, hts, hX, hbl, hlocks, hgv⟩ := C0
  have hs := flat_of_before _ hgv
  have hA : ∀ a : Nat, a < s.heap.size → ¬ (fun q : Nat => s.heap.size ≤ q) a := fun a h => Nat.not_le.mpr h
  obtain ⟨t, ht, hT⟩ := va_Tof (tm := .static "FortyReports" "ABOVE" "[I") (ty := .int) (N := 7) (f := fun j => .int (abvT.getD j 0)) (A := fun q : Nat => s.heap.size ≤ q) (by decide) (hs _ fo_a1) (va_eqt (hs _ fo_a2)) (fun j hj => va_eqt (hs _ (fo_a3 j hj))) hA
  have hZa := va_Zof (hts _ wo_a) (hts _ wo_ia) ht hA
  have hZc := va_Zof (hts _ wo_c) (hts _ wo_ic) (va_eqi (hs _ fo_c)) hA
  have hZf := va_Zqof (hts _ wo_f) (hts _ wo_if) (hs _ fo_f) hA
  obtain ⟨fm, hfm, hZf⟩ : ∃ fm : Value, (fm = .null ∨ ∃ t, fm = .ref t) ∧ va_Z "jdk/internal/util/Preconditions" "SIOOBE_FORMATTER" "Ljava/util/function/BiFunction;" fm (fun q : Nat => s.heap.size ≤ q) s s.heap := by
    rcases hZf with h | ⟨t, h⟩
    · exact ⟨_, Or.inl rfl, h⟩
    · exact ⟨_, Or.inr ⟨t, rfl⟩, h⟩
  obtain ⟨aK, aV, hS, hev⟩ := vk_Sof (N := 9) (tm := sTm) (len := strT.map List.length) (byt := strT) (A := fun q : Nat => s.heap.size ≤ q) (by decide +kernel) (fun i hi => hs _ (fo_1 i hi)) (fun i hi => hs _ (fo_2 i hi)) (fun i hi => hs _ (fo_3 i hi)) (fun i hi => hs _ (fo_4 i hi)) (fun i hi j hj => by
    have h9 : i = 0 ∨ i = 1 ∨ i = 2 ∨ i = 3 ∨ i = 4 ∨ i = 5 ∨ i = 6 ∨ i = 7 ∨ i = 8 := by omega
    rcases h9 with rfl | rfl | rfl | rfl | rfl | rfl | rfl | rfl | rfl
    · exact hs _ (fo_5_0 j hj)
    · exact hs _ (fo_5_1 j hj)
    · exact hs _ (fo_5_2 j hj)
    · exact hs _ (fo_5_3 j hj)
    · exact hs _ (fo_5_4 j hj)
    · exact hs _ (fo_5_5 j hj)
    · exact hs _ (fo_5_6 j hj)
    · exact hs _ (fo_5_7 j hj)
    · exact hs _ (fo_5_8 j hj)) (fun i j hi hj hij => (fo_6 i hi j hj hij).imp (hs _) (hs _)) hA
  refine ⟨t, fm, aK, aV, fun ad h99 h101 hst => ?_⟩
  refine ⟨⟨by rw [h99]; exact hX, by rw [h99]; exact hbl, by rw [h99]; exact Nat.not_le.mpr hbl⟩, ⟨by rw [h101]; exact hZa, by rw [h101]; exact hT⟩, ⟨hZc, hZf, hfm⟩, ⟨?_, ?_, ?_⟩, fun e he => va_Nw.of rfl (hts _ (w_mn e he))⟩
  · intro e he
    simp only [sLk, List.mem_cons, List.not_mem_nil, or_false] at he
    rcases he with rfl | rfl | rfl | rfl | rfl | rfl | rfl | rfl | rfl
    · exact vk_R.of (hts _ wo_s0) (by rw [(hst 0 (by decide)).1]; exact hev 0 (by decide))
    · exact vk_R.of (hts _ wo_s1) (by rw [(hst 1 (by decide)).1]; exact hev 1 (by decide))
    · exact vk_R.of (hts _ wo_s2) (by rw [(hst 2 (by decide)).1]; exact hev 2 (by decide))
    · exact vk_R.of (hts _ wo_s7) (by rw [(hst 7 (by decide)).1]; exact hev 7 (by decide))
    · exact vk_R.of (hts _ wo_s8) (by rw [(hst 8 (by decide)).1]; exact hev 8 (by decide))
    · exact vk_R.of (hts _ wo_s3) (by rw [(hst 3 (by decide)).1]; exact hev 3 (by decide))
    · exact vk_R.of (hts _ wo_s4) (by rw [(hst 4 (by decide)).1]; exact hev 4 (by decide))
    · exact vk_R.of (hts _ wo_s5) (by rw [(hst 5 (by decide)).1]; exact hev 5 (by decide))
    · exact vk_R.of (hts _ wo_s6) (by rw [(hst 6 (by decide)).1]; exact hev 6 (by decide))
  · intro i hi
    obtain ⟨e1, e2⟩ := hst i hi
    have := hS.1 i hi
    dsimp only
    rw [e1, e2]
    exact this
  · intro i j hi hj e
    dsimp only at e
    rw [(hst i hi).1, (hst j hj).1] at e
    exact hS.2 i j hi hj e

/-! 09.sound: by wip/whole/gen_sound.py -/
def tyL (cy : Nat → ClassId) : List (ClassId × FieldType) := [(cy 2, .int), (cy 3, .byte), (cy 4, .char), (cy 5, .long), (cy 6, .object "FortyReports$Sheet")]
def oldF (ad : Nat → Nat) (fm : Value) (A : Nat → Prop) (L : Nat) (xs : Nat → Int32) (U : State) (H : Heap) : Prop :=
  (va_X (ad 99) L xs U H ∧ ad 99 < H.size ∧ ¬ A (ad 99)) ∧
  (va_Z "FortyReports" "ABOVE" "[I" (.ref (ad 101)) A U H ∧ va_T .int (ad 101) 7 (fun j => .int (abvT.getD j 0)) A U H) ∧
  (va_Z "java/lang/String" "COMPACT_STRINGS" "Z" (.int 1) A U H ∧ va_Z "jdk/internal/util/Preconditions" "SIOOBE_FORMATTER" "Ljava/util/function/BiFunction;" fm A U H ∧ (fm = .null ∨ ∃ t, fm = .ref t)) ∧
  ((∀ e ∈ sLk, vk_R (csN e.1.1) e.1.2 (sTx e.2) (ad e.2) U) ∧ vk_S 9 (strT.map List.length) strT (fun i => ad (110 + i)) (fun i => ad (120 + i)) A U H) ∧
  (∀ e ∈ mLk1, va_Nw (.methodLinkNest (csN e.1.1) e.1.2 (yN e.2.1) "FortyReports") U)
def wld (D : va_G) (ad : Nat → Nat) (cy : Nat → ClassId) (A : Nat → Prop) (L : Nat) (xs : Nat → Int32) (μ : sM) (s : State) (H : Heap) (locs : List Loc) : Prop :=
  va_P D vwCl (wW ad cy μ) H ∧ va_D A (wW ad cy μ) ∧ va_S A s.heap H locs ∧ μ.1 99 = xs ∧ (μ.1 98 0).toNatClampNeg = L
section
variable {ad : Nat → Nat} {cy : Nat → ClassId} {D : va_G} {fm : Value} {A : Nat → Prop} {L : Nat} {xs : Nat → Int32}
theorem oldF_go {s U : State} {H : Heap} (h : oldF ad fm A L xs s s.heap) (hW : s.WarmedH U.vm) (hz : s.heap.size ≤ H.size) (hq : ∀ a : Nat, a < s.heap.size → ¬ A a → H[a]? = s.heap[a]?) : oldF ad fm A L xs U H := by
  obtain ⟨⟨a1, a2, a3⟩, ⟨b1, b2⟩, ⟨c1, c2, c3⟩, ⟨d1, d2⟩, e1⟩ := h
  exact ⟨⟨(a1.kept (hq _ a2 a3)).moved hW.alike, Nat.lt_of_lt_of_le a2 hz, a3⟩, ⟨(b1.kept hq).moved hW.alike, (b2.kept hq).moved hW.alike⟩, ⟨(c1.kept hq).moved hW.alike, (c2.kept hq).moved hW.alike, c3⟩, ⟨fun e he => (d1 e he).warm hW, (d2.kept hq).moved hW.alike⟩, fun e he => (e1 e he).warmM hW⟩
theorem oldF_fr {U : State} {g : JFrame} {mk : MethodId} {a : Array Value} (h : oldF ad fm A L xs U U.heap) : oldF ad fm A L xs (U.calling g mk a) (U.calling g mk a).heap := by
  obtain ⟨⟨a1, a2, a3⟩, ⟨b1, b2⟩, ⟨c1, c2, c3⟩, ⟨d1, d2⟩, e1⟩ := h
  exact ⟨⟨a1.moved (Vm.Alike.refl U.vm), a2, a3⟩, ⟨b1.moved (Vm.Alike.refl U.vm), b2.moved (Vm.Alike.refl U.vm)⟩, ⟨c1.moved (Vm.Alike.refl U.vm), c2.moved (Vm.Alike.refl U.vm), c3⟩, ⟨fun e he => vk_R.same rfl (d1 e he), d2.moved (Vm.Alike.refl U.vm)⟩, fun e he => va_Nw.same rfl rfl (e1 e he)⟩
theorem wld_set {k : Nat} (hk : k < 72) {μ μ' : sM} {s : State} {H : Heap} {locs : List Loc} (hw : wld D ad cy A L xs μ s H locs) (h1 : ∀ j, j ≠ k → μ'.1 j = μ.1 j) (h2 : ∀ j, j ≠ k → μ'.2 j = μ.2 j) {H1 : Heap} {locs1 : List Loc} (hP : va_P D vwCl ((wW ad cy μ).set k (ad k, cellE ad cy μ' k)) H1) (hD : va_D A ((wW ad cy μ).set k (ad k, cellE ad cy μ' k))) (hS : va_S A s.heap H1 locs1) : wld D ad cy A L xs μ' s H1 locs1 := by
  rw [wW_set hk h1 h2] at hP hD
  exact ⟨hP, hD, hS, by rw [h1 99 (by omega)]; exact hw.2.2.2.1, by rw [h1 98 (by omega)]; exact hw.2.2.2.2⟩
def rmD (d : Nat) : Room := { frames := d, cells := 0, slots := 0, locals := 60 * d }
def wsY (y : Nat) : List Cond := Cond.code (yN y) (byt y) (mLx y) (rty y) :: gw
def preU (D : va_G) (ad : Nat → Nat) (cy : Nat → ClassId) (fm : Value) (A : Nat → Prop) (L : Nat) (xs : Nat → Int32) (μ : sM) (U : State) : Prop := va_P D vwCl (wW ad cy μ) U.heap ∧ va_D A (wW ad cy μ) ∧ va_K D vwCl (tyL cy) U ∧ oldF ad fm A L xs U U.heap ∧ μ.1 99 = xs ∧ (μ.1 98 0).toNatClampNeg = L
def pcY (D : va_G) (ad : Nat → Nat) (cy : Nat → ClassId) (fm : Value) (A : Nat → Prop) (L : Nat) (xs : Nat → Int32) (a : List Value) (μ : sM) : Array Value → State → Prop := fun v U => v = (a.map (cv ad fm)).toArray ∧ preU D ad cy fm A L xs μ U
def qcY (D : va_G) (ad : Nat → Nat) (cy : Nat → ClassId) (fm : Value) (A : Nat → Prop) (L : Nat) (xs : Nat → Int32) (u : Option Value × sM) : Array Value → State → Outcome → State → Prop := fun _ st oc t => (oc = .returned (u.1.map (cv ad fm)) ∧ va_P D vwCl (wW ad cy u.2) t.heap ∧ va_D A (wW ad cy u.2) ∧ u.2.1 99 = xs ∧ (u.2.1 98 0).toNatClampNeg = L) ∧ va_F A st t
def metY (l : Launch) (D : va_G) (ad : Nat → Nat) (cy : Nat → ClassId) (fm : Value) (A : Nat → Prop) (L : Nat) (xs : Nat → Int32) (d y : Nat) (a : List Value) (μ : sM) (u : Option Value × sM) : Prop := Met l (yN y) (wsY y) (rmD d) (pcY D ad cy fm A L xs a μ) (qcY D ad cy fm A L xs u) 0 0 A
theorem pcY_blind {a : List Value} {μ : sM} : FrameBlind (pcY D ad cy fm A L xs a μ) := fun b U g mk q => by
  obtain ⟨h0, h1, h2, h3, h4, h5⟩ := q
  exact ⟨h0, h1, h2, va_K.moved (u := U) (U := U.calling g mk b) (Vm.Alike.refl U.vm) h3, oldF_fr h4, h5⟩
theorem wsY_good (m y : Nat) (hy : y ∈ mAll) : GoodIn gw (wsY y) := fun w h => by
  rcases List.mem_cons.mp h with rfl | h
  · exact ⟨w_code y hy, good_of_word (gw_good _ (w_code y hy))⟩
  · exact ⟨h, good_of_word (gw_good w h)⟩
theorem no_some {x : Option Value × sM} {P : Prop} (h : (none : sR) = some x) : P := by cases h
theorem ckd {pc nx len n : Nat} {raw i : Instr} (h : (decide (nx = pc + len) && (decide (raw = i) && len == n)) = true) : nx = pc + n ∧ raw = i ∧ len = n := by
  simp only [Bool.and_eq_true, decide_eq_true_eq, beq_iff_eq] at h
  obtain ⟨h1, h2, h3⟩ := h
  subst h3
  exact ⟨h1, h2, rfl⟩
theorem ib_in {i : Int32} {n : Nat} (h : ib i n = true) : vp_in i n := by
  unfold ib at h
  simp only [Bool.and_eq_true, Bool.not_eq_true', decide_eq_false_iff_not, decide_eq_true_eq] at h
  unfold vp_in
  rintro (q | q)
  · exact h.1 q
  · omega
theorem cKd_7 {k : Nat} (h : cKd k = 7) : k = 101 := by unfold cKd at h; split at h <;> first | rfl | simp at h
theorem cKd_8 {k : Nat} (h : cKd k = 8) : k = 99 := by unfold cKd at h; split at h <;> first | rfl | simp at h
theorem cKd_10 {k : Nat} (h : cKd k = 10) : ∃ i, i < 9 ∧ k = 120 + i := by unfold cKd at h; split at h <;> first | exact ⟨0, by omega, rfl⟩ | exact ⟨1, by omega, rfl⟩ | exact ⟨2, by omega, rfl⟩ | exact ⟨3, by omega, rfl⟩ | exact ⟨4, by omega, rfl⟩ | exact ⟨5, by omega, rfl⟩ | exact ⟨6, by omega, rfl⟩ | exact ⟨7, by omega, rfl⟩ | exact ⟨8, by omega, rfl⟩ | simp at h
theorem cKd_9 {k : Nat} (h : cKd k = 9) : ∃ i, i < 9 ∧ k = 110 + i := by unfold cKd at h; split at h <;> first | exact ⟨0, by omega, rfl⟩ | exact ⟨1, by omega, rfl⟩ | exact ⟨2, by omega, rfl⟩ | exact ⟨3, by omega, rfl⟩ | exact ⟨4, by omega, rfl⟩ | exact ⟨5, by omega, rfl⟩ | exact ⟨6, by omega, rfl⟩ | exact ⟨7, by omega, rfl⟩ | exact ⟨8, by omega, rfl⟩ | simp at h
theorem cIx_cases {k : Nat} (h : cIx k ≤ 8) : (k < 72 ∧ cIx k < 8 ∧ cKd k = 1) ∨ (cIx k = 8 ∧ ∃ i, i < 9 ∧ k = 110 + i) := by
  rcases Nat.lt_or_ge k 129 with q | q
  · have key : ∀ k, k < 129 → cIx k ≤ 8 → (k < 72 ∧ cIx k < 8 ∧ cKd k = 1) ∨ (cIx k = 8 ∧ 110 ≤ k ∧ k < 119) := by decide +kernel
    rcases key k q h with a | ⟨a, b, c⟩
    · exact Or.inl a
    · exact Or.inr ⟨a, k - 110, by omega, by omega⟩
  · exfalso
    unfold cIx at h
    split at h <;> omega
theorem rd_lo {μ : sM} {k i : Nat} (h : k < 72) : rdI μ k i = μ.1 k i := if_pos (by omega)
theorem store_sub {ls : List Value} {i : Nat} {v : Value} (hf : fm = .null ∨ ∃ t, fm = .ref t) (hst : stB ls i = true) (hv : v.category ≠ 2) : ∀ q ∈ asc ad fm (ls.set i v), q ∈ (i, cv ad fm v) :: (asc ad fm ls).filter (fun q => !(q.1 == i) && !(q.1 + 1 == i && q.2.category == 2)) := by
  rintro ⟨j, u⟩ hq
  obtain ⟨w, h1, h2, rfl⟩ := mem_asc.mp hq
  obtain ⟨hi, hp⟩ := stB_spec hst
  rw [List.getElem?_set] at h1
  by_cases hj : i = j
  · subst hj
    rw [if_pos rfl, if_pos hi] at h1
    cases h1
    exact List.mem_cons_self
  · rw [if_neg hj] at h1
    refine List.mem_cons_of_mem _ (List.mem_filter.mpr ⟨mem_asc.mpr ⟨w, h1, h2, rfl⟩, ?_⟩)
    have e1 : (j == i) = false := by simpa using Ne.symm hj
    dsimp only
    rw [e1, cv_cat hf]
    by_cases hj1 : j + 1 = i
    · have := hp j w hj1 h1
      simp [this]
    · simp [hj1]
theorem store_sub2 {ls : List Value} {i : Nat} {v : Value} (hf : fm = .null ∨ ∃ t, fm = .ref t) (hst : stB ls i = true) : ∀ q ∈ asc ad fm ((ls.set i v).set (i + 1) .null), q ∈ (i, cv ad fm v) :: (asc ad fm ls).filter (fun q => !(q.1 == i) && (!(q.1 == i + 1) && !(q.1 + 1 == i && q.2.category == 2))) := by
  rintro ⟨j, u⟩ hq
  obtain ⟨w, h1, h2, rfl⟩ := mem_asc.mp hq
  obtain ⟨hi, hp⟩ := stB_spec hst
  rw [List.getElem?_set] at h1
  by_cases hj1 : i + 1 = j
  · rw [if_pos hj1] at h1
    split at h1
    · cases h1; exact absurd rfl h2
    · cases h1
  · rw [if_neg hj1, List.getElem?_set] at h1
    by_cases hj : i = j
    · subst hj
      rw [if_pos rfl, if_pos hi] at h1
      cases h1
      exact List.mem_cons_self
    · rw [if_neg hj] at h1
      refine List.mem_cons_of_mem _ (List.mem_filter.mpr ⟨mem_asc.mpr ⟨w, h1, h2, rfl⟩, ?_⟩)
      have e1 : (j == i) = false := by simpa using Ne.symm hj
      have e2 : (j == i + 1) = false := by simpa using Ne.symm hj1
      dsimp only
      rw [e1, e2, cv_cat hf]
      by_cases hj2 : j + 1 = i
      · have := hp j w hj2 h1
        simp [this]
      · simp [hj2]
end

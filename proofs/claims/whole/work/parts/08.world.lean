/-! 08.world: the machine's heap by the small machine's memory -/
def cv (ad : Nat → Nat) (fm : Value) (v : Value) : Value := match v with
  | .ref k => if k = 150 then fm else .ref (ad k)
  | v => v
theorem cv_r {ad : Nat → Nat} {fm : Value} {k : Nat} (h : k ≠ 150) : cv ad fm (.ref k) = .ref (ad k) := if_neg h
def fdE (ad : Nat → Nat) (μ : sM) (k j : Nat) (f : Option Nat) : Value := match f with
  | some t => .ref (ad t)
  | none => .int (μ.1 k j)
def objF (ad : Nat → Nat) (μ : sM) (k : Nat) : List Value := (oFs k).mapIdx (fun j f => fdE ad μ k j f)
def cellE (ad : Nat → Nat) (cy : Nat → ClassId) (μ : sM) (k : Nat) : va_E :=
  if cKd k = 1 then .inr (cIx k, objF ad μ k)
  else if cKd k = 5 then .inl (cy 5, aNn k, .inr (.inl (μ.2 k)))
  else if cKd k = 6 then .inl (cy 6, aNn k, .inr (.inr (.inr (.inr (fun i => some (ad (46 + 2 * i)))))))
  else .inl (cy (cKd k), aNn k, .inl (μ.1 k))
def wW (ad : Nat → Nat) (cy : Nat → ClassId) (μ : sM) : va_W := (List.range 72).map (fun k => (ad k, cellE ad cy μ k))
section
variable {ad : Nat → Nat} {cy : Nat → ClassId} {μ μ' : sM} {k j : Nat} {fm : Value}
theorem wW_get (hk : k < 72) : (wW ad cy μ)[k]? = some (ad k, cellE ad cy μ k) := by
  simp [wW, hk]
theorem cellE_congr (h1 : μ'.1 j = μ.1 j) (h2 : μ'.2 j = μ.2 j) : cellE ad cy μ' j = cellE ad cy μ j := by
  have e : objF ad μ' j = objF ad μ j := by
    unfold objF
    congr 1
    funext i f
    cases f with
    | none => show Value.int (μ'.1 j i) = Value.int (μ.1 j i); rw [h1]
    | some t => rfl
  unfold cellE
  rw [e, h1, h2]
theorem wW_set (hk : k < 72) (h1 : ∀ j, j ≠ k → μ'.1 j = μ.1 j) (h2 : ∀ j, j ≠ k → μ'.2 j = μ.2 j) : (wW ad cy μ).set k (ad k, cellE ad cy μ' k) = wW ad cy μ' := by
  apply List.ext_getElem?
  intro i
  rw [List.getElem?_set]
  by_cases hi : k = i
  · subst hi
    rw [if_pos rfl, wW_get hk, if_pos (by simp [wW, hk])]
  · rw [if_neg hi]
    by_cases h72 : i < 72
    · rw [wW_get h72, wW_get h72, cellE_congr (h1 i (Ne.symm hi)) (h2 i (Ne.symm hi))]
    · rw [List.getElem?_eq_none (by simp [wW]; omega), List.getElem?_eq_none (by simp [wW]; omega)]
theorem cellE_1 (h : cKd k = 1) : cellE ad cy μ k = .inr (cIx k, objF ad μ k) := by simp [cellE, h]
theorem cellE_2 (h : cKd k = 2) : cellE ad cy μ k = .inl (cy 2, aNn k, .inl (μ.1 k)) := by simp [cellE, h]
theorem cellE_3 (h : cKd k = 3) : cellE ad cy μ k = .inl (cy 3, aNn k, .inl (μ.1 k)) := by simp [cellE, h]
theorem cellE_4 (h : cKd k = 4) : cellE ad cy μ k = .inl (cy 4, aNn k, .inl (μ.1 k)) := by simp [cellE, h]
theorem cellE_5 (h : cKd k = 5) : cellE ad cy μ k = .inl (cy 5, aNn k, .inr (.inl (μ.2 k))) := by simp [cellE, h]
theorem cellE_6 (h : cKd k = 6) : cellE ad cy μ k = .inl (cy 6, aNn k, .inr (.inr (.inr (.inr (fun i => some (ad (46 + 2 * i))))))) := by simp [cellE, h]
theorem wI_row {i : Nat} {v : Int32} : (wI μ k i v).1 k = upd (μ.1 k) i v := by
  funext j
  simp [wI, upd]
theorem wI_ne {i : Nat} {v : Int32} (h : j ≠ k) : (wI μ k i v).1 j = μ.1 j := by
  funext b
  simp [wI, h]
theorem wL_row {i : Nat} {v : Int64} : (wL μ k i v).2 k = vp_updL (μ.2 k) i v := by
  funext j
  simp [wL, vp_updL]
theorem wL_ne {i : Nat} {v : Int64} (h : j ≠ k) : (wL μ k i v).2 j = μ.2 j := by
  funext b
  simp [wL, h]
theorem cpI_row {s sp tp n : Nat} : (cpI μ s sp k tp n).1 k = va_cpy (μ.1 s) (μ.1 k) sp tp n := by
  funext j
  simp [cpI, va_cpy]
theorem cpI_ne {s sp tp n : Nat} (h : j ≠ k) : (cpI μ s sp k tp n).1 j = μ.1 j := by
  funext b
  simp [cpI, h]
theorem cpL_row {s sp tp n : Nat} : (cpL μ s sp k tp n).2 k = va_cpy (μ.2 s) (μ.2 k) sp tp n := by
  funext j
  simp [cpL, va_cpy]
theorem cpL_ne {s sp tp n : Nat} (h : j ≠ k) : (cpL μ s sp k tp n).2 j = μ.2 j := by
  funext b
  simp [cpL, h]
theorem cKd_lt (h : cKd k = 1 ∨ cKd k = 2 ∨ cKd k = 3 ∨ cKd k = 4 ∨ cKd k = 5 ∨ cKd k = 6) : k < 72 := by
  rcases Nat.lt_or_ge k 72 with q | q
  · exact q
  · exfalso
    unfold cKd at h
    split at h <;> first | omega | simp at h
theorem objF_get {f : Option Nat} (h : (oFs k)[j]? = some f) : (objF ad μ k)[j]? = some (fdE ad μ k j f) := by
  simp [objF, h]
theorem objF_set {v : Int32} (h : (oFs k)[j]? = some none) : (objF ad μ k).set j (.int v) = objF ad (wI μ k j v) k := by
  apply List.ext_getElem?
  intro i
  rw [List.getElem?_set]
  have hj : j < (oFs k).length := (List.getElem?_eq_some_iff.mp h).1
  by_cases hi : j = i
  · subst hi
    rw [if_pos rfl, if_pos (by simp [objF, hj]), objF_get h]
    simp [fdE, wI]
  · rw [if_neg hi]
    cases hf : (oFs k)[i]? with
    | none => simp [objF, hf]
    | some f =>
      rw [objF_get hf, objF_get hf]
      cases f with
      | none => simp [fdE, wI, Ne.symm hi]
      | some t => rfl
def isN (v : Value) : Bool := match v with
  | .null => true
  | _ => false
theorem isN_iff {v : Value} : isN v = true ↔ v = .null := by cases v <;> simp [isN]
/-- the locals that hold something, by their places -/
def asc (ad : Nat → Nat) (fm : Value) (ls : List Value) : List (Nat × Value) := (List.range ls.length).filterMap (fun i => (ls[i]?).bind (fun v => if isN v = true then none else some (i, cv ad fm v)))
theorem mem_asc {ls : List Value} {i : Nat} {u : Value} : (i, u) ∈ asc ad fm ls ↔ ∃ v, ls[i]? = some v ∧ v ≠ .null ∧ u = cv ad fm v := by
  unfold asc
  rw [List.mem_filterMap]
  constructor
  · rintro ⟨a, -, h⟩
    rw [Option.bind_eq_some_iff] at h
    obtain ⟨v, hv, h⟩ := h
    split at h
    · cases h
    · rename_i hn
      obtain ⟨rfl, rfl⟩ := Prod.mk.inj (Option.some.inj h)
      exact ⟨v, hv, (fun q => hn (isN_iff.mpr q)), rfl⟩
  · rintro ⟨v, h1, h2, rfl⟩
    refine ⟨i, List.mem_range.mpr (List.getElem?_eq_some_iff.mp h1).1, ?_⟩
    rw [h1]
    show (if isN v = true then none else some (i, cv ad fm v)) = _
    rw [if_neg (fun q => h2 (isN_iff.mp q))]
def lvR (ad : Nat → Nat) (fm : Value) (LS : Array Slot) (n : Nat) (ls : List Value) : Prop := lv_has LS n (asc ad fm ls) ∧ ls.length = n
theorem lvR_ld {LS : Array Slot} {n i : Nat} {ls : List Value} {v : Value} (h : lvR ad fm LS n ls) (hv : ls[i]? = some v) (hn : v ≠ .null) : LS[i]? = some (.val (cv ad fm v)) := h.1.2.2 (i, cv ad fm v) (mem_asc.mpr ⟨v, hv, hn, rfl⟩)
theorem lv_mono {LS : Array Slot} {n : Nat} {l l' : List (Nat × Value)} (h : lv_has LS n l) (hs : ∀ q ∈ l', q ∈ l) : lv_has LS n l' := ⟨h.1, h.2.1, fun q hq => h.2.2 q (hs q hq)⟩
theorem getD_some {ls : List Value} {i : Nat} {v : Value} (h : ls.getD i .null = v) (hv : v ≠ .null) : ls[i]? = some v := by
  rw [List.getD_eq_getElem?_getD] at h
  cases hq : ls[i]? with
  | none => rw [hq] at h; exact absurd h.symm hv
  | some w => rw [hq] at h; rw [← h]; rfl
theorem stB_spec {ls : List Value} {i : Nat} (h : stB ls i = true) : i < ls.length ∧ ∀ q v, q + 1 = i → ls[q]? = some v → v.category ≠ 2 := by
  unfold stB at h
  rw [Bool.and_eq_true, decide_eq_true_eq] at h
  refine ⟨h.1, fun q v hq hv => ?_⟩
  subst hq
  have h2 := h.2
  dsimp only at h2
  rw [List.getD_eq_getElem?_getD, hv] at h2
  cases v <;> simp [Value.category] at h2 ⊢
theorem cv_cat (hf : fm = .null ∨ ∃ t, fm = .ref t) (v : Value) : (cv ad fm v).category = v.category := by
  cases v with
  | ref x =>
    show (if x = 150 then fm else Value.ref (ad x)).category = _
    split
    · rcases hf with rfl | ⟨t, rfl⟩ <;> rfl
    · rfl
  | _ => rfl
end

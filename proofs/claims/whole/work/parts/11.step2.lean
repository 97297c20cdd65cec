/-! 11.step2: by wip/whole/gen_sound2.py -/

section
variable {p : Program} {l : Launch} {e : Env} {R : Room} {s : State} {mm : MethodId} {args : Array Value} {below : List Frame} {meth : Method} {c : Code} {cells slots : Nat} {Q : State → Prop} {D : va_G} {ad : Nat → Nat} {cy : Nat → ClassId} {fm : Value} {A : Nat → Prop} {L : Nat} {xs : Nat → Int32}
set_option maxHeartbeats 2000000 in
theorem pw_iaload {d m pc nx len : Nat} {raw : Instr} {ls st : List Value} {μ : sM} {k : sK} {cl : Nat → List Value → sM → sR} {x : Option Value × sM} (C : Cx p R s mm args c D ad cy fm A L xs m d) (hdec : decode (byt m) pc = .ok (raw, len)) (hck : ck m pc (.iaload) nx raw len = true) (h : stepK d cl k (.iaload) nx ls st μ = some x) (ihk : ∀ pc ls st μ, k pc ls st μ = some x → PW p l e R s mm args below meth c cells slots Q D ad cy fm A L xs m pc ls st μ) : PW p l e R s mm args below meth c cells slots Q D ad cy fm A L xs m pc ls st μ := by
  obtain ⟨hx, hb, hml, hown, hts, hfr, hlo, hO, hK⟩ := C
  intro H locs LS hw hl
  obtain ⟨rfl, rfl, rfl⟩ := ckd (i := .iaload) (n := 1) hck
  rcases st with _ | ⟨v, st⟩
  · exact no_some h
  cases v <;> (try exact no_some h)
  rename_i i
  rcases st with _ | ⟨v, st⟩
  · exact no_some h
  cases v <;> (try exact no_some h)
  rename_i o
  rw [st_iaload] at h
  split at h
  case isFalse => cases h
  rename_i hc
  rw [Bool.and_eq_true] at hc
  obtain ⟨hk, hi⟩ := hc
  have hk2 : cKd o = 2 ∨ cKd o = 7 ∨ cKd o = 8 := by simpa [kI, Bool.or_eq_true, or_assoc] using hk
  have hq := ihk _ _ _ _ h H locs LS hw hl
  rcases hk2 with h2 | h7 | h8
  · have ho := cKd_lt (k := o) (Or.inr (Or.inl h2))
    rw [rd_lo ho] at hq
    rw [aLn_lt ho] at hi
    simp only [List.map_cons, cv_lt ho]
    exact va_iald hx hb hK hw.1 o 0 (by rw [wW_get ho, cellE_2 h2]) rfl (ib_in hi) hdec hq
  · obtain rfl := cKd_7 h7
    simp only [List.map_cons, cv_101]
    exact va_ti hx hb hO.2.1.2 hw.2.2.1 (ib_in hi) rfl hdec hq
  · obtain rfl := cKd_8 h8
    have e1 : rdI μ 99 i.toNatClampNeg = xs i.toNatClampNeg := by rw [← hw.2.2.2.1]; rfl
    have e2 : aLn μ 99 = L := hw.2.2.2.2
    rw [e1] at hq
    rw [e2] at hi
    simp only [List.map_cons, cv_99]
    exact va_sld hx hb hO.1.1 hO.1.2.1 hO.1.2.2 hw.2.2.1 (ib_in hi) hdec hq
set_option maxHeartbeats 2000000 in
theorem pw_baload {d m pc nx len : Nat} {raw : Instr} {ls st : List Value} {μ : sM} {k : sK} {cl : Nat → List Value → sM → sR} {x : Option Value × sM} (C : Cx p R s mm args c D ad cy fm A L xs m d) (hdec : decode (byt m) pc = .ok (raw, len)) (hck : ck m pc (.baload) nx raw len = true) (h : stepK d cl k (.baload) nx ls st μ = some x) (ihk : ∀ pc ls st μ, k pc ls st μ = some x → PW p l e R s mm args below meth c cells slots Q D ad cy fm A L xs m pc ls st μ) : PW p l e R s mm args below meth c cells slots Q D ad cy fm A L xs m pc ls st μ := by
  obtain ⟨hx, hb, hml, hown, hts, hfr, hlo, hO, hK⟩ := C
  intro H locs LS hw hl
  obtain ⟨rfl, rfl, rfl⟩ := ckd (i := .baload) (n := 1) hck
  rcases st with _ | ⟨v, st⟩
  · exact no_some h
  cases v <;> (try exact no_some h)
  rename_i i
  rcases st with _ | ⟨v, st⟩
  · exact no_some h
  cases v <;> (try exact no_some h)
  rename_i o
  rw [st_baload] at h
  split at h
  case isFalse => cases h
  rename_i hc
  rw [Bool.and_eq_true] at hc
  obtain ⟨hk, hi⟩ := hc
  have hk2 : cKd o = 3 ∨ cKd o = 10 := by simpa [kB, Bool.or_eq_true] using hk
  have hq := ihk _ _ _ _ h H locs LS hw hl
  rcases hk2 with h2 | h7
  · have ho := cKd_lt (k := o) (Or.inr (Or.inr (Or.inl h2)))
    rw [rd_lo ho] at hq
    rw [aLn_lt ho] at hi
    simp only [List.map_cons, cv_lt ho]
    exact va_bald hx hb hK hw.1 o 1 (by rw [wW_get ho, cellE_3 h2]) rfl (ib_in hi) hdec hq
  · obtain ⟨z, hz, rfl⟩ := cKd_10 h7
    rw [rd_str] at hq
    rw [aLn_120, aNn_str z hz] at hi
    simp only [List.map_cons, cv_120 hz]
    exact va_tb hx hb (hO.2.2.2.1.2.1 z hz).2.2.2 hw.2.2.1 (ib_in hi) rfl hdec hq
set_option maxHeartbeats 2000000 in
theorem pw_caload {d m pc nx len : Nat} {raw : Instr} {ls st : List Value} {μ : sM} {k : sK} {cl : Nat → List Value → sM → sR} {x : Option Value × sM} (C : Cx p R s mm args c D ad cy fm A L xs m d) (hdec : decode (byt m) pc = .ok (raw, len)) (hck : ck m pc (.caload) nx raw len = true) (h : stepK d cl k (.caload) nx ls st μ = some x) (ihk : ∀ pc ls st μ, k pc ls st μ = some x → PW p l e R s mm args below meth c cells slots Q D ad cy fm A L xs m pc ls st μ) : PW p l e R s mm args below meth c cells slots Q D ad cy fm A L xs m pc ls st μ := by
  obtain ⟨hx, hb, hml, hown, hts, hfr, hlo, hO, hK⟩ := C
  intro H locs LS hw hl
  obtain ⟨rfl, rfl, rfl⟩ := ckd (i := .caload) (n := 1) hck
  rcases st with _ | ⟨v, st⟩
  · exact no_some h
  cases v <;> (try exact no_some h)
  rename_i i
  rcases st with _ | ⟨v, st⟩
  · exact no_some h
  cases v <;> (try exact no_some h)
  rename_i o
  rw [st_caload] at h
  split at h
  case isFalse => cases h
  rename_i hc
  rw [Bool.and_eq_true, beq_iff_eq] at hc
  obtain ⟨h2, hi⟩ := hc
  have hq := ihk _ _ _ _ h H locs LS hw hl
  have ho := cKd_lt (k := o) (Or.inr (Or.inr (Or.inr (Or.inl h2))))
  rw [rd_lo ho] at hq
  rw [aLn_lt ho] at hi
  simp only [List.map_cons, cv_lt ho]
  exact va_cald hx hb hK hw.1 o 2 (by rw [wW_get ho, cellE_4 h2]) rfl (ib_in hi) hdec hq
set_option maxHeartbeats 2000000 in
theorem pw_laload {d m pc nx len : Nat} {raw : Instr} {ls st : List Value} {μ : sM} {k : sK} {cl : Nat → List Value → sM → sR} {x : Option Value × sM} (C : Cx p R s mm args c D ad cy fm A L xs m d) (hdec : decode (byt m) pc = .ok (raw, len)) (hck : ck m pc (.laload) nx raw len = true) (h : stepK d cl k (.laload) nx ls st μ = some x) (ihk : ∀ pc ls st μ, k pc ls st μ = some x → PW p l e R s mm args below meth c cells slots Q D ad cy fm A L xs m pc ls st μ) : PW p l e R s mm args below meth c cells slots Q D ad cy fm A L xs m pc ls st μ := by
  obtain ⟨hx, hb, hml, hown, hts, hfr, hlo, hO, hK⟩ := C
  intro H locs LS hw hl
  obtain ⟨rfl, rfl, rfl⟩ := ckd (i := .laload) (n := 1) hck
  rcases st with _ | ⟨v, st⟩
  · exact no_some h
  cases v <;> (try exact no_some h)
  rename_i i
  rcases st with _ | ⟨v, st⟩
  · exact no_some h
  cases v <;> (try exact no_some h)
  rename_i o
  rw [st_laload] at h
  split at h
  case isFalse => cases h
  rename_i hc
  rw [Bool.and_eq_true, beq_iff_eq] at hc
  obtain ⟨h2, hi⟩ := hc
  have hq := ihk _ _ _ _ h H locs LS hw hl
  have ho := cKd_lt (k := o) (Or.inr (Or.inr (Or.inr (Or.inr (Or.inl h2)))))
  simp only [List.map_cons, cv_lt ho]
  exact va_lald hx hb hK hw.1 o 3 (by rw [wW_get ho, cellE_5 h2]) rfl (ib_in hi) hdec hq
set_option maxHeartbeats 2000000 in
theorem pw_aaload {d m pc nx len : Nat} {raw : Instr} {ls st : List Value} {μ : sM} {k : sK} {cl : Nat → List Value → sM → sR} {x : Option Value × sM} (C : Cx p R s mm args c D ad cy fm A L xs m d) (hdec : decode (byt m) pc = .ok (raw, len)) (hck : ck m pc (.aaload) nx raw len = true) (h : stepK d cl k (.aaload) nx ls st μ = some x) (ihk : ∀ pc ls st μ, k pc ls st μ = some x → PW p l e R s mm args below meth c cells slots Q D ad cy fm A L xs m pc ls st μ) : PW p l e R s mm args below meth c cells slots Q D ad cy fm A L xs m pc ls st μ := by
  obtain ⟨hx, hb, hml, hown, hts, hfr, hlo, hO, hK⟩ := C
  intro H locs LS hw hl
  obtain ⟨rfl, rfl, rfl⟩ := ckd (i := .aaload) (n := 1) hck
  rcases st with _ | ⟨v, st⟩
  · exact no_some h
  cases v <;> (try exact no_some h)
  rename_i i
  rcases st with _ | ⟨v, st⟩
  · exact no_some h
  cases v <;> (try exact no_some h)
  rename_i o
  rw [st_aaload] at h
  split at h
  case isFalse => cases h
  rename_i hc
  rw [Bool.and_eq_true, beq_iff_eq] at hc
  obtain ⟨rfl, hi⟩ := hc
  have hq := ihk _ _ _ _ h H locs LS hw hl
  have hi4 : i.toNatClampNeg < 4 := by
    unfold ib at hi
    simp only [Bool.and_eq_true, decide_eq_true_eq] at hi
    exact hi.2
  simp only [List.map_cons, cv_46 hi4] at hq
  simp only [List.map_cons, cv_lt (show 45 < 72 by decide)]
  exact va_aldq (cA := cy 6) (n := 4) (C := "FortyReports$Sheet") (f := fun i => some (ad (46 + 2 * i))) hx hb hK hw.1 45 4 (by rw [wW_get (by decide), cellE_6 (by decide +kernel)]; rfl) rfl (ib_in hi) hdec hq
set_option maxHeartbeats 2000000 in
theorem pw_iastore {d m pc nx len : Nat} {raw : Instr} {ls st : List Value} {μ : sM} {k : sK} {cl : Nat → List Value → sM → sR} {x : Option Value × sM} (C : Cx p R s mm args c D ad cy fm A L xs m d) (hdec : decode (byt m) pc = .ok (raw, len)) (hck : ck m pc (.iastore) nx raw len = true) (h : stepK d cl k (.iastore) nx ls st μ = some x) (ihk : ∀ pc ls st μ, k pc ls st μ = some x → PW p l e R s mm args below meth c cells slots Q D ad cy fm A L xs m pc ls st μ) : PW p l e R s mm args below meth c cells slots Q D ad cy fm A L xs m pc ls st μ := by
  obtain ⟨hx, hb, hml, hown, hts, hfr, hlo, hO, hK⟩ := C
  intro H locs LS hw hl
  obtain ⟨rfl, rfl, rfl⟩ := ckd (i := .iastore) (n := 1) hck
  rcases st with _ | ⟨v, st⟩
  · exact no_some h
  cases v <;> (try exact no_some h)
  rename_i u
  rcases st with _ | ⟨v, st⟩
  · exact no_some h
  cases v <;> (try exact no_some h)
  rename_i i
  rcases st with _ | ⟨v, st⟩
  · exact no_some h
  cases v <;> (try exact no_some h)
  rename_i o
  rw [st_iastore] at h
  split at h
  case isFalse => cases h
  rename_i hc
  rw [Bool.and_eq_true, beq_iff_eq] at hc
  obtain ⟨h2, hi⟩ := hc
  have ho := cKd_lt (k := o) (Or.inr (Or.inl h2))
  simp only [List.map_cons, cv_lt ho]
  exact va_iast hx hb hK hw.1 hw.2.1 hw.2.2.1 o 0 (by rw [wW_get ho, cellE_2 h2]) rfl (ib_in hi) hdec (fun H1 locs1 hP1 hD1 hS1 => ihk _ _ _ _ h H1 locs1 LS (wld_set ho hw (fun j hj => wI_ne hj) (fun j _ => rfl) (by rw [cellE_2 h2, wI_row]; exact hP1) (by rw [cellE_2 h2, wI_row]; exact hD1) hS1) hl)
set_option maxHeartbeats 2000000 in
theorem pw_bastore {d m pc nx len : Nat} {raw : Instr} {ls st : List Value} {μ : sM} {k : sK} {cl : Nat → List Value → sM → sR} {x : Option Value × sM} (C : Cx p R s mm args c D ad cy fm A L xs m d) (hdec : decode (byt m) pc = .ok (raw, len)) (hck : ck m pc (.bastore) nx raw len = true) (h : stepK d cl k (.bastore) nx ls st μ = some x) (ihk : ∀ pc ls st μ, k pc ls st μ = some x → PW p l e R s mm args below meth c cells slots Q D ad cy fm A L xs m pc ls st μ) : PW p l e R s mm args below meth c cells slots Q D ad cy fm A L xs m pc ls st μ := by
  obtain ⟨hx, hb, hml, hown, hts, hfr, hlo, hO, hK⟩ := C
  intro H locs LS hw hl
  obtain ⟨rfl, rfl, rfl⟩ := ckd (i := .bastore) (n := 1) hck
  rcases st with _ | ⟨v, st⟩
  · exact no_some h
  cases v <;> (try exact no_some h)
  rename_i u
  rcases st with _ | ⟨v, st⟩
  · exact no_some h
  cases v <;> (try exact no_some h)
  rename_i i
  rcases st with _ | ⟨v, st⟩
  · exact no_some h
  cases v <;> (try exact no_some h)
  rename_i o
  rw [st_bastore] at h
  split at h
  case isFalse => cases h
  rename_i hc
  rw [Bool.and_eq_true, beq_iff_eq] at hc
  obtain ⟨h2, hi⟩ := hc
  have ho := cKd_lt (k := o) (Or.inr (Or.inr (Or.inl h2)))
  simp only [List.map_cons, cv_lt ho]
  exact va_bast hx hb hK hw.1 hw.2.1 hw.2.2.1 o 1 (by rw [wW_get ho, cellE_3 h2]) rfl (ib_in hi) hdec (fun H1 locs1 hP1 hD1 hS1 => ihk _ _ _ _ h H1 locs1 LS (wld_set ho hw (fun j hj => wI_ne hj) (fun j _ => rfl) (by rw [cellE_3 h2, wI_row]; exact hP1) (by rw [cellE_3 h2, wI_row]; exact hD1) hS1) hl)
set_option maxHeartbeats 2000000 in
theorem pw_lastore {d m pc nx len : Nat} {raw : Instr} {ls st : List Value} {μ : sM} {k : sK} {cl : Nat → List Value → sM → sR} {x : Option Value × sM} (C : Cx p R s mm args c D ad cy fm A L xs m d) (hdec : decode (byt m) pc = .ok (raw, len)) (hck : ck m pc (.lastore) nx raw len = true) (h : stepK d cl k (.lastore) nx ls st μ = some x) (ihk : ∀ pc ls st μ, k pc ls st μ = some x → PW p l e R s mm args below meth c cells slots Q D ad cy fm A L xs m pc ls st μ) : PW p l e R s mm args below meth c cells slots Q D ad cy fm A L xs m pc ls st μ := by
  obtain ⟨hx, hb, hml, hown, hts, hfr, hlo, hO, hK⟩ := C
  intro H locs LS hw hl
  obtain ⟨rfl, rfl, rfl⟩ := ckd (i := .lastore) (n := 1) hck
  rcases st with _ | ⟨v, st⟩
  · exact no_some h
  cases v <;> (try exact no_some h)
  rename_i u
  rcases st with _ | ⟨v, st⟩
  · exact no_some h
  cases v <;> (try exact no_some h)
  rename_i i
  rcases st with _ | ⟨v, st⟩
  · exact no_some h
  cases v <;> (try exact no_some h)
  rename_i o
  rw [st_lastore] at h
  split at h
  case isFalse => cases h
  rename_i hc
  rw [Bool.and_eq_true, beq_iff_eq] at hc
  obtain ⟨h2, hi⟩ := hc
  have ho := cKd_lt (k := o) (Or.inr (Or.inr (Or.inr (Or.inr (Or.inl h2)))))
  simp only [List.map_cons, cv_lt ho]
  exact va_last hx hb hK hw.1 hw.2.1 hw.2.2.1 o 3 (by rw [wW_get ho, cellE_5 h2]) rfl (ib_in hi) hdec (fun H1 locs1 hP1 hD1 hS1 => ihk _ _ _ _ h H1 locs1 LS (wld_set (μ' := wL μ o i.toNatClampNeg u) ho hw (fun j _ => rfl) (fun j hj => wL_ne hj) (by rw [cellE_5 h2, wL_row]; exact hP1) (by rw [cellE_5 h2, wL_row]; exact hD1) hS1) hl)
set_option maxHeartbeats 2000000 in
theorem pw_arraylength {d m pc nx len : Nat} {raw : Instr} {ls st : List Value} {μ : sM} {k : sK} {cl : Nat → List Value → sM → sR} {x : Option Value × sM} (C : Cx p R s mm args c D ad cy fm A L xs m d) (hdec : decode (byt m) pc = .ok (raw, len)) (hck : ck m pc (.arraylength) nx raw len = true) (h : stepK d cl k (.arraylength) nx ls st μ = some x) (ihk : ∀ pc ls st μ, k pc ls st μ = some x → PW p l e R s mm args below meth c cells slots Q D ad cy fm A L xs m pc ls st μ) : PW p l e R s mm args below meth c cells slots Q D ad cy fm A L xs m pc ls st μ := by
  obtain ⟨hx, hb, hml, hown, hts, hfr, hlo, hO, hK⟩ := C
  intro H locs LS hw hl
  obtain ⟨rfl, rfl, rfl⟩ := ckd (i := .arraylength) (n := 1) hck
  rcases st with _ | ⟨v, st⟩
  · exact no_some h
  cases v <;> (try exact no_some h)
  rename_i o
  rw [st_alen] at h
  split at h
  case isFalse => cases h
  rename_i hc
  have hq := ihk _ _ _ _ h H locs LS hw hl
  have hk : cKd o ≠ 0 ∧ cKd o ≠ 1 ∧ cKd o ≠ 9 := by
    unfold kA at hc
    simp only [Bool.not_eq_true', Bool.or_eq_false_iff, beq_eq_false_iff_ne, ne_eq] at hc
    exact ⟨hc.1.1, hc.1.2, hc.2⟩
  have hk2 : cKd o = 2 ∨ cKd o = 3 ∨ cKd o = 4 ∨ cKd o = 5 ∨ cKd o = 6 ∨ cKd o = 7 ∨ cKd o = 8 ∨ cKd o = 10 := by
    have := cKd_le o
    omega
  rcases hk2 with h2 | h2 | h2 | h2 | h2 | h2 | h2 | h2
  · have ho := cKd_lt (k := o) (by omega)
    rw [aLn_lt ho] at hq
    simp only [List.map_cons, cv_lt ho]
    exact va_alen (x := (aNn o, .inl (μ.1 o))) hx hb hK hw.1 o 0 (by rw [wW_get ho, cellE_2 h2]) rfl rfl hdec hq
  · have ho := cKd_lt (k := o) (by omega)
    rw [aLn_lt ho] at hq
    simp only [List.map_cons, cv_lt ho]
    exact va_alen (x := (aNn o, .inl (μ.1 o))) hx hb hK hw.1 o 1 (by rw [wW_get ho, cellE_3 h2]) rfl rfl hdec hq
  · have ho := cKd_lt (k := o) (by omega)
    rw [aLn_lt ho] at hq
    simp only [List.map_cons, cv_lt ho]
    exact va_alen (x := (aNn o, .inl (μ.1 o))) hx hb hK hw.1 o 2 (by rw [wW_get ho, cellE_4 h2]) rfl rfl hdec hq
  · have ho := cKd_lt (k := o) (by omega)
    rw [aLn_lt ho] at hq
    simp only [List.map_cons, cv_lt ho]
    exact va_alen (x := (aNn o, .inr (.inl (μ.2 o)))) hx hb hK hw.1 o 3 (by rw [wW_get ho, cellE_5 h2]) rfl rfl hdec hq
  · have ho := cKd_lt (k := o) (by omega)
    rw [aLn_lt ho] at hq
    simp only [List.map_cons, cv_lt ho]
    exact va_alen (x := (aNn o, .inr (.inr (.inr (.inr (fun i => some (ad (46 + 2 * i)))))))) hx hb hK hw.1 o 4 (by rw [wW_get ho, cellE_6 h2]) rfl rfl hdec hq
  · obtain rfl := cKd_7 h2
    simp only [List.map_cons, cv_101]
    exact va_tlen hx hb hO.2.1.2 hw.2.2.1 rfl hdec hq
  · obtain rfl := cKd_8 h2
    have e2 : aLn μ 99 = L := hw.2.2.2.2
    rw [e2] at hq
    simp only [List.map_cons, cv_99]
    exact va_slen hx hb hO.1.1 hO.1.2.1 hO.1.2.2 hw.2.2.1 hdec hq
  · obtain ⟨z, hz, rfl⟩ := cKd_10 h2
    rw [aLn_120, aNn_str z hz] at hq
    simp only [List.map_cons, cv_120 hz]
    exact va_tlen hx hb (hO.2.2.2.1.2.1 z hz).2.2.2 hw.2.2.1 rfl hdec hq
set_option maxHeartbeats 2000000 in
theorem pw_getfield {d m pc nx len : Nat} {raw : Instr} {ls st : List Value} {μ : sM} {k : sK} {cl : Nat → List Value → sM → sR} {x : Option Value × sM} {q : Nat} (C : Cx p R s mm args c D ad cy fm A L xs m d) (hdec : decode (byt m) pc = .ok (raw, len)) (hck : ck m pc (.getfield q) nx raw len = true) (h : stepK d cl k (.getfield q) nx ls st μ = some x) (ihk : ∀ pc ls st μ, k pc ls st μ = some x → PW p l e R s mm args below meth c cells slots Q D ad cy fm A L xs m pc ls st μ) : PW p l e R s mm args below meth c cells slots Q D ad cy fm A L xs m pc ls st μ := by
  obtain ⟨hx, hb, hml, hown, hts, hfr, hlo, hO, hK⟩ := C
  intro H locs LS hw hl
  rcases st with _ | ⟨v, st⟩
  · exact no_some h
  cases v <;> (try exact no_some h)
  rename_i o
  rw [st_get] at h
  split at h
  case isFalse => cases h
  rename_i hc
  rw [beq_iff_eq] at hc
  have hck : (decide (nx = pc + len) && ckGf m q raw len) = true := hck
  simp only [Bool.and_eq_true, decide_eq_true_eq] at hck
  obtain ⟨rfl, hk⟩ := hck
  unfold ckGf at hk
  split at hk
  case h_2 => cases hk
  simp only [Bool.and_eq_true, decide_eq_true_eq, beq_iff_eq] at hk
  obtain ⟨hlk, rfl⟩ := hk
  have hfl := hts _ (w_fl _ (lookup_mem hlk))
  have hq8 := fLk_8 _ (lookup_mem hlk)
  dsimp only at hfl hq8
  rcases cIx_cases (k := o) (by omega) with ⟨ho, hci, hk1⟩ | ⟨h8, z, hz, rfl⟩
  · rw [fNm_own (by omega)] at hfl
    dsimp only at hfl
    rw [← hc] at hfl
    obtain ⟨ht1, ht2⟩ := cls_tab hci
    simp only [List.map_cons, cv_lt ho]
    cases hf : (oFs o)[q % 100]? with
    | none => rw [hf] at h; exact no_some h
    | some f =>
      have hlt : q % 100 < NF (cIx o) := by rw [← oFs_len o ho hk1]; exact (List.getElem?_eq_some_iff.mp hf).1
      rw [hf] at h
      cases f with
      | none =>
        have h : k (pc + 3) ls (.int (rdI μ o (q % 100)) :: st) μ = some x := h
        rw [rd_lo ho] at h
        exact va_get hx hb hts ht2 hown hK hw.1 o (by rw [wW_get ho, cellE_1 hk1]) ht1 (q % 100) hlt hfl (fun _ z => z) (objF_get hf) hdec (ihk _ _ _ _ h H locs LS hw hl)
      | some t =>
        have h : k (pc + 3) ls (.ref t :: st) μ = some x := h
        have h150 : t ≠ 150 := fun z => oFs_150 o (by omega) _ (List.mem_of_getElem? hf) (by rw [z])
        have hq := ihk _ _ _ _ h H locs LS hw hl
        simp only [List.map_cons, cv_r h150] at hq
        exact va_get hx hb hts ht2 hown hK hw.1 o (by rw [wW_get ho, cellE_1 hk1]) ht1 (q % 100) hlt hfl (fun _ z => z) (objF_get hf) hdec hq
  · simp only [List.map_cons, cv_110 hz]
    have hS := hO.2.2.2.1.2.1 z hz
    obtain ⟨hs0, hs1⟩ := oFs_str z hz
    rcases hq8.2 (by omega) with rfl | rfl
    · have h : gfK (oFs (110 + z))[0]? (fun v => k (pc + 3) ls (v :: st) μ) (rdI μ (110 + z) 0) = some x := h
      rw [hs0] at h
      have h : k (pc + 3) ls (.ref (120 + z) :: st) μ = some x := h
      have hq := ihk _ _ _ _ h H locs LS hw hl
      simp only [List.map_cons, cv_120 hz] at hq
      exact vk_getf hx hb hS.2.2.1 hw.2.2.1 hown hfl (fun _ z => z) hdec hq
    · have h : gfK (oFs (110 + z))[1]? (fun v => k (pc + 3) ls (v :: st) μ) (rdI μ (110 + z) 1) = some x := h
      rw [hs1] at h
      have h : k (pc + 3) ls (.int (rdI μ (110 + z) 1) :: st) μ = some x := h
      have e0 : rdI μ (110 + z) 1 = 0 := by
        unfold rdI
        rw [if_neg (by omega), if_neg (by omega), if_pos (by omega)]
      rw [e0] at h
      exact vk_getf hx hb hS.2.1 hw.2.2.1 hown hfl (fun _ z => z) hdec (ihk _ _ _ _ h H locs LS hw hl)
set_option maxHeartbeats 2000000 in
theorem pw_putfield {d m pc nx len : Nat} {raw : Instr} {ls st : List Value} {μ : sM} {k : sK} {cl : Nat → List Value → sM → sR} {x : Option Value × sM} {q : Nat} (C : Cx p R s mm args c D ad cy fm A L xs m d) (hdec : decode (byt m) pc = .ok (raw, len)) (hck : ck m pc (.putfield q) nx raw len = true) (h : stepK d cl k (.putfield q) nx ls st μ = some x) (ihk : ∀ pc ls st μ, k pc ls st μ = some x → PW p l e R s mm args below meth c cells slots Q D ad cy fm A L xs m pc ls st μ) : PW p l e R s mm args below meth c cells slots Q D ad cy fm A L xs m pc ls st μ := by
  obtain ⟨hx, hb, hml, hown, hts, hfr, hlo, hO, hK⟩ := C
  intro H locs LS hw hl
  rcases st with _ | ⟨v, st⟩
  · exact no_some h
  cases v <;> (try exact no_some h)
  rename_i u
  rcases st with _ | ⟨v, st⟩
  · exact no_some h
  cases v <;> (try exact no_some h)
  rename_i o
  rw [st_put] at h
  split at h
  case isFalse => cases h
  rename_i hc
  simp only [Bool.and_eq_true, beq_iff_eq] at hc
  obtain ⟨⟨⟨hk1, hc⟩, hf⟩, hbo⟩ := hc
  have hck : (decide (nx = pc + len) && ckPf m q raw len) = true := hck
  simp only [Bool.and_eq_true, decide_eq_true_eq] at hck
  obtain ⟨rfl, hk⟩ := hck
  unfold ckPf at hk
  split at hk
  case h_2 => cases hk
  simp only [Bool.and_eq_true, decide_eq_true_eq, beq_iff_eq] at hk
  obtain ⟨hlk, rfl⟩ := hk
  have hfl := hts _ (w_fl _ (lookup_mem hlk))
  have ho := cKd_lt (k := o) (Or.inl hk1)
  have hci : cIx o < 8 := by
    rcases cIx_cases (k := o) (by have := (fLk_8 _ (lookup_mem hlk)).1; dsimp only at this; omega) with ⟨-, a, -⟩ | ⟨-, z, -, rfl⟩
    · exact a
    · omega
  dsimp only at hfl
  rw [fNm_own (by omega)] at hfl
  dsimp only at hfl
  rw [← hc] at hfl
  obtain ⟨ht1, ht2⟩ := cls_tab hci
  obtain ⟨ht3, ht4⟩ := cls_ty hci
  have hlt : q % 100 < NF (cIx o) := by rw [← oFs_len o ho hk1]; exact (List.getElem?_eq_some_iff.mp hf).1
  obtain ⟨hp1, hp2⟩ := put_ok o ho (q % 100) (Nat.lt_of_lt_of_le hlt (NF_26 _)) hk1 hf
  simp only [List.map_cons, cv_lt ho]
  have hnar := put_nar hp2 hbo
  exact va_put (ci := cIx o) (fs := objF ad μ o) (ty := tyC (cIx o) (q % 100)) (v := .int u) hx hb hts ht2 (tyC (cIx o)) ht3 ht4 hown hK hw.1 hw.2.1 hw.2.2.1 o (by rw [wW_get ho, cellE_1 hk1]) ht1 (q % 100) hlt hfl (fun _ z => z) hp1 (ht3 _ hlt) hnar.1 hnar.2 (by rw [show (objF ad μ o).length = (oFs o).length by simp [objF]]; exact (List.getElem?_eq_some_iff.mp hf).1) hdec (fun H1 locs1 hP1 hD1 hS1 => ihk _ _ _ _ h H1 locs1 LS (wld_set ho hw (fun j hj => wI_ne hj) (fun j _ => rfl) (by rw [cellE_1 hk1, ← objF_set hf]; exact hP1) (by rw [cellE_1 hk1, ← objF_set hf]; exact hD1) hS1) hl)
set_option maxHeartbeats 2000000 in
theorem pw_getstatic {d m pc nx len : Nat} {raw : Instr} {ls st : List Value} {μ : sM} {k : sK} {cl : Nat → List Value → sM → sR} {x : Option Value × sM} {q : Nat} (C : Cx p R s mm args c D ad cy fm A L xs m d) (hdec : decode (byt m) pc = .ok (raw, len)) (hck : ck m pc (.getstatic q) nx raw len = true) (h : stepK d cl k (.getstatic q) nx ls st μ = some x) (ihk : ∀ pc ls st μ, k pc ls st μ = some x → PW p l e R s mm args below meth c cells slots Q D ad cy fm A L xs m pc ls st μ) : PW p l e R s mm args below meth c cells slots Q D ad cy fm A L xs m pc ls st μ := by
  obtain ⟨hx, hb, hml, hown, hts, hfr, hlo, hO, hK⟩ := C
  intro H locs LS hw hl
  rw [st_gets] at h
  have hq := ihk _ _ _ _ h H locs LS hw hl
  have hck : (decide (nx = pc + len) && ckGs m q raw len) = true := hck
  simp only [Bool.and_eq_true, decide_eq_true_eq] at hck
  obtain ⟨rfl, hk⟩ := hck
  unfold ckGs at hk
  split at hk
  case h_2 => cases hk
  simp only [Bool.and_eq_true, Bool.or_eq_true, decide_eq_true_eq, beq_iff_eq] at hk
  obtain ⟨⟨rfl, h1⟩ | ⟨rfl, h1⟩, rfl⟩ := hk
  · obtain ⟨v, hv⟩ := lk_get h1
    exact va_gets hx hb hO.2.1.1 hw.2.2.1 hown (hts _ (w_vl _ hv)) (fun _ q => q) hdec hq
  · obtain ⟨v, hv⟩ := lk_get h1
    exact va_gets hx hb hO.2.2.1.2.1 hw.2.2.1 hown (hts _ (w_ql _ hv)) (fun _ q => q) hdec hq
set_option maxHeartbeats 2000000 in
theorem pw_ldc {d m pc nx len : Nat} {raw : Instr} {ls st : List Value} {μ : sM} {k : sK} {cl : Nat → List Value → sM → sR} {x : Option Value × sM} {q : Nat} (C : Cx p R s mm args c D ad cy fm A L xs m d) (hdec : decode (byt m) pc = .ok (raw, len)) (hck : ck m pc (.ldc q) nx raw len = true) (h : stepK d cl k (.ldc q) nx ls st μ = some x) (ihk : ∀ pc ls st μ, k pc ls st μ = some x → PW p l e R s mm args below meth c cells slots Q D ad cy fm A L xs m pc ls st μ) : PW p l e R s mm args below meth c cells slots Q D ad cy fm A L xs m pc ls st μ := by
  obtain ⟨hx, hb, hml, hown, hts, hfr, hlo, hO, hK⟩ := C
  intro H locs LS hw hl
  rw [st_ldc] at h
  have hq := ihk _ _ _ _ h H locs LS hw hl
  have hck : (decide (nx = pc + len) && ckSt m q raw len) = true := hck
  simp only [Bool.and_eq_true, decide_eq_true_eq] at hck
  obtain ⟨rfl, hk⟩ := hck
  unfold ckSt at hk
  split at hk
  case h_2 => cases hk
  simp only [Bool.and_eq_true, decide_eq_true_eq, beq_iff_eq] at hk
  rename_i idx
  obtain ⟨h1, rfl⟩ := hk
  have h2 := lookup_mem h1
  have h150 := sLk_110 _ h2
  have hR := hO.2.2.2.1.1 _ h2
  dsimp only at hR h150
  simp only [List.map_cons, cv_r h150] at hq
  generalize sTx q = tx at hR
  exact va_ldcS hx hb hown hR hdec hq
set_option maxHeartbeats 2000000 in
theorem pw_ireturn {d m pc nx len : Nat} {raw : Instr} {ls st : List Value} {μ : sM} {k : sK} {cl : Nat → List Value → sM → sR} {x : Option Value × sM} (C : Cx p R s mm args c D ad cy fm A L xs m d) (hdec : decode (byt m) pc = .ok (raw, len)) (hck : ck m pc (.ireturn) nx raw len = true) (h : stepK d cl k (.ireturn) nx ls st μ = some x) (ihk : ∀ pc ls st μ, k pc ls st μ = some x → PW p l e R s mm args below meth c cells slots Q D ad cy fm A L xs m pc ls st μ) (hret : ∀ (H : Heap) (locs : List Loc) (LS : Array Slot) (pc : Nat), wld D ad cy A L xs x.2 s H locs → rtOK m x.1 pc → W p l e R s mm args below meth c H locs cells slots Q (F0 mm pc LS (x.1.map (cv ad fm)).toList)) : PW p l e R s mm args below meth c cells slots Q D ad cy fm A L xs m pc ls st μ := by
  obtain ⟨hx, hb, hml, hown, hts, hfr, hlo, hO, hK⟩ := C
  intro H locs LS hw hl
  have hck : (decide (nx = pc + len) && (decide (raw = .ireturn) && decide (rty m = some .int) && len == 1)) = true := hck
  simp only [Bool.and_eq_true, decide_eq_true_eq, beq_iff_eq] at hck
  obtain ⟨rfl, ⟨rfl, hty⟩, rfl⟩ := hck
  rcases st with _ | ⟨v, st⟩
  · exact no_some h
  cases v <;> (try exact no_some h)
  rename_i u
  rcases st with _ | ⟨v2, st⟩
  case cons => exact no_some h
  rw [st_iret] at h
  cases h
  exact hret H locs LS pc hw ⟨hdec, .int, hty, rfl⟩
set_option maxHeartbeats 2000000 in
theorem pw_dreturn {d m pc nx len : Nat} {raw : Instr} {ls st : List Value} {μ : sM} {k : sK} {cl : Nat → List Value → sM → sR} {x : Option Value × sM} (C : Cx p R s mm args c D ad cy fm A L xs m d) (hdec : decode (byt m) pc = .ok (raw, len)) (hck : ck m pc (.dreturn) nx raw len = true) (h : stepK d cl k (.dreturn) nx ls st μ = some x) (ihk : ∀ pc ls st μ, k pc ls st μ = some x → PW p l e R s mm args below meth c cells slots Q D ad cy fm A L xs m pc ls st μ) (hret : ∀ (H : Heap) (locs : List Loc) (LS : Array Slot) (pc : Nat), wld D ad cy A L xs x.2 s H locs → rtOK m x.1 pc → W p l e R s mm args below meth c H locs cells slots Q (F0 mm pc LS (x.1.map (cv ad fm)).toList)) : PW p l e R s mm args below meth c cells slots Q D ad cy fm A L xs m pc ls st μ := by
  obtain ⟨hx, hb, hml, hown, hts, hfr, hlo, hO, hK⟩ := C
  intro H locs LS hw hl
  have hck : (decide (nx = pc + len) && (decide (raw = .ireturn) && decide (rty m = some .boolean) && len == 1)) = true := hck
  simp only [Bool.and_eq_true, decide_eq_true_eq, beq_iff_eq] at hck
  obtain ⟨rfl, ⟨rfl, hty⟩, rfl⟩ := hck
  rcases st with _ | ⟨v, st⟩
  · exact no_some h
  cases v <;> (try exact no_some h)
  rename_i u
  rcases st with _ | ⟨v2, st⟩
  case cons => exact no_some h
  rw [st_zret] at h
  split at h
  case isFalse => cases h
  rename_i hn
  cases h
  exact hret H locs LS pc hw ⟨hdec, .boolean, hty, by rcases hn with rfl | rfl <;> decide +kernel⟩
set_option maxHeartbeats 2000000 in
theorem pw_areturn {d m pc nx len : Nat} {raw : Instr} {ls st : List Value} {μ : sM} {k : sK} {cl : Nat → List Value → sM → sR} {x : Option Value × sM} (C : Cx p R s mm args c D ad cy fm A L xs m d) (hdec : decode (byt m) pc = .ok (raw, len)) (hck : ck m pc (.areturn) nx raw len = true) (h : stepK d cl k (.areturn) nx ls st μ = some x) (ihk : ∀ pc ls st μ, k pc ls st μ = some x → PW p l e R s mm args below meth c cells slots Q D ad cy fm A L xs m pc ls st μ) (hret : ∀ (H : Heap) (locs : List Loc) (LS : Array Slot) (pc : Nat), wld D ad cy A L xs x.2 s H locs → rtOK m x.1 pc → W p l e R s mm args below meth c H locs cells slots Q (F0 mm pc LS (x.1.map (cv ad fm)).toList)) : PW p l e R s mm args below meth c cells slots Q D ad cy fm A L xs m pc ls st μ := by
  obtain ⟨hx, hb, hml, hown, hts, hfr, hlo, hO, hK⟩ := C
  intro H locs LS hw hl
  have hck : (decide (nx = pc + len) && (decide (raw = .ireturn) && decide (rty m = some .byte) && len == 1)) = true := hck
  simp only [Bool.and_eq_true, decide_eq_true_eq, beq_iff_eq] at hck
  obtain ⟨rfl, ⟨rfl, hty⟩, rfl⟩ := hck
  rcases st with _ | ⟨v, st⟩
  · exact no_some h
  cases v <;> (try exact no_some h)
  rename_i u
  rcases st with _ | ⟨v2, st⟩
  case cons => exact no_some h
  rw [st_bret] at h
  split at h
  case isFalse => cases h
  rename_i hn
  cases h
  exact hret H locs LS pc hw ⟨hdec, .byte, hty, by show Value.int u.toInt8.toInt32 = .int u; rw [hn]⟩
set_option maxHeartbeats 2000000 in
theorem pw_freturn {d m pc nx len : Nat} {raw : Instr} {ls st : List Value} {μ : sM} {k : sK} {cl : Nat → List Value → sM → sR} {x : Option Value × sM} (C : Cx p R s mm args c D ad cy fm A L xs m d) (hdec : decode (byt m) pc = .ok (raw, len)) (hck : ck m pc (.freturn) nx raw len = true) (h : stepK d cl k (.freturn) nx ls st μ = some x) (ihk : ∀ pc ls st μ, k pc ls st μ = some x → PW p l e R s mm args below meth c cells slots Q D ad cy fm A L xs m pc ls st μ) (hret : ∀ (H : Heap) (locs : List Loc) (LS : Array Slot) (pc : Nat), wld D ad cy A L xs x.2 s H locs → rtOK m x.1 pc → W p l e R s mm args below meth c H locs cells slots Q (F0 mm pc LS (x.1.map (cv ad fm)).toList)) : PW p l e R s mm args below meth c cells slots Q D ad cy fm A L xs m pc ls st μ := by
  obtain ⟨hx, hb, hml, hown, hts, hfr, hlo, hO, hK⟩ := C
  intro H locs LS hw hl
  have hck : (decide (nx = pc + len) && (decide (raw = .ireturn) && decide (rty m = some .char) && len == 1)) = true := hck
  simp only [Bool.and_eq_true, decide_eq_true_eq, beq_iff_eq] at hck
  obtain ⟨rfl, ⟨rfl, hty⟩, rfl⟩ := hck
  rcases st with _ | ⟨v, st⟩
  · exact no_some h
  cases v <;> (try exact no_some h)
  rename_i u
  rcases st with _ | ⟨v2, st⟩
  case cons => exact no_some h
  rw [st_cret] at h
  split at h
  case isFalse => cases h
  rename_i hn
  cases h
  exact hret H locs LS pc hw ⟨hdec, .char, hty, by show Value.int (u.toUInt32 % 65536).toInt32 = .int u; rw [hn]⟩
set_option maxHeartbeats 2000000 in
theorem pw_lreturn {d m pc nx len : Nat} {raw : Instr} {ls st : List Value} {μ : sM} {k : sK} {cl : Nat → List Value → sM → sR} {x : Option Value × sM} (C : Cx p R s mm args c D ad cy fm A L xs m d) (hdec : decode (byt m) pc = .ok (raw, len)) (hck : ck m pc (.lreturn) nx raw len = true) (h : stepK d cl k (.lreturn) nx ls st μ = some x) (ihk : ∀ pc ls st μ, k pc ls st μ = some x → PW p l e R s mm args below meth c cells slots Q D ad cy fm A L xs m pc ls st μ) (hret : ∀ (H : Heap) (locs : List Loc) (LS : Array Slot) (pc : Nat), wld D ad cy A L xs x.2 s H locs → rtOK m x.1 pc → W p l e R s mm args below meth c H locs cells slots Q (F0 mm pc LS (x.1.map (cv ad fm)).toList)) : PW p l e R s mm args below meth c cells slots Q D ad cy fm A L xs m pc ls st μ := by
  obtain ⟨hx, hb, hml, hown, hts, hfr, hlo, hO, hK⟩ := C
  intro H locs LS hw hl
  have hck : (decide (nx = pc + len) && (decide (raw = .lreturn) && decide (rty m = some .long) && len == 1)) = true := hck
  simp only [Bool.and_eq_true, decide_eq_true_eq, beq_iff_eq] at hck
  obtain ⟨rfl, ⟨rfl, hty⟩, rfl⟩ := hck
  rcases st with _ | ⟨v, st⟩
  · exact no_some h
  cases v <;> (try exact no_some h)
  rename_i u
  rcases st with _ | ⟨v2, st⟩
  case cons => exact no_some h
  rw [st_lret] at h
  cases h
  exact hret H locs LS pc hw ⟨hdec, hty⟩
set_option maxHeartbeats 2000000 in
theorem pw_return_ {d m pc nx len : Nat} {raw : Instr} {ls st : List Value} {μ : sM} {k : sK} {cl : Nat → List Value → sM → sR} {x : Option Value × sM} (C : Cx p R s mm args c D ad cy fm A L xs m d) (hdec : decode (byt m) pc = .ok (raw, len)) (hck : ck m pc (.return_) nx raw len = true) (h : stepK d cl k (.return_) nx ls st μ = some x) (ihk : ∀ pc ls st μ, k pc ls st μ = some x → PW p l e R s mm args below meth c cells slots Q D ad cy fm A L xs m pc ls st μ) (hret : ∀ (H : Heap) (locs : List Loc) (LS : Array Slot) (pc : Nat), wld D ad cy A L xs x.2 s H locs → rtOK m x.1 pc → W p l e R s mm args below meth c H locs cells slots Q (F0 mm pc LS (x.1.map (cv ad fm)).toList)) : PW p l e R s mm args below meth c cells slots Q D ad cy fm A L xs m pc ls st μ := by
  obtain ⟨hx, hb, hml, hown, hts, hfr, hlo, hO, hK⟩ := C
  intro H locs LS hw hl
  have hck : (decide (nx = pc + len) && (decide (raw = .return_) && decide (rty m = none) && len == 1)) = true := hck
  simp only [Bool.and_eq_true, decide_eq_true_eq, beq_iff_eq] at hck
  obtain ⟨rfl, ⟨rfl, hty⟩, rfl⟩ := hck
  rcases st with _ | ⟨v2, st⟩
  case cons => exact no_some h
  rw [st_vret] at h
  cases h
  exact hret H locs LS pc hw ⟨hdec, hty⟩
set_option maxHeartbeats 2000000 in
theorem pw_invokedynamic {d m pc nx len : Nat} {raw : Instr} {ls st : List Value} {μ : sM} {k : sK} {cl : Nat → List Value → sM → sR} {x : Option Value × sM} {q : Nat} (C : Cx p R s mm args c D ad cy fm A L xs m d) (hdec : decode (byt m) pc = .ok (raw, len)) (hck : ck m pc (.invokedynamic q) nx raw len = true) (h : stepK d cl k (.invokedynamic q) nx ls st μ = some x) (ihk : ∀ pc ls st μ, k pc ls st μ = some x → PW p l e R s mm args below meth c cells slots Q D ad cy fm A L xs m pc ls st μ) : PW p l e R s mm args below meth c cells slots Q D ad cy fm A L xs m pc ls st μ := by
  obtain ⟨hx, hb, hml, hown, hts, hfr, hlo, hO, hK⟩ := C
  intro H locs LS hw hl
  rcases st with _ | ⟨v, st⟩
  · exact no_some h
  cases v <;> (try exact no_some h)
  rename_i n
  rcases st with _ | ⟨v, st⟩
  · exact no_some h
  cases v <;> (try exact no_some h)
  rename_i dp
  rcases st with _ | ⟨v, st⟩
  · exact no_some h
  cases v <;> (try exact no_some h)
  rename_i t
  rcases st with _ | ⟨v, st⟩
  · exact no_some h
  cases v <;> (try exact no_some h)
  rename_i sp
  rcases st with _ | ⟨v, st⟩
  · exact no_some h
  cases v <;> (try exact no_some h)
  rename_i o
  rcases d with _ | d
  · exact no_some h
  rw [st_cpy] at h
  split at h
  case isFalse => cases h
  rename_i hr4
  have hck : (decide (nx = pc + len) && ckCp m raw len) = true := hck
  simp only [Bool.and_eq_true, decide_eq_true_eq] at hck
  obtain ⟨rfl, hk⟩ := hck
  unfold ckCp at hk
  split at hk
  case h_2 => cases hk
  simp only [Bool.and_eq_true, decide_eq_true_eq, beq_iff_eq] at hk
  obtain ⟨h1, rfl⟩ := hk
  obtain ⟨v, hv⟩ := lk_get h1
  split at h
  · rename_i hc
    simp only [Bool.and_eq_true, beq_iff_eq] at hc
    obtain ⟨⟨h2, h3⟩, hcp⟩ := hc
    unfold cpOK at hcp
    simp only [Bool.and_eq_true, Bool.not_eq_true', decide_eq_false_iff_not, decide_eq_true_eq] at hcp
    obtain ⟨⟨⟨⟨q1, q2⟩, q3⟩, q4⟩, q5⟩ := hcp
    have ho := cKd_lt (k := o) (by omega)
    have ht := cKd_lt (k := t) (by omega)
    simp only [List.map_cons, cv_lt ho, cv_lt ht]
    exact va_copyi hx hb (hml.trans hl.1.1.symm) hown (hts _ (w_pl _ hv)) (hts _ w_pn) (hts _ w_ps) (hts _ w_pi) hK hw.1 hw.2.1 hw.2.2.1 o t 0 0 (by rw [wW_get ho, cellE_2 h2]) (by rw [wW_get ht, cellE_2 h3]) rfl rfl rfl q1 q2 q3 q4 q5 (fun _ _ => rfl) (by omega) (by have := cat_le (ad := ad) (fm := fm) hO.2.2.1.2.2 hr4; have e : nativeFrameWords "java/lang/System" "arraycopy" 5 = 7 := (by decide +kernel); omega) hdec (fun H1 locs1 hP1 hD1 hS1 => ihk _ _ _ _ h H1 locs1 LS (wld_set (μ' := cpI μ o sp.toNatClampNeg t dp.toNatClampNeg n.toNatClampNeg) ht hw (fun j hj => cpI_ne hj) (fun j hj => rfl) (by rw [cellE_2 h3, cpI_row]; exact hP1) (by rw [cellE_2 h3, cpI_row]; exact hD1) hS1) hl)
  · split at h
    case isFalse => cases h
    rename_i hc
    simp only [Bool.and_eq_true, beq_iff_eq] at hc
    obtain ⟨⟨h2, h3⟩, hcp⟩ := hc
    unfold cpOK at hcp
    simp only [Bool.and_eq_true, Bool.not_eq_true', decide_eq_false_iff_not, decide_eq_true_eq] at hcp
    obtain ⟨⟨⟨⟨q1, q2⟩, q3⟩, q4⟩, q5⟩ := hcp
    have ho := cKd_lt (k := o) (by omega)
    have ht := cKd_lt (k := t) (by omega)
    simp only [List.map_cons, cv_lt ho, cv_lt ht]
    exact va_copyl hx hb (hml.trans hl.1.1.symm) hown (hts _ (w_pl _ hv)) (hts _ w_pn) (hts _ w_ps) (hts _ w_pi) hK hw.1 hw.2.1 hw.2.2.1 o t 3 3 (by rw [wW_get ho, cellE_5 h2]) (by rw [wW_get ht, cellE_5 h3]) rfl rfl rfl q1 q2 q3 q4 q5 (fun _ _ => rfl) (by omega) (by have := cat_le (ad := ad) (fm := fm) hO.2.2.1.2.2 hr4; have e : nativeFrameWords "java/lang/System" "arraycopy" 5 = 7 := (by decide +kernel); omega) hdec (fun H1 locs1 hP1 hD1 hS1 => ihk _ _ _ _ h H1 locs1 LS (wld_set (μ' := cpL μ o sp.toNatClampNeg t dp.toNatClampNeg n.toNatClampNeg) ht hw (fun j hj => rfl) (fun j hj => cpL_ne hj) (by rw [cellE_5 h3, cpL_row]; exact hP1) (by rw [cellE_5 h3, cpL_row]; exact hD1) hS1) hl)
end

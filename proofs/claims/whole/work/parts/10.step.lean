/-! 10.step: by wip/whole/gen_sound1.py -/
def PW (p : Program) (l : Launch) (e : Env) (R : Room) (s : State) (mm : MethodId) (args : Array Value) (below : List Frame) (meth : Method) (c : Code) (cells slots : Nat) (Q : State → Prop) (D : va_G) (ad : Nat → Nat) (cy : Nat → ClassId) (fm : Value) (A : Nat → Prop) (L : Nat) (xs : Nat → Int32) (m : Nat) (pc : Nat) (ls st : List Value) (μ : sM) : Prop := ∀ (H : Heap) (locs : List Loc) (LS : Array Slot), wld D ad cy A L xs μ s H locs → lvR ad fm LS (mLx m) ls → W p l e R s mm args below meth c H locs cells slots Q (F0 mm pc LS (st.map (cv ad fm)))
def Cx (p : Program) (R : Room) (s : State) (mm : MethodId) (args : Array Value) (c : Code) (D : va_G) (ad : Nat → Nat) (cy : Nat → ClassId) (fm : Value) (A : Nat → Prop) (L : Nat) (xs : Nat → Int32) (m d : Nat) : Prop := p.tables.exec = Jvm.exec ∧ c.code = byt m ∧ c.maxLocals = mLx m ∧ s.vm.findClass (csN (cxN m)) = some mm.cls ∧ (∀ w ∈ gw, w.before args s = true) ∧ d ≤ R.frames ∧ 60 * d ≤ R.locals ∧ oldF ad fm A L xs s s.heap ∧ va_K D vwCl (tyL cy) s
/-- what holds at a return -/
def rtOK (m : Nat) (r : Option Value) (pc : Nat) : Prop := match r with
  | none => decode (byt m) pc = .ok (.return_, 1) ∧ rty m = none
  | some (.int v) => decode (byt m) pc = .ok (.ireturn, 1) ∧ ∃ ty, rty m = some ty ∧ narrow ty (.int v) = .int v
  | some (.long _) => decode (byt m) pc = .ok (.lreturn, 1) ∧ rty m = some .long
  | _ => False
theorem lvR_st {ad : Nat → Nat} {fm : Value} {LS : Array Slot} {n i : Nat} {ls : List Value} {v : Value} (hl : lvR ad fm LS n ls) (hf : fm = .null ∨ ∃ t, fm = .ref t) (hst : stB ls i = true) (hv : v.category ≠ 2) {LS' : Array Slot} (h : lv_has LS' n ((i, cv ad fm v) :: (asc ad fm ls).filter (fun q => !(q.1 == i) && !(q.1 + 1 == i && q.2.category == 2)))) : lvR ad fm LS' n (ls.set i v) := ⟨lv_mono h (store_sub hf hst hv), by rw [List.length_set]; exact hl.2⟩
theorem lk_get {α : Type} {l : List ((Nat × Nat) × α)} {q : Nat × Nat} (h : (l.lookup q).isSome = true) : ∃ v, (q, v) ∈ l := by
  obtain ⟨v, hv⟩ := Option.isSome_iff_exists.mp h
  exact ⟨v, lookup_mem hv⟩
section
variable {p : Program} {l : Launch} {e : Env} {R : Room} {s : State} {mm : MethodId} {args : Array Value} {below : List Frame} {meth : Method} {c : Code} {cells slots : Nat} {Q : State → Prop} {D : va_G} {ad : Nat → Nat} {cy : Nat → ClassId} {fm : Value} {A : Nat → Prop} {L : Nat} {xs : Nat → Int32}
theorem run_go {H : Heap} {locs : List Loc} {pc : Nat} {LS : Array Slot} {st0 rest : List Value} {a : Array Value} {u : Option Value × sM} {s : State} (hr : va_Run p l e R s mm args below meth c H locs cells slots 0 0 (F0 mm pc LS st0) rest (qcY D ad cy fm A L xs u a) A) (hS : va_S A s.heap H locs)
    (kk : ∀ (H1 : Heap) (locs1 : List Loc), wld D ad cy A L xs u.2 s H1 locs1 → W p l e R s mm args below meth c H1 locs1 cells slots Q (F0 mm (pc + 3) LS ((u.1.map (cv ad fm)).toList ++ rest))) : W p l e R s mm args below meth c H locs cells slots Q (F0 mm pc LS st0) := by
  intro T hT X
  obtain ⟨v, st₀, t, T', L', h0, X', hL, e1, e2, ⟨⟨hv, hP, hD, h9, h8⟩, hz, hk⟩, st⟩ := hr T hT X
  cases hv
  rw [h0] at hz hk
  obtain ⟨t2, a1, b1⟩ := kk T'.heap (locs ++ L') ⟨by rw [e1]; exact hP, hD, ⟨Nat.le_trans hS.1 (by rw [e1]; exact hz), fun q h1 h2 => by rw [e1, hk q (Nat.lt_of_lt_of_le h1 hS.1) h2]; exact hS.2.1 q h1 h2, fun q hq => by
      rcases List.mem_append.mp hq with h | h
      · exact hS.2.2 q h
      · exact hL q h⟩, h9, h8⟩ T' rfl X'
  exact ⟨t2, st t2 a1, b1⟩
theorem cat_le {r : List Value} (hf : fm = .null ∨ ∃ t, fm = .ref t) (h : r.length ≤ 4) : ((r.map (cv ad fm)).map fun v => v.category).sum ≤ 8 := by
  have key : ∀ r : List Value, ((r.map (cv ad fm)).map fun v => v.category).sum ≤ 2 * r.length := by
    intro r
    induction r with
    | nil => simp
    | cons v t ih =>
      have : (cv ad fm v).category ≤ 2 := by rw [cv_cat hf]; cases v <;> simp [Value.category]
      simp only [List.map_cons, List.sum_cons, List.length_cons]
      omega
  have := key r
  omega
theorem pay_y {s : State} {args : Array Value} (hts : ∀ w ∈ gw, w.before args s = true) (y : Nat) (hy : y ∈ mAll) : ∀ w ∈ wsY y, ∀ (a' : Array Value) (U : State), s.WarmedH U.vm → w.before a' U = true := pay_in hts (wsY_good 0 y hy)
theorem callB_y {s : State} {args : Array Value} {R : Room} {own : String} {idx y d' : Nat} (hts : ∀ w ∈ gw, w.before args s = true) (hy : y ∈ mAll) (hfr : d' + 1 ≤ R.frames) (hlo : 60 * (d' + 1) ≤ R.locals) (hm : mLx y ≤ 20) (hl : (Cond.methodLink own idx (yN y)).before args s = true) : CallB R s args own idx (yN y) (byt y) (mLx y) (rty y) (wsY y) (rmD d') 0 0 (nAr y) := by
  refine ⟨rfl, rfl, hfr, ?_, pay_y hts y hy, List.mem_cons_self, hts _ (w_code y hy), hts _ (w_ini y hy), w_nm y hy, fun sig h => ?_, hl⟩
  · show 8 + (mLx y + 11) + 60 * d' ≤ R.locals
    omega
  · have := w_na y hy
    rw [h] at this
    exact (Option.some.inj this).symm
theorem w_ml20 : ∀ m ∈ mAll, mLx m ≤ 20 := by decide +kernel
theorem pre_y {s : State} {H : Heap} {locs : List Loc} {μ : sM} {as : List Value} (hO : oldF ad fm A L xs s s.heap) (hK : va_K D vwCl (tyL cy) s) (hw : wld D ad cy A L xs μ s H locs) {U : State} (hU : U.heap = H) (hW : s.WarmedH U.vm) : pcY D ad cy fm A L xs as μ (as.map (cv ad fm)).toArray U := by
  obtain ⟨hP, hD, hS, h99, h98⟩ := hw
  exact ⟨rfl, by rw [hU]; exact hP, hD, va_K.moved hW.alike hK, by rw [hU]; exact oldF_go hO hW hS.1 hS.2.1, h99, h98⟩
set_option maxHeartbeats 2000000 in
theorem pw_iadd {d m pc nx len : Nat} {raw : Instr} {ls st : List Value} {μ : sM} {k : sK} {cl : Nat → List Value → sM → sR} {x : Option Value × sM} (C : Cx p R s mm args c D ad cy fm A L xs m d) (hdec : decode (byt m) pc = .ok (raw, len)) (hck : ck m pc (.iadd) nx raw len = true) (h : stepK d cl k (.iadd) nx ls st μ = some x) (ihk : ∀ pc ls st μ, k pc ls st μ = some x → PW p l e R s mm args below meth c cells slots Q D ad cy fm A L xs m pc ls st μ) : PW p l e R s mm args below meth c cells slots Q D ad cy fm A L xs m pc ls st μ := by
  obtain ⟨hx, hb, hml, hown, hts, hfr, hlo, hO, hK⟩ := C
  intro H locs LS hw hl
  obtain ⟨rfl, rfl, rfl⟩ := ckd (i := .iadd) (n := 1) hck
  rcases st with _ | ⟨v, st⟩
  · exact no_some h
  cases v <;> (try exact no_some h)
  rename_i y
  rcases st with _ | ⟨v, st⟩
  · exact no_some h
  cases v <;> (try exact no_some h)
  rename_i x
  rw [st_iadd] at h
  exact lv_iadd hx hb hdec (ihk _ _ _ _ h H locs LS hw hl)
set_option maxHeartbeats 2000000 in
theorem pw_isub {d m pc nx len : Nat} {raw : Instr} {ls st : List Value} {μ : sM} {k : sK} {cl : Nat → List Value → sM → sR} {x : Option Value × sM} (C : Cx p R s mm args c D ad cy fm A L xs m d) (hdec : decode (byt m) pc = .ok (raw, len)) (hck : ck m pc (.isub) nx raw len = true) (h : stepK d cl k (.isub) nx ls st μ = some x) (ihk : ∀ pc ls st μ, k pc ls st μ = some x → PW p l e R s mm args below meth c cells slots Q D ad cy fm A L xs m pc ls st μ) : PW p l e R s mm args below meth c cells slots Q D ad cy fm A L xs m pc ls st μ := by
  obtain ⟨hx, hb, hml, hown, hts, hfr, hlo, hO, hK⟩ := C
  intro H locs LS hw hl
  obtain ⟨rfl, rfl, rfl⟩ := ckd (i := .isub) (n := 1) hck
  rcases st with _ | ⟨v, st⟩
  · exact no_some h
  cases v <;> (try exact no_some h)
  rename_i y
  rcases st with _ | ⟨v, st⟩
  · exact no_some h
  cases v <;> (try exact no_some h)
  rename_i x
  rw [st_isub] at h
  exact lv_isub hx hb hdec (ihk _ _ _ _ h H locs LS hw hl)
set_option maxHeartbeats 2000000 in
theorem pw_imul {d m pc nx len : Nat} {raw : Instr} {ls st : List Value} {μ : sM} {k : sK} {cl : Nat → List Value → sM → sR} {x : Option Value × sM} (C : Cx p R s mm args c D ad cy fm A L xs m d) (hdec : decode (byt m) pc = .ok (raw, len)) (hck : ck m pc (.imul) nx raw len = true) (h : stepK d cl k (.imul) nx ls st μ = some x) (ihk : ∀ pc ls st μ, k pc ls st μ = some x → PW p l e R s mm args below meth c cells slots Q D ad cy fm A L xs m pc ls st μ) : PW p l e R s mm args below meth c cells slots Q D ad cy fm A L xs m pc ls st μ := by
  obtain ⟨hx, hb, hml, hown, hts, hfr, hlo, hO, hK⟩ := C
  intro H locs LS hw hl
  obtain ⟨rfl, rfl, rfl⟩ := ckd (i := .imul) (n := 1) hck
  rcases st with _ | ⟨v, st⟩
  · exact no_some h
  cases v <;> (try exact no_some h)
  rename_i y
  rcases st with _ | ⟨v, st⟩
  · exact no_some h
  cases v <;> (try exact no_some h)
  rename_i x
  rw [st_imul] at h
  exact lv_imul hx hb hdec (ihk _ _ _ _ h H locs LS hw hl)
set_option maxHeartbeats 2000000 in
theorem pw_iand {d m pc nx len : Nat} {raw : Instr} {ls st : List Value} {μ : sM} {k : sK} {cl : Nat → List Value → sM → sR} {x : Option Value × sM} (C : Cx p R s mm args c D ad cy fm A L xs m d) (hdec : decode (byt m) pc = .ok (raw, len)) (hck : ck m pc (.iand) nx raw len = true) (h : stepK d cl k (.iand) nx ls st μ = some x) (ihk : ∀ pc ls st μ, k pc ls st μ = some x → PW p l e R s mm args below meth c cells slots Q D ad cy fm A L xs m pc ls st μ) : PW p l e R s mm args below meth c cells slots Q D ad cy fm A L xs m pc ls st μ := by
  obtain ⟨hx, hb, hml, hown, hts, hfr, hlo, hO, hK⟩ := C
  intro H locs LS hw hl
  obtain ⟨rfl, rfl, rfl⟩ := ckd (i := .iand) (n := 1) hck
  rcases st with _ | ⟨v, st⟩
  · exact no_some h
  cases v <;> (try exact no_some h)
  rename_i y
  rcases st with _ | ⟨v, st⟩
  · exact no_some h
  cases v <;> (try exact no_some h)
  rename_i x
  rw [st_iand] at h
  exact lv_iand hx hb hdec (ihk _ _ _ _ h H locs LS hw hl)
set_option maxHeartbeats 2000000 in
theorem pw_ior {d m pc nx len : Nat} {raw : Instr} {ls st : List Value} {μ : sM} {k : sK} {cl : Nat → List Value → sM → sR} {x : Option Value × sM} (C : Cx p R s mm args c D ad cy fm A L xs m d) (hdec : decode (byt m) pc = .ok (raw, len)) (hck : ck m pc (.ior) nx raw len = true) (h : stepK d cl k (.ior) nx ls st μ = some x) (ihk : ∀ pc ls st μ, k pc ls st μ = some x → PW p l e R s mm args below meth c cells slots Q D ad cy fm A L xs m pc ls st μ) : PW p l e R s mm args below meth c cells slots Q D ad cy fm A L xs m pc ls st μ := by
  obtain ⟨hx, hb, hml, hown, hts, hfr, hlo, hO, hK⟩ := C
  intro H locs LS hw hl
  obtain ⟨rfl, rfl, rfl⟩ := ckd (i := .ior) (n := 1) hck
  rcases st with _ | ⟨v, st⟩
  · exact no_some h
  cases v <;> (try exact no_some h)
  rename_i y
  rcases st with _ | ⟨v, st⟩
  · exact no_some h
  cases v <;> (try exact no_some h)
  rename_i x
  rw [st_ior] at h
  exact lv_ior hx hb hdec (ihk _ _ _ _ h H locs LS hw hl)
set_option maxHeartbeats 2000000 in
theorem pw_ixor {d m pc nx len : Nat} {raw : Instr} {ls st : List Value} {μ : sM} {k : sK} {cl : Nat → List Value → sM → sR} {x : Option Value × sM} (C : Cx p R s mm args c D ad cy fm A L xs m d) (hdec : decode (byt m) pc = .ok (raw, len)) (hck : ck m pc (.ixor) nx raw len = true) (h : stepK d cl k (.ixor) nx ls st μ = some x) (ihk : ∀ pc ls st μ, k pc ls st μ = some x → PW p l e R s mm args below meth c cells slots Q D ad cy fm A L xs m pc ls st μ) : PW p l e R s mm args below meth c cells slots Q D ad cy fm A L xs m pc ls st μ := by
  obtain ⟨hx, hb, hml, hown, hts, hfr, hlo, hO, hK⟩ := C
  intro H locs LS hw hl
  obtain ⟨rfl, rfl, rfl⟩ := ckd (i := .ixor) (n := 1) hck
  rcases st with _ | ⟨v, st⟩
  · exact no_some h
  cases v <;> (try exact no_some h)
  rename_i y
  rcases st with _ | ⟨v, st⟩
  · exact no_some h
  cases v <;> (try exact no_some h)
  rename_i x
  rw [st_ixor] at h
  exact lv_ixor hx hb hdec (ihk _ _ _ _ h H locs LS hw hl)
set_option maxHeartbeats 2000000 in
theorem pw_ishl {d m pc nx len : Nat} {raw : Instr} {ls st : List Value} {μ : sM} {k : sK} {cl : Nat → List Value → sM → sR} {x : Option Value × sM} (C : Cx p R s mm args c D ad cy fm A L xs m d) (hdec : decode (byt m) pc = .ok (raw, len)) (hck : ck m pc (.ishl) nx raw len = true) (h : stepK d cl k (.ishl) nx ls st μ = some x) (ihk : ∀ pc ls st μ, k pc ls st μ = some x → PW p l e R s mm args below meth c cells slots Q D ad cy fm A L xs m pc ls st μ) : PW p l e R s mm args below meth c cells slots Q D ad cy fm A L xs m pc ls st μ := by
  obtain ⟨hx, hb, hml, hown, hts, hfr, hlo, hO, hK⟩ := C
  intro H locs LS hw hl
  obtain ⟨rfl, rfl, rfl⟩ := ckd (i := .ishl) (n := 1) hck
  rcases st with _ | ⟨v, st⟩
  · exact no_some h
  cases v <;> (try exact no_some h)
  rename_i y
  rcases st with _ | ⟨v, st⟩
  · exact no_some h
  cases v <;> (try exact no_some h)
  rename_i x
  rw [st_ishl] at h
  exact lv_ishl hx hb hdec (ihk _ _ _ _ h H locs LS hw hl)
set_option maxHeartbeats 2000000 in
theorem pw_ishr {d m pc nx len : Nat} {raw : Instr} {ls st : List Value} {μ : sM} {k : sK} {cl : Nat → List Value → sM → sR} {x : Option Value × sM} (C : Cx p R s mm args c D ad cy fm A L xs m d) (hdec : decode (byt m) pc = .ok (raw, len)) (hck : ck m pc (.ishr) nx raw len = true) (h : stepK d cl k (.ishr) nx ls st μ = some x) (ihk : ∀ pc ls st μ, k pc ls st μ = some x → PW p l e R s mm args below meth c cells slots Q D ad cy fm A L xs m pc ls st μ) : PW p l e R s mm args below meth c cells slots Q D ad cy fm A L xs m pc ls st μ := by
  obtain ⟨hx, hb, hml, hown, hts, hfr, hlo, hO, hK⟩ := C
  intro H locs LS hw hl
  obtain ⟨rfl, rfl, rfl⟩ := ckd (i := .ishr) (n := 1) hck
  rcases st with _ | ⟨v, st⟩
  · exact no_some h
  cases v <;> (try exact no_some h)
  rename_i y
  rcases st with _ | ⟨v, st⟩
  · exact no_some h
  cases v <;> (try exact no_some h)
  rename_i x
  rw [st_ishr] at h
  exact lv_ishr hx hb hdec (ihk _ _ _ _ h H locs LS hw hl)
set_option maxHeartbeats 2000000 in
theorem pw_iushr {d m pc nx len : Nat} {raw : Instr} {ls st : List Value} {μ : sM} {k : sK} {cl : Nat → List Value → sM → sR} {x : Option Value × sM} (C : Cx p R s mm args c D ad cy fm A L xs m d) (hdec : decode (byt m) pc = .ok (raw, len)) (hck : ck m pc (.iushr) nx raw len = true) (h : stepK d cl k (.iushr) nx ls st μ = some x) (ihk : ∀ pc ls st μ, k pc ls st μ = some x → PW p l e R s mm args below meth c cells slots Q D ad cy fm A L xs m pc ls st μ) : PW p l e R s mm args below meth c cells slots Q D ad cy fm A L xs m pc ls st μ := by
  obtain ⟨hx, hb, hml, hown, hts, hfr, hlo, hO, hK⟩ := C
  intro H locs LS hw hl
  obtain ⟨rfl, rfl, rfl⟩ := ckd (i := .iushr) (n := 1) hck
  rcases st with _ | ⟨v, st⟩
  · exact no_some h
  cases v <;> (try exact no_some h)
  rename_i y
  rcases st with _ | ⟨v, st⟩
  · exact no_some h
  cases v <;> (try exact no_some h)
  rename_i x
  rw [st_iushr] at h
  exact lv_iushr hx hb hdec rfl (ihk _ _ _ _ h H locs LS hw hl)
set_option maxHeartbeats 2000000 in
theorem pw_idiv {d m pc nx len : Nat} {raw : Instr} {ls st : List Value} {μ : sM} {k : sK} {cl : Nat → List Value → sM → sR} {x : Option Value × sM} (C : Cx p R s mm args c D ad cy fm A L xs m d) (hdec : decode (byt m) pc = .ok (raw, len)) (hck : ck m pc (.idiv) nx raw len = true) (h : stepK d cl k (.idiv) nx ls st μ = some x) (ihk : ∀ pc ls st μ, k pc ls st μ = some x → PW p l e R s mm args below meth c cells slots Q D ad cy fm A L xs m pc ls st μ) : PW p l e R s mm args below meth c cells slots Q D ad cy fm A L xs m pc ls st μ := by
  obtain ⟨hx, hb, hml, hown, hts, hfr, hlo, hO, hK⟩ := C
  intro H locs LS hw hl
  obtain ⟨rfl, rfl, rfl⟩ := ckd (i := .idiv) (n := 1) hck
  rcases st with _ | ⟨v, st⟩
  · exact no_some h
  cases v <;> (try exact no_some h)
  rename_i y
  rcases st with _ | ⟨v, st⟩
  · exact no_some h
  cases v <;> (try exact no_some h)
  rename_i x
  rw [st_idiv] at h
  split at h
  · cases h
  rename_i hz
  exact lv_idiv hx hb hdec hz (ihk _ _ _ _ h H locs LS hw hl)
set_option maxHeartbeats 2000000 in
theorem pw_irem {d m pc nx len : Nat} {raw : Instr} {ls st : List Value} {μ : sM} {k : sK} {cl : Nat → List Value → sM → sR} {x : Option Value × sM} (C : Cx p R s mm args c D ad cy fm A L xs m d) (hdec : decode (byt m) pc = .ok (raw, len)) (hck : ck m pc (.irem) nx raw len = true) (h : stepK d cl k (.irem) nx ls st μ = some x) (ihk : ∀ pc ls st μ, k pc ls st μ = some x → PW p l e R s mm args below meth c cells slots Q D ad cy fm A L xs m pc ls st μ) : PW p l e R s mm args below meth c cells slots Q D ad cy fm A L xs m pc ls st μ := by
  obtain ⟨hx, hb, hml, hown, hts, hfr, hlo, hO, hK⟩ := C
  intro H locs LS hw hl
  obtain ⟨rfl, rfl, rfl⟩ := ckd (i := .irem) (n := 1) hck
  rcases st with _ | ⟨v, st⟩
  · exact no_some h
  cases v <;> (try exact no_some h)
  rename_i y
  rcases st with _ | ⟨v, st⟩
  · exact no_some h
  cases v <;> (try exact no_some h)
  rename_i x
  rw [st_irem] at h
  split at h
  · cases h
  rename_i hz
  exact lv_irem hx hb hdec hz (ihk _ _ _ _ h H locs LS hw hl)
set_option maxHeartbeats 2000000 in
theorem pw_i2b {d m pc nx len : Nat} {raw : Instr} {ls st : List Value} {μ : sM} {k : sK} {cl : Nat → List Value → sM → sR} {x : Option Value × sM} (C : Cx p R s mm args c D ad cy fm A L xs m d) (hdec : decode (byt m) pc = .ok (raw, len)) (hck : ck m pc (.i2b) nx raw len = true) (h : stepK d cl k (.i2b) nx ls st μ = some x) (ihk : ∀ pc ls st μ, k pc ls st μ = some x → PW p l e R s mm args below meth c cells slots Q D ad cy fm A L xs m pc ls st μ) : PW p l e R s mm args below meth c cells slots Q D ad cy fm A L xs m pc ls st μ := by
  obtain ⟨hx, hb, hml, hown, hts, hfr, hlo, hO, hK⟩ := C
  intro H locs LS hw hl
  obtain ⟨rfl, rfl, rfl⟩ := ckd (i := .i2b) (n := 1) hck
  rcases st with _ | ⟨v, st⟩
  · exact no_some h
  cases v <;> (try exact no_some h)
  rename_i x
  rw [st_i2b] at h
  exact lv_i2b hx hb hdec rfl (ihk _ _ _ _ h H locs LS hw hl)
set_option maxHeartbeats 2000000 in
theorem pw_i2s {d m pc nx len : Nat} {raw : Instr} {ls st : List Value} {μ : sM} {k : sK} {cl : Nat → List Value → sM → sR} {x : Option Value × sM} (C : Cx p R s mm args c D ad cy fm A L xs m d) (hdec : decode (byt m) pc = .ok (raw, len)) (hck : ck m pc (.i2s) nx raw len = true) (h : stepK d cl k (.i2s) nx ls st μ = some x) (ihk : ∀ pc ls st μ, k pc ls st μ = some x → PW p l e R s mm args below meth c cells slots Q D ad cy fm A L xs m pc ls st μ) : PW p l e R s mm args below meth c cells slots Q D ad cy fm A L xs m pc ls st μ := by
  obtain ⟨hx, hb, hml, hown, hts, hfr, hlo, hO, hK⟩ := C
  intro H locs LS hw hl
  obtain ⟨rfl, rfl, rfl⟩ := ckd (i := .i2s) (n := 1) hck
  rcases st with _ | ⟨v, st⟩
  · exact no_some h
  cases v <;> (try exact no_some h)
  rename_i x
  rw [st_i2s] at h
  exact lv_i2s hx hb hdec rfl (ihk _ _ _ _ h H locs LS hw hl)
set_option maxHeartbeats 2000000 in
theorem pw_i2c {d m pc nx len : Nat} {raw : Instr} {ls st : List Value} {μ : sM} {k : sK} {cl : Nat → List Value → sM → sR} {x : Option Value × sM} (C : Cx p R s mm args c D ad cy fm A L xs m d) (hdec : decode (byt m) pc = .ok (raw, len)) (hck : ck m pc (.i2c) nx raw len = true) (h : stepK d cl k (.i2c) nx ls st μ = some x) (ihk : ∀ pc ls st μ, k pc ls st μ = some x → PW p l e R s mm args below meth c cells slots Q D ad cy fm A L xs m pc ls st μ) : PW p l e R s mm args below meth c cells slots Q D ad cy fm A L xs m pc ls st μ := by
  obtain ⟨hx, hb, hml, hown, hts, hfr, hlo, hO, hK⟩ := C
  intro H locs LS hw hl
  obtain ⟨rfl, rfl, rfl⟩ := ckd (i := .i2c) (n := 1) hck
  rcases st with _ | ⟨v, st⟩
  · exact no_some h
  cases v <;> (try exact no_some h)
  rename_i x
  rw [st_i2c] at h
  exact lv_i2c hx hb hdec rfl (ihk _ _ _ _ h H locs LS hw hl)
set_option maxHeartbeats 2000000 in
theorem pw_i2l {d m pc nx len : Nat} {raw : Instr} {ls st : List Value} {μ : sM} {k : sK} {cl : Nat → List Value → sM → sR} {x : Option Value × sM} (C : Cx p R s mm args c D ad cy fm A L xs m d) (hdec : decode (byt m) pc = .ok (raw, len)) (hck : ck m pc (.i2l) nx raw len = true) (h : stepK d cl k (.i2l) nx ls st μ = some x) (ihk : ∀ pc ls st μ, k pc ls st μ = some x → PW p l e R s mm args below meth c cells slots Q D ad cy fm A L xs m pc ls st μ) : PW p l e R s mm args below meth c cells slots Q D ad cy fm A L xs m pc ls st μ := by
  obtain ⟨hx, hb, hml, hown, hts, hfr, hlo, hO, hK⟩ := C
  intro H locs LS hw hl
  obtain ⟨rfl, rfl, rfl⟩ := ckd (i := .i2l) (n := 1) hck
  rcases st with _ | ⟨v, st⟩
  · exact no_some h
  cases v <;> (try exact no_some h)
  rename_i x
  rw [st_i2l] at h
  exact lv_i2l hx hb hdec rfl (ihk _ _ _ _ h H locs LS hw hl)
set_option maxHeartbeats 2000000 in
theorem pw_l2i {d m pc nx len : Nat} {raw : Instr} {ls st : List Value} {μ : sM} {k : sK} {cl : Nat → List Value → sM → sR} {x : Option Value × sM} (C : Cx p R s mm args c D ad cy fm A L xs m d) (hdec : decode (byt m) pc = .ok (raw, len)) (hck : ck m pc (.l2i) nx raw len = true) (h : stepK d cl k (.l2i) nx ls st μ = some x) (ihk : ∀ pc ls st μ, k pc ls st μ = some x → PW p l e R s mm args below meth c cells slots Q D ad cy fm A L xs m pc ls st μ) : PW p l e R s mm args below meth c cells slots Q D ad cy fm A L xs m pc ls st μ := by
  obtain ⟨hx, hb, hml, hown, hts, hfr, hlo, hO, hK⟩ := C
  intro H locs LS hw hl
  obtain ⟨rfl, rfl, rfl⟩ := ckd (i := .l2i) (n := 1) hck
  rcases st with _ | ⟨v, st⟩
  · exact no_some h
  cases v <;> (try exact no_some h)
  rename_i x
  rw [st_l2i] at h
  exact lv_l2i hx hb hdec rfl (ihk _ _ _ _ h H locs LS hw hl)
set_option maxHeartbeats 2000000 in
theorem pw_land {d m pc nx len : Nat} {raw : Instr} {ls st : List Value} {μ : sM} {k : sK} {cl : Nat → List Value → sM → sR} {x : Option Value × sM} (C : Cx p R s mm args c D ad cy fm A L xs m d) (hdec : decode (byt m) pc = .ok (raw, len)) (hck : ck m pc (.land) nx raw len = true) (h : stepK d cl k (.land) nx ls st μ = some x) (ihk : ∀ pc ls st μ, k pc ls st μ = some x → PW p l e R s mm args below meth c cells slots Q D ad cy fm A L xs m pc ls st μ) : PW p l e R s mm args below meth c cells slots Q D ad cy fm A L xs m pc ls st μ := by
  obtain ⟨hx, hb, hml, hown, hts, hfr, hlo, hO, hK⟩ := C
  intro H locs LS hw hl
  obtain ⟨rfl, rfl, rfl⟩ := ckd (i := .land) (n := 1) hck
  rcases st with _ | ⟨v, st⟩
  · exact no_some h
  cases v <;> (try exact no_some h)
  rename_i y
  rcases st with _ | ⟨v, st⟩
  · exact no_some h
  cases v <;> (try exact no_some h)
  rename_i x
  rw [st_land] at h
  exact lv_land hx hb hdec (ihk _ _ _ _ h H locs LS hw hl)
set_option maxHeartbeats 2000000 in
theorem pw_lor {d m pc nx len : Nat} {raw : Instr} {ls st : List Value} {μ : sM} {k : sK} {cl : Nat → List Value → sM → sR} {x : Option Value × sM} (C : Cx p R s mm args c D ad cy fm A L xs m d) (hdec : decode (byt m) pc = .ok (raw, len)) (hck : ck m pc (.lor) nx raw len = true) (h : stepK d cl k (.lor) nx ls st μ = some x) (ihk : ∀ pc ls st μ, k pc ls st μ = some x → PW p l e R s mm args below meth c cells slots Q D ad cy fm A L xs m pc ls st μ) : PW p l e R s mm args below meth c cells slots Q D ad cy fm A L xs m pc ls st μ := by
  obtain ⟨hx, hb, hml, hown, hts, hfr, hlo, hO, hK⟩ := C
  intro H locs LS hw hl
  obtain ⟨rfl, rfl, rfl⟩ := ckd (i := .lor) (n := 1) hck
  rcases st with _ | ⟨v, st⟩
  · exact no_some h
  cases v <;> (try exact no_some h)
  rename_i y
  rcases st with _ | ⟨v, st⟩
  · exact no_some h
  cases v <;> (try exact no_some h)
  rename_i x
  rw [st_lor] at h
  exact lv_lor hx hb hdec (ihk _ _ _ _ h H locs LS hw hl)
set_option maxHeartbeats 2000000 in
theorem pw_lshl {d m pc nx len : Nat} {raw : Instr} {ls st : List Value} {μ : sM} {k : sK} {cl : Nat → List Value → sM → sR} {x : Option Value × sM} (C : Cx p R s mm args c D ad cy fm A L xs m d) (hdec : decode (byt m) pc = .ok (raw, len)) (hck : ck m pc (.lshl) nx raw len = true) (h : stepK d cl k (.lshl) nx ls st μ = some x) (ihk : ∀ pc ls st μ, k pc ls st μ = some x → PW p l e R s mm args below meth c cells slots Q D ad cy fm A L xs m pc ls st μ) : PW p l e R s mm args below meth c cells slots Q D ad cy fm A L xs m pc ls st μ := by
  obtain ⟨hx, hb, hml, hown, hts, hfr, hlo, hO, hK⟩ := C
  intro H locs LS hw hl
  obtain ⟨rfl, rfl, rfl⟩ := ckd (i := .lshl) (n := 1) hck
  rcases st with _ | ⟨v, st⟩
  · exact no_some h
  cases v <;> (try exact no_some h)
  rename_i y
  rcases st with _ | ⟨v, st⟩
  · exact no_some h
  cases v <;> (try exact no_some h)
  rename_i x
  rw [st_lshl] at h
  exact lv_lshl hx hb hdec rfl (ihk _ _ _ _ h H locs LS hw hl)
set_option maxHeartbeats 2000000 in
theorem pw_lshr {d m pc nx len : Nat} {raw : Instr} {ls st : List Value} {μ : sM} {k : sK} {cl : Nat → List Value → sM → sR} {x : Option Value × sM} (C : Cx p R s mm args c D ad cy fm A L xs m d) (hdec : decode (byt m) pc = .ok (raw, len)) (hck : ck m pc (.lshr) nx raw len = true) (h : stepK d cl k (.lshr) nx ls st μ = some x) (ihk : ∀ pc ls st μ, k pc ls st μ = some x → PW p l e R s mm args below meth c cells slots Q D ad cy fm A L xs m pc ls st μ) : PW p l e R s mm args below meth c cells slots Q D ad cy fm A L xs m pc ls st μ := by
  obtain ⟨hx, hb, hml, hown, hts, hfr, hlo, hO, hK⟩ := C
  intro H locs LS hw hl
  obtain ⟨rfl, rfl, rfl⟩ := ckd (i := .lshr) (n := 1) hck
  rcases st with _ | ⟨v, st⟩
  · exact no_some h
  cases v <;> (try exact no_some h)
  rename_i y
  rcases st with _ | ⟨v, st⟩
  · exact no_some h
  cases v <;> (try exact no_some h)
  rename_i x
  rw [st_lshr] at h
  exact lv_lshr hx hb hdec rfl (ihk _ _ _ _ h H locs LS hw hl)
set_option maxHeartbeats 2000000 in
theorem pw_lcmp {d m pc nx len : Nat} {raw : Instr} {ls st : List Value} {μ : sM} {k : sK} {cl : Nat → List Value → sM → sR} {x : Option Value × sM} (C : Cx p R s mm args c D ad cy fm A L xs m d) (hdec : decode (byt m) pc = .ok (raw, len)) (hck : ck m pc (.lcmp) nx raw len = true) (h : stepK d cl k (.lcmp) nx ls st μ = some x) (ihk : ∀ pc ls st μ, k pc ls st μ = some x → PW p l e R s mm args below meth c cells slots Q D ad cy fm A L xs m pc ls st μ) : PW p l e R s mm args below meth c cells slots Q D ad cy fm A L xs m pc ls st μ := by
  obtain ⟨hx, hb, hml, hown, hts, hfr, hlo, hO, hK⟩ := C
  intro H locs LS hw hl
  obtain ⟨rfl, rfl, rfl⟩ := ckd (i := .lcmp) (n := 1) hck
  rcases st with _ | ⟨v, st⟩
  · exact no_some h
  cases v <;> (try exact no_some h)
  rename_i y
  rcases st with _ | ⟨v, st⟩
  · exact no_some h
  cases v <;> (try exact no_some h)
  rename_i x
  rw [st_lcmp] at h
  refine W.lcmp hx hb hdec ?_
  have e : lg_cmp x y = (if x < y then -1 else if x = y then 0 else 1) := by
    unfold lg_cmp
    simp only [gt_iff_lt, Int64.lt_iff_toInt_lt, ← Int64.toInt_inj]
    repeat' split
    all_goals first | rfl | omega
  rw [e]
  exact ihk _ _ _ _ h H locs LS hw hl
set_option maxHeartbeats 2000000 in
theorem pw_pop {d m pc nx len : Nat} {raw : Instr} {ls st : List Value} {μ : sM} {k : sK} {cl : Nat → List Value → sM → sR} {x : Option Value × sM} (C : Cx p R s mm args c D ad cy fm A L xs m d) (hdec : decode (byt m) pc = .ok (raw, len)) (hck : ck m pc (.pop) nx raw len = true) (h : stepK d cl k (.pop) nx ls st μ = some x) (ihk : ∀ pc ls st μ, k pc ls st μ = some x → PW p l e R s mm args below meth c cells slots Q D ad cy fm A L xs m pc ls st μ) : PW p l e R s mm args below meth c cells slots Q D ad cy fm A L xs m pc ls st μ := by
  obtain ⟨hx, hb, hml, hown, hts, hfr, hlo, hO, hK⟩ := C
  intro H locs LS hw hl
  obtain ⟨rfl, rfl, rfl⟩ := ckd (i := .pop) (n := 1) hck
  rcases st with _ | ⟨v, st⟩
  · exact no_some h
  cases v <;> (try exact no_some h)
  rename_i x
  rw [st_pop] at h
  exact lv_pop hx hb hdec rfl (ihk _ _ _ _ h H locs LS hw hl)
set_option maxHeartbeats 2000000 in
theorem pw_dup {d m pc nx len : Nat} {raw : Instr} {ls st : List Value} {μ : sM} {k : sK} {cl : Nat → List Value → sM → sR} {x : Option Value × sM} (C : Cx p R s mm args c D ad cy fm A L xs m d) (hdec : decode (byt m) pc = .ok (raw, len)) (hck : ck m pc (.dup) nx raw len = true) (h : stepK d cl k (.dup) nx ls st μ = some x) (ihk : ∀ pc ls st μ, k pc ls st μ = some x → PW p l e R s mm args below meth c cells slots Q D ad cy fm A L xs m pc ls st μ) : PW p l e R s mm args below meth c cells slots Q D ad cy fm A L xs m pc ls st μ := by
  obtain ⟨hx, hb, hml, hown, hts, hfr, hlo, hO, hK⟩ := C
  intro H locs LS hw hl
  obtain ⟨rfl, rfl, rfl⟩ := ckd (i := .dup) (n := 1) hck
  rcases st with _ | ⟨v, st⟩
  · exact no_some h
  cases v <;> (try exact no_some h)
  case int x =>
    rw [st_dup] at h
    exact lv_dup hx hb hdec rfl (ihk _ _ _ _ h H locs LS hw hl)
  case ref x =>
    rw [st_dupa] at h
    split at h
    · cases h
    rename_i h150
    have hq := ihk _ _ _ _ h H locs LS hw hl
    simp only [List.map_cons, cv_r h150] at hq ⊢
    exact lv_dup hx hb hdec rfl hq
set_option maxHeartbeats 2000000 in
theorem pw_dup2 {d m pc nx len : Nat} {raw : Instr} {ls st : List Value} {μ : sM} {k : sK} {cl : Nat → List Value → sM → sR} {x : Option Value × sM} (C : Cx p R s mm args c D ad cy fm A L xs m d) (hdec : decode (byt m) pc = .ok (raw, len)) (hck : ck m pc (.dup2) nx raw len = true) (h : stepK d cl k (.dup2) nx ls st μ = some x) (ihk : ∀ pc ls st μ, k pc ls st μ = some x → PW p l e R s mm args below meth c cells slots Q D ad cy fm A L xs m pc ls st μ) : PW p l e R s mm args below meth c cells slots Q D ad cy fm A L xs m pc ls st μ := by
  obtain ⟨hx, hb, hml, hown, hts, hfr, hlo, hO, hK⟩ := C
  intro H locs LS hw hl
  obtain ⟨rfl, rfl, rfl⟩ := ckd (i := .dup2) (n := 1) hck
  rcases st with _ | ⟨v, st⟩
  · exact no_some h
  cases v <;> (try exact no_some h)
  rename_i y
  rcases st with _ | ⟨v, st⟩
  · exact no_some h
  cases v <;> (try exact no_some h)
  rename_i x
  rw [st_dup2] at h
  split at h
  · cases h
  rename_i h150
  have hq := ihk _ _ _ _ h H locs LS hw hl
  simp only [List.map_cons, cv_r h150] at hq ⊢
  exact lv_dup2_11 hx hb hdec rfl rfl hq
set_option maxHeartbeats 2000000 in
theorem pw_iconst {d m pc nx len : Nat} {raw : Instr} {ls st : List Value} {μ : sM} {k : sK} {cl : Nat → List Value → sM → sR} {x : Option Value × sM} {v : Int} (C : Cx p R s mm args c D ad cy fm A L xs m d) (hdec : decode (byt m) pc = .ok (raw, len)) (hck : ck m pc (.iconst v) nx raw len = true) (h : stepK d cl k (.iconst v) nx ls st μ = some x) (ihk : ∀ pc ls st μ, k pc ls st μ = some x → PW p l e R s mm args below meth c cells slots Q D ad cy fm A L xs m pc ls st μ) : PW p l e R s mm args below meth c cells slots Q D ad cy fm A L xs m pc ls st μ := by
  obtain ⟨hx, hb, hml, hown, hts, hfr, hlo, hO, hK⟩ := C
  intro H locs LS hw hl
  rw [st_iconst] at h
  have hq := ihk _ _ _ _ h H locs LS hw hl
  have hck : (decide (nx = pc + len) && ckI m v raw len) = true := hck
  simp only [Bool.and_eq_true, decide_eq_true_eq] at hck
  obtain ⟨rfl, hk⟩ := hck
  unfold ckI at hk
  split at hk
  · simp only [Bool.and_eq_true, decide_eq_true_eq, beq_iff_eq] at hk
    obtain ⟨rfl, rfl⟩ := hk
    exact lv_iconst hx hb hdec rfl hq
  · simp only [Bool.and_eq_true, decide_eq_true_eq, beq_iff_eq] at hk
    obtain ⟨h1, rfl⟩ := hk
    exact lv_bipush hx hb hdec h1 hq
  · simp only [Bool.and_eq_true, decide_eq_true_eq, beq_iff_eq] at hk
    obtain ⟨h1, rfl⟩ := hk
    exact lv_sipush hx hb hdec h1 hq
  · simp only [Bool.and_eq_true, decide_eq_true_eq, beq_iff_eq] at hk
    obtain ⟨h1, rfl⟩ := hk
    exact lv_ldc hx hb hown (hts _ (w_il _ (lookup_mem h1))) hdec hq
  · simp only [Bool.and_eq_true, decide_eq_true_eq, beq_iff_eq] at hk
    obtain ⟨h1, rfl⟩ := hk
    exact lv_ldcw hx hb hown (hts _ (w_il _ (lookup_mem h1))) hdec hq
  · simp only [Bool.and_eq_true, decide_eq_true_eq, beq_iff_eq] at hk
    obtain ⟨⟨h1, rfl⟩, rfl⟩ := hk
    obtain ⟨v, hv⟩ := lk_get h1
    exact va_gets hx hb hO.2.2.1.1 hw.2.2.1 hown (hts _ (w_zl _ hv)) (fun _ q => q) hdec hq
  · cases hk
set_option maxHeartbeats 2000000 in
theorem pw_bipush {d m pc nx len : Nat} {raw : Instr} {ls st : List Value} {μ : sM} {k : sK} {cl : Nat → List Value → sM → sR} {x : Option Value × sM} {v : Int} (C : Cx p R s mm args c D ad cy fm A L xs m d) (hdec : decode (byt m) pc = .ok (raw, len)) (hck : ck m pc (.bipush v) nx raw len = true) (h : stepK d cl k (.bipush v) nx ls st μ = some x) (ihk : ∀ pc ls st μ, k pc ls st μ = some x → PW p l e R s mm args below meth c cells slots Q D ad cy fm A L xs m pc ls st μ) : PW p l e R s mm args below meth c cells slots Q D ad cy fm A L xs m pc ls st μ := by
  obtain ⟨hx, hb, hml, hown, hts, hfr, hlo, hO, hK⟩ := C
  intro H locs LS hw hl
  rw [st_lconst] at h
  have hq := ihk _ _ _ _ h H locs LS hw hl
  have hck : (decide (nx = pc + len) && ckJ m v raw len) = true := hck
  simp only [Bool.and_eq_true, decide_eq_true_eq] at hck
  obtain ⟨rfl, hk⟩ := hck
  unfold ckJ at hk
  split at hk
  · simp only [Bool.and_eq_true, decide_eq_true_eq, beq_iff_eq] at hk
    obtain ⟨h1, rfl⟩ := hk
    exact lv_lconst hx hb hdec h1 hq
  · simp only [Bool.and_eq_true, decide_eq_true_eq, beq_iff_eq] at hk
    obtain ⟨h1, rfl⟩ := hk
    exact lv_ldc2 hx hb hown (hts _ (w_ll _ (lookup_mem h1))) hdec hq
  · cases hk
set_option maxHeartbeats 2000000 in
theorem pw_iload {d m pc nx len : Nat} {raw : Instr} {ls st : List Value} {μ : sM} {k : sK} {cl : Nat → List Value → sM → sR} {x : Option Value × sM} {k_1 : Nat} (C : Cx p R s mm args c D ad cy fm A L xs m d) (hdec : decode (byt m) pc = .ok (raw, len)) (hck : ck m pc (.iload k_1) nx raw len = true) (h : stepK d cl k (.iload k_1) nx ls st μ = some x) (ihk : ∀ pc ls st μ, k pc ls st μ = some x → PW p l e R s mm args below meth c cells slots Q D ad cy fm A L xs m pc ls st μ) : PW p l e R s mm args below meth c cells slots Q D ad cy fm A L xs m pc ls st μ := by
  obtain ⟨hx, hb, hml, hown, hts, hfr, hlo, hO, hK⟩ := C
  intro H locs LS hw hl
  rw [st_iload] at h
  unfold ldI at h
  split at h
  case h_2 => cases h
  rename_i u hu
  have hv := lvR_ld (fm := fm) hl (getD_some hu (fun q => by cases q)) (fun q => by cases q)
  have hq := ihk _ _ _ _ h H locs LS hw hl
  have hck : (decide (nx = pc + len) && ckIl k_1 raw len) = true := hck
  simp only [Bool.and_eq_true, decide_eq_true_eq] at hck
  obtain ⟨rfl, hk⟩ := hck
  unfold ckIl at hk
  split at hk
  · simp only [Bool.and_eq_true, decide_eq_true_eq, beq_iff_eq] at hk
    obtain ⟨h1, rfl⟩ := hk
    exact lv_iload_n hx hb hdec h1 hv hq
  · simp only [Bool.and_eq_true, decide_eq_true_eq, beq_iff_eq] at hk
    obtain ⟨rfl, rfl⟩ := hk
    exact lv_iload hx hb hdec hv hq
  · cases hk
set_option maxHeartbeats 2000000 in
theorem pw_aload {d m pc nx len : Nat} {raw : Instr} {ls st : List Value} {μ : sM} {k : sK} {cl : Nat → List Value → sM → sR} {x : Option Value × sM} {k_1 : Nat} (C : Cx p R s mm args c D ad cy fm A L xs m d) (hdec : decode (byt m) pc = .ok (raw, len)) (hck : ck m pc (.aload k_1) nx raw len = true) (h : stepK d cl k (.aload k_1) nx ls st μ = some x) (ihk : ∀ pc ls st μ, k pc ls st μ = some x → PW p l e R s mm args below meth c cells slots Q D ad cy fm A L xs m pc ls st μ) : PW p l e R s mm args below meth c cells slots Q D ad cy fm A L xs m pc ls st μ := by
  obtain ⟨hx, hb, hml, hown, hts, hfr, hlo, hO, hK⟩ := C
  intro H locs LS hw hl
  rw [st_aload] at h
  unfold ldA at h
  split at h
  case h_2 => cases h
  rename_i u hu
  split at h
  · cases h
  rename_i h150
  have hv := lvR_ld (fm := fm) hl (getD_some hu (fun q => by cases q)) (fun q => by cases q)
  have hq := ihk _ _ _ _ h H locs LS hw hl
  simp only [List.map_cons, cv_r h150] at hq hv
  have hck : (decide (nx = pc + len) && ckAl k_1 raw len) = true := hck
  simp only [Bool.and_eq_true, decide_eq_true_eq] at hck
  obtain ⟨rfl, hk⟩ := hck
  unfold ckAl at hk
  split at hk
  · simp only [Bool.and_eq_true, decide_eq_true_eq, beq_iff_eq] at hk
    obtain ⟨h1, rfl⟩ := hk
    exact lv_aload_n hx hb hdec h1 hv hq
  · simp only [Bool.and_eq_true, decide_eq_true_eq, beq_iff_eq] at hk
    obtain ⟨rfl, rfl⟩ := hk
    exact lv_aload hx hb hdec hv hq
  · cases hk
set_option maxHeartbeats 2000000 in
theorem pw_lload {d m pc nx len : Nat} {raw : Instr} {ls st : List Value} {μ : sM} {k : sK} {cl : Nat → List Value → sM → sR} {x : Option Value × sM} {k_1 : Nat} (C : Cx p R s mm args c D ad cy fm A L xs m d) (hdec : decode (byt m) pc = .ok (raw, len)) (hck : ck m pc (.lload k_1) nx raw len = true) (h : stepK d cl k (.lload k_1) nx ls st μ = some x) (ihk : ∀ pc ls st μ, k pc ls st μ = some x → PW p l e R s mm args below meth c cells slots Q D ad cy fm A L xs m pc ls st μ) : PW p l e R s mm args below meth c cells slots Q D ad cy fm A L xs m pc ls st μ := by
  obtain ⟨hx, hb, hml, hown, hts, hfr, hlo, hO, hK⟩ := C
  intro H locs LS hw hl
  rw [st_lload] at h
  unfold ldL at h
  split at h
  case h_2 => cases h
  rename_i u hu
  have hv := lvR_ld (fm := fm) hl (getD_some hu (fun q => by cases q)) (fun q => by cases q)
  have hq := ihk _ _ _ _ h H locs LS hw hl
  have hck : (decide (nx = pc + len) && ckLl k_1 raw len) = true := hck
  simp only [Bool.and_eq_true, decide_eq_true_eq] at hck
  obtain ⟨rfl, hk⟩ := hck
  unfold ckLl at hk
  split at hk
  · simp only [Bool.and_eq_true, decide_eq_true_eq, beq_iff_eq] at hk
    obtain ⟨h1, rfl⟩ := hk
    exact lv_lload_n hx hb hdec h1 hv hq
  · simp only [Bool.and_eq_true, decide_eq_true_eq, beq_iff_eq] at hk
    obtain ⟨rfl, rfl⟩ := hk
    exact lv_lload hx hb hdec hv hq
  · cases hk
set_option maxHeartbeats 2000000 in
theorem pw_istore {d m pc nx len : Nat} {raw : Instr} {ls st : List Value} {μ : sM} {k : sK} {cl : Nat → List Value → sM → sR} {x : Option Value × sM} {k_1 : Nat} (C : Cx p R s mm args c D ad cy fm A L xs m d) (hdec : decode (byt m) pc = .ok (raw, len)) (hck : ck m pc (.istore k_1) nx raw len = true) (h : stepK d cl k (.istore k_1) nx ls st μ = some x) (ihk : ∀ pc ls st μ, k pc ls st μ = some x → PW p l e R s mm args below meth c cells slots Q D ad cy fm A L xs m pc ls st μ) : PW p l e R s mm args below meth c cells slots Q D ad cy fm A L xs m pc ls st μ := by
  obtain ⟨hx, hb, hml, hown, hts, hfr, hlo, hO, hK⟩ := C
  intro H locs LS hw hl
  rcases st with _ | ⟨v, st⟩
  · exact no_some h
  cases v <;> (try exact no_some h)
  rename_i u
  rw [st_istore] at h
  split at h
  case isFalse => cases h
  rename_i hst
  have hi := (stB_spec hst).1
  rw [hl.2] at hi
  have hck : (decide (nx = pc + len) && ckIs k_1 raw len) = true := hck
  simp only [Bool.and_eq_true, decide_eq_true_eq] at hck
  obtain ⟨rfl, hk⟩ := hck
  unfold ckIs at hk
  split at hk
  · simp only [Bool.and_eq_true, decide_eq_true_eq, beq_iff_eq] at hk
    obtain ⟨h1, rfl⟩ := hk
    exact lv_istore_n hx hb hdec h1 hl.1 hi rfl (fun LS1 h9 => ihk _ _ _ _ h H locs LS1 hw (lvR_st hl hO.2.2.1.2.2 hst (fun q => by cases q) (by exact h9)))
  · simp only [Bool.and_eq_true, decide_eq_true_eq, beq_iff_eq] at hk
    obtain ⟨rfl, rfl⟩ := hk
    exact lv_istore hx hb hdec hl.1 hi rfl (fun LS1 h9 => ihk _ _ _ _ h H locs LS1 hw (lvR_st hl hO.2.2.1.2.2 hst (fun q => by cases q) (by exact h9)))
  · cases hk
set_option maxHeartbeats 2000000 in
theorem pw_astore {d m pc nx len : Nat} {raw : Instr} {ls st : List Value} {μ : sM} {k : sK} {cl : Nat → List Value → sM → sR} {x : Option Value × sM} {k_1 : Nat} (C : Cx p R s mm args c D ad cy fm A L xs m d) (hdec : decode (byt m) pc = .ok (raw, len)) (hck : ck m pc (.astore k_1) nx raw len = true) (h : stepK d cl k (.astore k_1) nx ls st μ = some x) (ihk : ∀ pc ls st μ, k pc ls st μ = some x → PW p l e R s mm args below meth c cells slots Q D ad cy fm A L xs m pc ls st μ) : PW p l e R s mm args below meth c cells slots Q D ad cy fm A L xs m pc ls st μ := by
  obtain ⟨hx, hb, hml, hown, hts, hfr, hlo, hO, hK⟩ := C
  intro H locs LS hw hl
  rcases st with _ | ⟨v, st⟩
  · exact no_some h
  cases v <;> (try exact no_some h)
  rename_i u
  rw [st_astore] at h
  split at h
  case isFalse => cases h
  rename_i hst
  obtain ⟨h150, hst⟩ := hst
  have hi := (stB_spec hst).1
  rw [hl.2] at hi
  have hck : (decide (nx = pc + len) && ckAs k_1 raw len) = true := hck
  simp only [Bool.and_eq_true, decide_eq_true_eq] at hck
  obtain ⟨rfl, hk⟩ := hck
  simp only [List.map_cons, cv_r h150]
  unfold ckAs at hk
  split at hk
  · simp only [Bool.and_eq_true, decide_eq_true_eq, beq_iff_eq] at hk
    obtain ⟨h1, rfl⟩ := hk
    exact lv_astore_n hx hb hdec h1 hl.1 hi rfl (fun LS1 h9 => ihk _ _ _ _ h H locs LS1 hw (lvR_st hl hO.2.2.1.2.2 hst (fun q => by cases q) (by rw [cv_r h150]; exact h9)))
  · simp only [Bool.and_eq_true, decide_eq_true_eq, beq_iff_eq] at hk
    obtain ⟨rfl, rfl⟩ := hk
    exact lv_astore hx hb hdec hl.1 hi rfl (fun LS1 h9 => ihk _ _ _ _ h H locs LS1 hw (lvR_st hl hO.2.2.1.2.2 hst (fun q => by cases q) (by rw [cv_r h150]; exact h9)))
  · cases hk
set_option maxHeartbeats 2000000 in
theorem pw_lstore {d m pc nx len : Nat} {raw : Instr} {ls st : List Value} {μ : sM} {k : sK} {cl : Nat → List Value → sM → sR} {x : Option Value × sM} {k_1 : Nat} (C : Cx p R s mm args c D ad cy fm A L xs m d) (hdec : decode (byt m) pc = .ok (raw, len)) (hck : ck m pc (.lstore k_1) nx raw len = true) (h : stepK d cl k (.lstore k_1) nx ls st μ = some x) (ihk : ∀ pc ls st μ, k pc ls st μ = some x → PW p l e R s mm args below meth c cells slots Q D ad cy fm A L xs m pc ls st μ) : PW p l e R s mm args below meth c cells slots Q D ad cy fm A L xs m pc ls st μ := by
  obtain ⟨hx, hb, hml, hown, hts, hfr, hlo, hO, hK⟩ := C
  intro H locs LS hw hl
  rcases st with _ | ⟨v, st⟩
  · exact no_some h
  cases v <;> (try exact no_some h)
  rename_i u
  rw [st_lstore] at h
  split at h
  case isFalse => cases h
  rename_i hst
  rw [Bool.and_eq_true, decide_eq_true_eq] at hst
  obtain ⟨hst, hi⟩ := hst
  rw [hl.2] at hi
  have hck : (decide (nx = pc + len) && ckLs k_1 raw len) = true := hck
  simp only [Bool.and_eq_true, decide_eq_true_eq] at hck
  obtain ⟨rfl, hk⟩ := hck
  unfold ckLs at hk
  split at hk
  · simp only [Bool.and_eq_true, decide_eq_true_eq, beq_iff_eq] at hk
    obtain ⟨rfl, rfl⟩ := hk
    exact lv_lstore hx hb hdec hl.1 hi rfl (fun LS1 h9 => ihk _ _ _ _ h H locs LS1 hw ⟨lv_mono h9 (store_sub2 hO.2.2.1.2.2 hst), by simp only [List.length_set]; exact hl.2⟩)
  · cases hk
set_option maxHeartbeats 2000000 in
theorem pw_iinc {d m pc nx len : Nat} {raw : Instr} {ls st : List Value} {μ : sM} {k : sK} {cl : Nat → List Value → sM → sR} {x : Option Value × sM} {k_1 : Nat} {cc : Int} (C : Cx p R s mm args c D ad cy fm A L xs m d) (hdec : decode (byt m) pc = .ok (raw, len)) (hck : ck m pc (.iinc k_1 cc) nx raw len = true) (h : stepK d cl k (.iinc k_1 cc) nx ls st μ = some x) (ihk : ∀ pc ls st μ, k pc ls st μ = some x → PW p l e R s mm args below meth c cells slots Q D ad cy fm A L xs m pc ls st μ) : PW p l e R s mm args below meth c cells slots Q D ad cy fm A L xs m pc ls st μ := by
  obtain ⟨hx, hb, hml, hown, hts, hfr, hlo, hO, hK⟩ := C
  intro H locs LS hw hl
  obtain ⟨rfl, rfl, rfl⟩ := ckd (i := .iinc k_1 cc) (n := 3) hck
  rw [st_iinc] at h
  unfold ldI at h
  split at h
  case h_2 => cases h
  rename_i u hu
  split at h
  case isFalse => cases h
  rename_i hst
  have hi := (stB_spec hst).1
  rw [hl.2] at hi
  obtain ⟨q, hq⟩ := List.mem_iff_getElem?.mp (mem_asc.mpr ⟨_, getD_some hu (fun q => by cases q), (fun q => by cases q), rfl⟩ : (k_1, cv ad fm (.int u)) ∈ asc ad fm ls)
  exact lv_iinc hx hb hdec hl.1 hq rfl hi rfl (fun LS1 h9 => ihk _ _ _ _ h H locs LS1 hw (lvR_st hl hO.2.2.1.2.2 hst (fun q => by cases q) h9))
set_option maxHeartbeats 2000000 in
theorem pw_goto {d m pc nx len : Nat} {raw : Instr} {ls st : List Value} {μ : sM} {k : sK} {cl : Nat → List Value → sM → sR} {x : Option Value × sM} {t : Int} (C : Cx p R s mm args c D ad cy fm A L xs m d) (hdec : decode (byt m) pc = .ok (raw, len)) (hck : ck m pc (.goto t) nx raw len = true) (h : stepK d cl k (.goto t) nx ls st μ = some x) (ihk : ∀ pc ls st μ, k pc ls st μ = some x → PW p l e R s mm args below meth c cells slots Q D ad cy fm A L xs m pc ls st μ) : PW p l e R s mm args below meth c cells slots Q D ad cy fm A L xs m pc ls st μ := by
  obtain ⟨hx, hb, hml, hown, hts, hfr, hlo, hO, hK⟩ := C
  intro H locs LS hw hl
  rw [st_goto] at h
  have hck : (decide (nx = pc + len) && ckGo pc t raw len) = true := hck
  simp only [Bool.and_eq_true, decide_eq_true_eq] at hck
  obtain ⟨rfl, hk⟩ := hck
  unfold ckGo at hk
  split at hk
  · simp only [Bool.and_eq_true, decide_eq_true_eq, beq_iff_eq] at hk
    obtain ⟨⟨h1, h2⟩, rfl⟩ := hk
    exact lv_goto (tgt := t.toNat) hx hb hdec (by omega) (ihk _ _ _ _ h H locs LS hw hl)
  · cases hk
set_option maxHeartbeats 2000000 in
theorem pw_if_icmp {d m pc nx len : Nat} {raw : Instr} {ls st : List Value} {μ : sM} {k : sK} {cl : Nat → List Value → sM → sR} {x : Option Value × sM} {cnd : Jvm.ClassFile.Cond} {t : Int} (C : Cx p R s mm args c D ad cy fm A L xs m d) (hdec : decode (byt m) pc = .ok (raw, len)) (hck : ck m pc (.if_icmp cnd t) nx raw len = true) (h : stepK d cl k (.if_icmp cnd t) nx ls st μ = some x) (ihk : ∀ pc ls st μ, k pc ls st μ = some x → PW p l e R s mm args below meth c cells slots Q D ad cy fm A L xs m pc ls st μ) : PW p l e R s mm args below meth c cells slots Q D ad cy fm A L xs m pc ls st μ := by
  obtain ⟨hx, hb, hml, hown, hts, hfr, hlo, hO, hK⟩ := C
  intro H locs LS hw hl
  rcases st with _ | ⟨v, st⟩
  · exact no_some h
  cases v <;> (try exact no_some h)
  rename_i y
  rcases st with _ | ⟨v, st⟩
  · exact no_some h
  cases v <;> (try exact no_some h)
  rename_i x
  have hck : (decide (nx = pc + len) && ckIc pc cnd t raw len) = true := hck
  simp only [Bool.and_eq_true, decide_eq_true_eq] at hck
  obtain ⟨rfl, hk⟩ := hck
  unfold ckIc at hk
  split at hk
  case h_2 => cases hk
  simp only [Bool.and_eq_true, decide_eq_true_eq, beq_iff_eq] at hk
  obtain ⟨⟨rfl, h1, h2⟩, rfl⟩ := hk
  rename_i cnd off
  cases cnd
  case eq =>
    rw [st_ceq] at h
    refine lv_icmp_eq (tgt := t.toNat) hx hb hdec (by omega) (fun h1 => ?_) (fun h1 => ?_)
    · rw [if_pos h1] at h; exact ihk _ _ _ _ h H locs LS hw hl
    · rw [if_neg h1] at h; exact ihk _ _ _ _ h H locs LS hw hl
  case ne =>
    rw [st_cne] at h
    refine lv_icmp_ne (tgt := t.toNat) hx hb hdec (by omega) (fun h1 => ?_) (fun h1 => ?_)
    · rw [if_neg h1] at h; exact ihk _ _ _ _ h H locs LS hw hl
    · rw [if_pos h1] at h; exact ihk _ _ _ _ h H locs LS hw hl
  case lt =>
    rw [st_clt] at h
    refine lv_icmp_lt (tgt := t.toNat) hx hb hdec (by omega) (fun h1 => ?_) (fun h1 => ?_)
    · rw [if_pos h1] at h; exact ihk _ _ _ _ h H locs LS hw hl
    · rw [if_neg h1] at h; exact ihk _ _ _ _ h H locs LS hw hl
  case ge =>
    rw [st_cge] at h
    refine lv_icmp_ge (tgt := t.toNat) hx hb hdec (by omega) (fun h1 => ?_) (fun h1 => ?_)
    · rw [if_neg (Int32.not_lt.mpr h1)] at h; exact ihk _ _ _ _ h H locs LS hw hl
    · rw [if_pos (Int32.not_le.mp h1)] at h; exact ihk _ _ _ _ h H locs LS hw hl
  case gt =>
    rw [st_cgt] at h
    refine lv_icmp_gt (tgt := t.toNat) hx hb hdec (by omega) (fun h1 => ?_) (fun h1 => ?_)
    · rw [if_pos h1] at h; exact ihk _ _ _ _ h H locs LS hw hl
    · rw [if_neg h1] at h; exact ihk _ _ _ _ h H locs LS hw hl
  case le =>
    rw [st_cle] at h
    refine lv_icmp_le (tgt := t.toNat) hx hb hdec (by omega) (fun h1 => ?_) (fun h1 => ?_)
    · rw [if_neg (Int32.not_lt.mpr h1)] at h; exact ihk _ _ _ _ h H locs LS hw hl
    · rw [if_pos (Int32.not_le.mp h1)] at h; exact ihk _ _ _ _ h H locs LS hw hl
set_option maxHeartbeats 2000000 in
theorem pw_ifCond {d m pc nx len : Nat} {raw : Instr} {ls st : List Value} {μ : sM} {k : sK} {cl : Nat → List Value → sM → sR} {x : Option Value × sM} {cnd : Jvm.ClassFile.Cond} {t : Int} (C : Cx p R s mm args c D ad cy fm A L xs m d) (hdec : decode (byt m) pc = .ok (raw, len)) (hck : ck m pc (.ifCond cnd t) nx raw len = true) (h : stepK d cl k (.ifCond cnd t) nx ls st μ = some x) (ihk : ∀ pc ls st μ, k pc ls st μ = some x → PW p l e R s mm args below meth c cells slots Q D ad cy fm A L xs m pc ls st μ) : PW p l e R s mm args below meth c cells slots Q D ad cy fm A L xs m pc ls st μ := by
  obtain ⟨hx, hb, hml, hown, hts, hfr, hlo, hO, hK⟩ := C
  intro H locs LS hw hl
  rcases st with _ | ⟨v, st⟩
  · exact no_some h
  cases v <;> (try exact no_some h)
  rename_i y
  have hck : (decide (nx = pc + len) && ckIf pc cnd t raw len) = true := hck
  simp only [Bool.and_eq_true, decide_eq_true_eq] at hck
  obtain ⟨rfl, hk⟩ := hck
  unfold ckIf at hk
  split at hk
  case h_2 => cases hk
  simp only [Bool.and_eq_true, decide_eq_true_eq, beq_iff_eq] at hk
  obtain ⟨⟨rfl, h1, h2⟩, rfl⟩ := hk
  rename_i cnd off
  cases cnd
  case eq =>
    rw [st_zeq] at h
    refine lv_if_eq (tgt := t.toNat) hx hb hdec (by omega) (fun h1 => ?_) (fun h1 => ?_)
    · rw [if_pos h1] at h; exact ihk _ _ _ _ h H locs LS hw hl
    · rw [if_neg h1] at h; exact ihk _ _ _ _ h H locs LS hw hl
  case ne =>
    rw [st_zne] at h
    refine lv_if_ne (tgt := t.toNat) hx hb hdec (by omega) (fun h1 => ?_) (fun h1 => ?_)
    · rw [if_neg h1] at h; exact ihk _ _ _ _ h H locs LS hw hl
    · rw [if_pos h1] at h; exact ihk _ _ _ _ h H locs LS hw hl
  case lt =>
    rw [st_zlt] at h
    refine lv_if_lt (tgt := t.toNat) hx hb hdec (by omega) (fun h1 => ?_) (fun h1 => ?_)
    · rw [if_pos h1] at h; exact ihk _ _ _ _ h H locs LS hw hl
    · rw [if_neg h1] at h; exact ihk _ _ _ _ h H locs LS hw hl
  case ge =>
    rw [st_zge] at h
    refine lv_if_ge (tgt := t.toNat) hx hb hdec (by omega) (fun h1 => ?_) (fun h1 => ?_)
    · rw [if_neg (Int32.not_lt.mpr h1)] at h; exact ihk _ _ _ _ h H locs LS hw hl
    · rw [if_pos (Int32.not_le.mp h1)] at h; exact ihk _ _ _ _ h H locs LS hw hl
  case gt =>
    rw [st_zgt] at h
    refine lv_if_gt (tgt := t.toNat) hx hb hdec (by omega) (fun h1 => ?_) (fun h1 => ?_)
    · rw [if_pos h1] at h; exact ihk _ _ _ _ h H locs LS hw hl
    · rw [if_neg h1] at h; exact ihk _ _ _ _ h H locs LS hw hl
  case le =>
    rw [st_zle] at h
    refine lv_if_le (tgt := t.toNat) hx hb hdec (by omega) (fun h1 => ?_) (fun h1 => ?_)
    · rw [if_neg (Int32.not_lt.mpr h1)] at h; exact ihk _ _ _ _ h H locs LS hw hl
    · rw [if_pos (Int32.not_le.mp h1)] at h; exact ihk _ _ _ _ h H locs LS hw hl
end

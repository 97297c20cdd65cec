/-! 13.sound: what the small machine answers, the machine does -/
section
variable {p : Program} {l : Launch} {e : Env} {R : Room} {s : State} {mm : MethodId} {args : Array Value} {below : List Frame} {meth : Method} {c : Code} {cells slots : Nat} {Q : State → Prop} {D : va_G} {ad : Nat → Nat} {cy : Nat → ClassId} {fm : Value} {A : Nat → Prop} {L : Nat} {xs : Nat → Int32}
set_option maxHeartbeats 4000000 in
theorem pw_all {d m pc nx len : Nat} {raw : Instr} {ls st : List Value} {μ : sM} {k : sK} {cl : Nat → List Value → sM → sR} {x : Option Value × sM} {i : Instr} (C : Cx p R s mm args c D ad cy fm A L xs m d) (hdec : decode (byt m) pc = .ok (raw, len)) (hck : ck m pc i nx raw len = true) (h : stepK d cl k i nx ls st μ = some x) (ihk : ∀ pc ls st μ, k pc ls st μ = some x → PW p l e R s mm args below meth c cells slots Q D ad cy fm A L xs m pc ls st μ) (hcs : cells ≤ R.cells ∧ slots ≤ R.slots) (ihc : ∀ y a μ u, cl y a μ = some u → y ∈ mAll → ∃ d1, d = d1 + 1 ∧ metY l D ad cy fm A L xs d1 y a μ u) (hret : ∀ (H : Heap) (locs : List Loc) (LS : Array Slot) (pc : Nat), wld D ad cy A L xs x.2 s H locs → rtOK m x.1 pc → W p l e R s mm args below meth c H locs cells slots Q (F0 mm pc LS (x.1.map (cv ad fm)).toList)) : PW p l e R s mm args below meth c cells slots Q D ad cy fm A L xs m pc ls st μ := by
  cases i
  case iadd => exact pw_iadd C hdec hck h ihk
  case isub => exact pw_isub C hdec hck h ihk
  case imul => exact pw_imul C hdec hck h ihk
  case iand => exact pw_iand C hdec hck h ihk
  case ior => exact pw_ior C hdec hck h ihk
  case ixor => exact pw_ixor C hdec hck h ihk
  case ishl => exact pw_ishl C hdec hck h ihk
  case ishr => exact pw_ishr C hdec hck h ihk
  case iushr => exact pw_iushr C hdec hck h ihk
  case idiv => exact pw_idiv C hdec hck h ihk
  case irem => exact pw_irem C hdec hck h ihk
  case i2b => exact pw_i2b C hdec hck h ihk
  case i2s => exact pw_i2s C hdec hck h ihk
  case i2c => exact pw_i2c C hdec hck h ihk
  case i2l => exact pw_i2l C hdec hck h ihk
  case l2i => exact pw_l2i C hdec hck h ihk
  case land => exact pw_land C hdec hck h ihk
  case lor => exact pw_lor C hdec hck h ihk
  case lshl => exact pw_lshl C hdec hck h ihk
  case lshr => exact pw_lshr C hdec hck h ihk
  case lcmp => exact pw_lcmp C hdec hck h ihk
  case pop => exact pw_pop C hdec hck h ihk
  case dup => exact pw_dup C hdec hck h ihk
  case dup2 => exact pw_dup2 C hdec hck h ihk
  case iconst => exact pw_iconst C hdec hck h ihk
  case bipush => exact pw_bipush C hdec hck h ihk
  case iload => exact pw_iload C hdec hck h ihk
  case aload => exact pw_aload C hdec hck h ihk
  case lload => exact pw_lload C hdec hck h ihk
  case istore => exact pw_istore C hdec hck h ihk
  case astore => exact pw_astore C hdec hck h ihk
  case lstore => exact pw_lstore C hdec hck h ihk
  case iinc => exact pw_iinc C hdec hck h ihk
  case goto => exact pw_goto C hdec hck h ihk
  case if_icmp => exact pw_if_icmp C hdec hck h ihk
  case ifCond => exact pw_ifCond C hdec hck h ihk
  case tableswitch => exact pw_tableswitch C hdec hck h ihk
  case lookupswitch => exact pw_lookupswitch C hdec hck h ihk
  case iaload => exact pw_iaload C hdec hck h ihk
  case baload => exact pw_baload C hdec hck h ihk
  case caload => exact pw_caload C hdec hck h ihk
  case laload => exact pw_laload C hdec hck h ihk
  case aaload => exact pw_aaload C hdec hck h ihk
  case iastore => exact pw_iastore C hdec hck h ihk
  case bastore => exact pw_bastore C hdec hck h ihk
  case lastore => exact pw_lastore C hdec hck h ihk
  case arraylength => exact pw_arraylength C hdec hck h ihk
  case getfield => exact pw_getfield C hdec hck h ihk
  case putfield => exact pw_putfield C hdec hck h ihk
  case getstatic => exact pw_getstatic C hdec hck h ihk
  case ldc => exact pw_ldc C hdec hck h ihk
  case invokedynamic => exact pw_invokedynamic C hdec hck h ihk
  case invokeinterface => exact pw_invokeinterface C hdec hck h ihk hcs ihc
  case multianewarray => exact pw_multianewarray C hdec hck h ihk hcs ihc
  case ireturn => exact pw_ireturn C hdec hck h ihk hret
  case dreturn => exact pw_dreturn C hdec hck h ihk hret
  case areturn => exact pw_areturn C hdec hck h ihk hret
  case freturn => exact pw_freturn C hdec hck h ihk hret
  case lreturn => exact pw_lreturn C hdec hck h ihk hret
  case return_ => exact pw_return_ C hdec hck h ihk hret
  all_goals exact no_some h
theorem act_nop {d nx : Nat} {ls st : List Value} {μ : sM} {k : sK} {cl : Nat → List Value → sM → sR} {x : Option Value × sM} {P : Prop} (h : stepK d cl k .nop nx ls st μ = some x) : P := no_some h
theorem run_s {d n m pc : Nat} {ls st : List Value} {μ : sM} {x : Option Value × sM} (h : run d (n + 1) m pc ls st μ = some x) : ∃ cl : Nat → List Value → sM → sR, (∀ y a μ u, cl y a μ = some u → ∃ d1, d = d1 + 1 ∧ (xp a).length ≤ mLx y ∧ run d1 n y 0 (loc0 y a) [] μ = some u) ∧ stepK d cl (run d n m) (smc m pc).1 (smc m pc).2.1 ls st μ = some x := by
  rw [run] at h
  refine ⟨_, ?_, h⟩
  intro y a μ u hu
  cases d with
  | zero => cases hu
  | succ d1 =>
    dsimp only at hu
    split at hu
    · rename_i hle
      exact ⟨d1, rfl, hle, hu⟩
    · cases hu
/-- one activation, given its callees -/
theorem pw_run {d : Nat} (IH : ∀ d1, d = d1 + 1 → ∀ n y a μ u, run d1 n y 0 (loc0 y a) [] μ = some u → (xp a).length ≤ mLx y → y ∈ mAll → metY l D ad cy fm A L xs d1 y a μ u) : ∀ (n m pc : Nat) (ls st : List Value) (μ : sM) (x : Option Value × sM), run d n m pc ls st μ = some x → ∀ {p : Program} {e : Env} {R : Room} {s : State} {mm : MethodId} {args : Array Value} {below : List Frame} {meth : Method} {c : Code} {cells slots : Nat} {Q : State → Prop}, Cx p R s mm args c D ad cy fm A L xs m d → (cells ≤ R.cells ∧ slots ≤ R.slots) → (∀ (H : Heap) (locs : List Loc) (LS : Array Slot) (pc : Nat), wld D ad cy A L xs x.2 s H locs → rtOK m x.1 pc → W p l e R s mm args below meth c H locs cells slots Q (F0 mm pc LS (x.1.map (cv ad fm)).toList)) → PW p l e R s mm args below meth c cells slots Q D ad cy fm A L xs m pc ls st μ := by
  intro n
  induction n with
  | zero => intro m pc ls st μ x h; simp [run] at h
  | succ n ih =>
    intro m pc ls st μ x h p e R s mm args below meth c cells slots Q C hcs hret
    obtain ⟨cl, hcl, h⟩ := run_s h
    by_cases hnop : (smc m pc).1 = .nop
    · rw [hnop] at h
      exact act_nop h
    · obtain ⟨⟨raw, len⟩, hdec, hck⟩ := smc_link hnop
      refine pw_all C hdec hck h (fun pc ls st μ hk => ih m pc ls st μ x hk C hcs hret) hcs (fun y a μ u hu hy => ?_) hret
      obtain ⟨d1, hd1, hle, hu⟩ := hcl _ _ _ _ hu
      exact ⟨d1, hd1, IH d1 hd1 n y a μ u hu hle hy⟩
theorem xp_args {a : List Value} (hf : fm = .null ∨ ∃ t, fm = .ref t) : ∀ (i0 i : Nat) (v : Value), (xp a)[i]? = some v → v ≠ .null → (i0 + i, cv ad fm v) ∈ lv_args i0 (a.map (cv ad fm)) := by
  induction a with
  | nil => intro i0 i v h; simp [xp] at h
  | cons w a ih =>
    intro i0 i v h hv
    simp only [List.map_cons, lv_args]
    rw [cv_cat hf]
    unfold xp at h
    split at h
    · rename_i hc
      rw [if_pos hc]
      match i, h with
      | 0, h => cases h; exact List.mem_cons_self
      | 1, h => cases h; exact absurd rfl hv
      | i + 2, h =>
        have := ih (i0 + 2) i v (by simpa using h) hv
        rw [show i0 + (i + 2) = i0 + 2 + i by omega]
        exact List.mem_cons_of_mem _ this
    · rename_i hc
      rw [if_neg hc]
      match i, h with
      | 0, h => cases h; exact List.mem_cons_self
      | i + 1, h =>
        have := ih (i0 + 1) i v (by simpa using h) hv
        rw [show i0 + (i + 1) = i0 + 1 + i by omega]
        exact List.mem_cons_of_mem _ this
theorem pad_get : ∀ (n : Nat) (l : List Value) (i : Nat) (v : Value), (pad n l)[i]? = some v → v ≠ .null → l[i]? = some v := by
  intro n
  induction n with
  | zero => intro l i v h; simp [pad] at h
  | succ n ih =>
    intro l i v h hv
    cases l with
    | nil =>
      cases i with
      | zero => simp [pad] at h; exact absurd h.symm hv
      | succ i => simp [pad] at h; have := ih [] i v h hv; simp at this
    | cons w l =>
      cases i with
      | zero => simpa [pad] using h
      | succ i => simp [pad] at h; simpa using ih l i v h hv
theorem pad_len : ∀ (n : Nat) (l : List Value), (pad n l).length = n := by
  intro n
  induction n with
  | zero => intro l; rfl
  | succ n ih => intro l; cases l <;> simp [pad, ih]
theorem xp_len (hf : fm = .null ∨ ∃ t, fm = .ref t) (a : List Value) : (lg_sl (a.map (cv ad fm))).length = (xp a).length := by
  induction a with
  | nil => rfl
  | cons w a ih =>
    unfold lg_sl at ih ⊢
    simp only [List.map_cons, List.flatMap_cons, List.length_append, ih, xp]
    rw [cv_cat hf]
    split <;> simp <;> omega
theorem met_y : ∀ (d n y : Nat) (a : List Value) (μ : sM) (u : Option Value × sM), run d n y 0 (loc0 y a) [] μ = some u → (xp a).length ≤ mLx y → y ∈ mAll → metY l D ad cy fm A L xs d y a μ u := by
  intro d
  induction d with
  | zero => ?_
  | succ d ihd => ?_
  all_goals
    intro n y a μ u hrun hle hy
    refine va_MetF (cc := byt y) (maxL := mLx y) (ret := rty y) (w_pl9 y hy) rfl ?_
    intro p e s m args below meth c s₁ B hml hv
    obtain ⟨rfl, hP, hD, hK, hO, h99, h98⟩ := hv
    have hr := B.returns
    have hlocks := B.notSynchronized
    have hts := atoms_spec (ws := wsY y) B.pre
    have hown : s.vm.findClass (csN (cxN y)) = some m.cls := findClass_of_methodNamed B.named
    have hf := hO.2.2.1.2.2
    rw [lg_entry_eq]
    have hl := lv_entry (a.map (cv ad fm)) (n := mLx y) (by rw [xp_len hf]; exact hle)
    refine pw_run ?_ n y 0 (loc0 y a) [] μ u hrun ⟨B.exec, B.bytes, hml, hown, fun w hw => hts w (List.mem_cons_of_mem _ hw), Nat.le_refl _, Nat.le_refl _, hO, hK⟩ ⟨Nat.le_refl _, Nat.le_refl _⟩ ?_ s.heap [] _ ⟨hP, hD, va_S.rf, h99, h98⟩ ⟨lv_mono hl ?_, pad_len _ _⟩
    · first
        | (intro d1 h; cases h; exact fun n y a μ u => ihd n y a μ u)
        | (intro d1 h; cases h)
    · intro H locs LS pc hw hrt
      obtain ⟨hP1, hD1, hS1, h91, h81⟩ := hw
      have hq : ∀ t : State, t.heap = H → s.WarmedH t.vm → qcY D ad cy fm A L xs u (a.map (cv ad fm)).toArray s (.returned (u.1.map (cv ad fm))) t := fun t ht _ => ⟨⟨rfl, by rw [ht]; exact hP1, hD1, h91, h81⟩, hS1.F ht⟩
      obtain ⟨r, μ1⟩ := u
      dsimp only at hrt hq ⊢
      unfold rtOK at hrt
      split at hrt
      · exact W.vret B.exec B.bytes (hr.trans hrt.2) hq hS1.2.2 hrt.1
      · obtain ⟨hd, ty, ht, hn⟩ := hrt
        exact W.zret B.exec B.bytes (hr.trans ht) hn hq hS1.2.2 hd
      · exact W.lret B.exec B.bytes (hr.trans hrt.2) hq hS1.2.2 hrt.1
      · exact hrt.elim
    · rintro ⟨i, w⟩ hq
      obtain ⟨v, h1, h2, rfl⟩ := mem_asc.mp hq
      have h3 := xp_args (ad := ad) hf 0 i v (pad_get _ _ _ _ h1 h2) h2
      rwa [Nat.zero_add] at h3
/-- SOUNDNESS: from the middle of an activation -/
theorem sound {d n m pc : Nat} {ls st : List Value} {μ : sM} {x : Option Value × sM} (h : run d n m pc ls st μ = some x) (C : Cx p R s mm args c D ad cy fm A L xs m d) (hcs : cells ≤ R.cells ∧ slots ≤ R.slots) (hret : ∀ (H : Heap) (locs : List Loc) (LS : Array Slot) (pc : Nat), wld D ad cy A L xs x.2 s H locs → rtOK m x.1 pc → W p l e R s mm args below meth c H locs cells slots Q (F0 mm pc LS (x.1.map (cv ad fm)).toList)) : PW p l e R s mm args below meth c cells slots Q D ad cy fm A L xs m pc ls st μ := pw_run (fun d1 _ n y a μ u => met_y d1 n y a μ u) n m pc ls st μ x h C hcs hret
end

/-! 15.ctor: by wip/whole/gen_ctor.py -/
theorem va_inj_int {U : State} {c1 c2 : ClassId} (h1 : va_RA U c1 .int) (h2 : va_RA U c2 .int) : c1 = c2 := Option.some.inj (h1.symm.trans h2)
theorem va_inj_byte {U : State} {c1 c2 : ClassId} (h1 : va_RA U c1 .byte) (h2 : va_RA U c2 .byte) : c1 = c2 := Option.some.inj (h1.symm.trans h2)
theorem va_inj_char {U : State} {c1 c2 : ClassId} (h1 : va_RA U c1 .char) (h2 : va_RA U c2 .char) : c1 = c2 := Option.some.inj (h1.symm.trans h2)
theorem va_inj_long {U : State} {c1 c2 : ClassId} (h1 : va_RA U c1 .long) (h2 : va_RA U c2 .long) : c1 = c2 := Option.some.inj (h1.symm.trans h2)
set_option maxHeartbeats 16000000 in
set_option maxRecDepth 100000 in
theorem c_School_init (l : Launch) (dC : Nat → ClassId) (dI : Nat → Nat → Nat) (h0 : Nat) (sz : Nat) : Met l yX3_init wI_X3 ({ frames := 1, cells := 10, slots := 156, locals := 12 }) (va_Pc [.ref h0] (fun U => U.heap.size = sz ∧ va_P (dC, dI) vwCl [(h0, .inr (3, [.int 0, .null, .null, .null, .null, .null, .int 0, .null, .null, .null, .null, .null, .int 0, .int 0, .int 0, .int 0]))] U.heap ∧ va_K (dC, dI) vwCl [] U ∧ va_D (fun _ => True) [(h0, .inr (3, [.int 0, .null, .null, .null, .null, .null, .int 0, .null, .null, .null, .null, .null, .int 0, .int 0, .int 0, .int 0]))])) (va_Qv (fun u : (Nat → Nat) × ClassId => True) (fun u t => va_P (dC, dI) vwCl [(h0, .inr (3, [.int 0, .ref (u.1 0), .ref (u.1 1), .ref (u.1 2), .ref (u.1 3), .ref (u.1 4), .int 0, .ref (u.1 5), .ref (u.1 6), .ref (u.1 7), .ref (u.1 8), .ref (u.1 9), .int 0, .int 20, .int 60, .int 0])), ((u.1 0), .inl (u.2, 48, .inl (fun _ => 0))), ((u.1 1), .inl (u.2, 12, .inl (fun _ => 0))), ((u.1 2), .inl (u.2, 12, .inl (fun _ => 0))), ((u.1 3), .inl (u.2, 12, .inl (fun _ => 0))), ((u.1 4), .inl (u.2, 12, .inl (fun _ => 0))), ((u.1 5), .inl (u.2, 12, .inl (fun _ => 0))), ((u.1 6), .inl (u.2, 12, .inl (fun _ => 0))), ((u.1 7), .inl (u.2, 12, .inl (fun _ => 0))), ((u.1 8), .inl (u.2, 12, .inl (fun _ => 0))), ((u.1 9), .inl (u.2, 12, .inl (fun _ => 0)))] t.heap ∧ va_K (dC, dI) vwCl [(u.2, .int)] t ∧ va_D (va_A [(h0, .inr (3, [.int 0, .null, .null, .null, .null, .null, .int 0, .null, .null, .null, .null, .null, .int 0, .int 0, .int 0, .int 0]))] sz) [(h0, .inr (3, [.int 0, .ref (u.1 0), .ref (u.1 1), .ref (u.1 2), .ref (u.1 3), .ref (u.1 4), .int 0, .ref (u.1 5), .ref (u.1 6), .ref (u.1 7), .ref (u.1 8), .ref (u.1 9), .int 0, .int 20, .int 60, .int 0])), ((u.1 0), .inl (u.2, 48, .inl (fun _ => 0))), ((u.1 1), .inl (u.2, 12, .inl (fun _ => 0))), ((u.1 2), .inl (u.2, 12, .inl (fun _ => 0))), ((u.1 3), .inl (u.2, 12, .inl (fun _ => 0))), ((u.1 4), .inl (u.2, 12, .inl (fun _ => 0))), ((u.1 5), .inl (u.2, 12, .inl (fun _ => 0))), ((u.1 6), .inl (u.2, 12, .inl (fun _ => 0))), ((u.1 7), .inl (u.2, 12, .inl (fun _ => 0))), ((u.1 8), .inl (u.2, 12, .inl (fun _ => 0))), ((u.1 9), .inl (u.2, 12, .inl (fun _ => 0)))]) (va_A [(h0, .inr (3, [.int 0, .null, .null, .null, .null, .null, .int 0, .null, .null, .null, .null, .null, .int 0, .int 0, .int 0, .int 0]))] sz)) 10 156 (va_A [(h0, .inr (3, [.int 0, .null, .null, .null, .null, .null, .int 0, .null, .null, .null, .null, .null, .int 0, .int 0, .int 0, .int 0]))] sz) := by
  refine Met.ofW (cc := cX3_init) (maxL := 1) (ret := none) (by decide) rfl ?_
  intro p e s m args below meth c s₁ B hml hv
  obtain ⟨rfl, hsz, hP, hK, hD0⟩ := hv
  have hx := B.exec
  have hb := B.bytes
  have hr := B.returns
  have hts0 := atoms_spec (ws := wI_X3) B.pre
  have hts : ∀ w ∈ gw, w.before ([.ref h0] : List Value).toArray s = true := fun w h => hts0 w (List.mem_cons_of_mem _ h)
  have hown : s.vm.findClass RX3 = some m.cls := findClass_of_methodNamed B.named
  have hlocks := B.notSynchronized
  have hin : meth.name = "<init>" := (name_of_methodNamed B.named B.method).1
  subst hsz
  have hD := hD0.self (sz := s.heap.size)
  generalize hAe : va_A [(h0, .inr (3, [.int 0, .null, .null, .null, .null, .null, .int 0, .null, .null, .null, .null, .null, .int 0, .int 0, .int 0, .int 0]))] s.heap.size = A at hD ⊢
  have hA : ∀ q : Nat, s.heap.size ≤ q → A q := fun q h => by rw [← hAe]; exact Or.inr h
  have hS : va_S A s.heap s.heap [] := va_S.rf
  have hP : va_P (dC, dI) vwCl [(h0, .inr (3, [.int 0, .null, .null, .null, .null, .null, .int 0, .null, .null, .null, .null, .null, .int 0, .int 0, .int 0, .int 0]))] s.heap := hP
  have hl := lv_entry ([.ref h0]) (n := 1) (Nat.le_of_ble_eq_true rfl)
  rw [lg_entry_eq]
  generalize (lg_sl ([.ref h0]) ++ List.replicate (1 - (lg_sl ([.ref h0])).length) Slot.unset).toArray = ls at hl ⊢
  have hl : lv_has ls 1 [(0, .ref h0)] := hl
  refine lv_aload_n hx hb dX3_init_0 rfl (lv_at hl 0 rfl) ?_
  refine W.objInit hx hb hown (hts _ wq_38) (hts _ wq_0) (hts _ wq_1) rfl (by rw [hml]; exact hl.1) rfl dX3_init_1 (Nat.le_of_ble_eq_true rfl) (Nat.le_of_ble_eq_true rfl) ?_
  refine W.eq (g2 := F0 m 4 ls []) rfl ?_
  refine lv_aload_n hx hb dX3_init_4 rfl (lv_at hl 0 rfl) ?_
  refine lv_bipush (v := 48) hx hb dX3_init_5 (by decide) ?_
  refine va_newa (atype := .int) (a0 := (48, .inl (fun _ => 0))) hx hb (hts _ wq_2) rfl hK hP hD hS hA (fun _ => rfl) (by decide) (by decide) (Nat.le_of_ble_eq_true rfl) (Nat.le_of_ble_eq_true rfl) (Nat.le_of_ble_eq_true rfl) dX3_init_7 (fun q7 c7 H hK hP hD hS => ?_)
  have hP : va_P (dC, dI) vwCl [(h0, .inr (3, [.int 0, .null, .null, .null, .null, .null, .int 0, .null, .null, .null, .null, .null, .int 0, .int 0, .int 0, .int 0])), (q7, .inl (c7, 48, .inl (fun _ => 0)))] H := hP
  have hD : va_D A [(h0, .inr (3, [.int 0, .null, .null, .null, .null, .null, .int 0, .null, .null, .null, .null, .null, .int 0, .int 0, .int 0, .int 0])), (q7, .inl (c7, 48, .inl (fun _ => 0)))] := hD
  have hK : va_K (dC, dI) vwCl [(c7, .int)] s := hK
  refine W.widen (k := 1) (n := 48) (Nat.le_of_ble_eq_true rfl) (Nat.le_of_ble_eq_true rfl) ?_
  refine va_putF (D := (dC, dI)) (ci := 3) (v := .ref q7) (ty := .array .int) (C := RX3) (T := TX3) (N := 16) hx hb hts w_u3 tyX3 tyX3_ok nmX3 hown hK hP hD hS 0 rfl rfl 1 (by decide) (hts _ wq_39) (fun _ h9 => h9) rfl hin rfl (by decide +kernel) rfl rfl (Nat.le_of_ble_eq_true rfl) dX3_init_9 (fun H locs hP hD hS => ?_)
  have hP : va_P (dC, dI) vwCl [(h0, .inr (3, [.int 0, .ref q7, .null, .null, .null, .null, .int 0, .null, .null, .null, .null, .null, .int 0, .int 0, .int 0, .int 0])), (q7, .inl (c7, 48, .inl (fun _ => 0)))] H := hP
  have hD : va_D A [(h0, .inr (3, [.int 0, .ref q7, .null, .null, .null, .null, .int 0, .null, .null, .null, .null, .null, .int 0, .int 0, .int 0, .int 0])), (q7, .inl (c7, 48, .inl (fun _ => 0)))] := hD
  refine lv_aload_n hx hb dX3_init_12 rfl (lv_at hl 0 rfl) ?_
  refine lv_bipush (v := 12) hx hb dX3_init_13 (by decide) ?_
  refine va_newa (atype := .int) (a0 := (12, .inl (fun _ => 0))) hx hb (hts _ wq_2) rfl hK hP hD hS hA (fun _ => rfl) (by decide) (by decide) (Nat.le_of_ble_eq_true rfl) (Nat.le_of_ble_eq_true rfl) (Nat.le_of_ble_eq_true rfl) dX3_init_15 (fun q15 c15 H hK hP hD hS => ?_)
  have hP : va_P (dC, dI) vwCl [(h0, .inr (3, [.int 0, .ref q7, .null, .null, .null, .null, .int 0, .null, .null, .null, .null, .null, .int 0, .int 0, .int 0, .int 0])), (q7, .inl (c7, 48, .inl (fun _ => 0))), (q15, .inl (c15, 12, .inl (fun _ => 0)))] H := hP
  have hD : va_D A [(h0, .inr (3, [.int 0, .ref q7, .null, .null, .null, .null, .int 0, .null, .null, .null, .null, .null, .int 0, .int 0, .int 0, .int 0])), (q7, .inl (c7, 48, .inl (fun _ => 0))), (q15, .inl (c15, 12, .inl (fun _ => 0)))] := hD
  have hK : va_K (dC, dI) vwCl [(c7, .int), (c15, .int)] s := hK
  obtain rfl : c7 = c15 := va_inj_int (hK.2 0 _ rfl).2 (hK.2 1 _ rfl).2
  have hK := hK.sub (tys' := [(c7, .int)]) [0] rfl
  have hP : va_P (dC, dI) vwCl [(h0, .inr (3, [.int 0, .ref q7, .null, .null, .null, .null, .int 0, .null, .null, .null, .null, .null, .int 0, .int 0, .int 0, .int 0])), (q7, .inl (c7, 48, .inl (fun _ => 0))), (q15, .inl (c7, 12, .inl (fun _ => 0)))] H := hP
  have hD : va_D A [(h0, .inr (3, [.int 0, .ref q7, .null, .null, .null, .null, .int 0, .null, .null, .null, .null, .null, .int 0, .int 0, .int 0, .int 0])), (q7, .inl (c7, 48, .inl (fun _ => 0))), (q15, .inl (c7, 12, .inl (fun _ => 0)))] := hD
  refine W.widen (k := 2) (n := 60) (Nat.le_of_ble_eq_true rfl) (Nat.le_of_ble_eq_true rfl) ?_
  refine va_putF (D := (dC, dI)) (ci := 3) (v := .ref q15) (ty := .array .int) (C := RX3) (T := TX3) (N := 16) hx hb hts w_u3 tyX3 tyX3_ok nmX3 hown hK hP hD hS 0 rfl rfl 2 (by decide) (hts _ wq_40) (fun _ h9 => h9) rfl hin rfl (by decide +kernel) rfl rfl (Nat.le_of_ble_eq_true rfl) dX3_init_17 (fun H locs hP hD hS => ?_)
  have hP : va_P (dC, dI) vwCl [(h0, .inr (3, [.int 0, .ref q7, .ref q15, .null, .null, .null, .int 0, .null, .null, .null, .null, .null, .int 0, .int 0, .int 0, .int 0])), (q7, .inl (c7, 48, .inl (fun _ => 0))), (q15, .inl (c7, 12, .inl (fun _ => 0)))] H := hP
  have hD : va_D A [(h0, .inr (3, [.int 0, .ref q7, .ref q15, .null, .null, .null, .int 0, .null, .null, .null, .null, .null, .int 0, .int 0, .int 0, .int 0])), (q7, .inl (c7, 48, .inl (fun _ => 0))), (q15, .inl (c7, 12, .inl (fun _ => 0)))] := hD
  refine lv_aload_n hx hb dX3_init_20 rfl (lv_at hl 0 rfl) ?_
  refine lv_bipush (v := 12) hx hb dX3_init_21 (by decide) ?_
  refine va_newa (atype := .int) (a0 := (12, .inl (fun _ => 0))) hx hb (hts _ wq_2) rfl hK hP hD hS hA (fun _ => rfl) (by decide) (by decide) (Nat.le_of_ble_eq_true rfl) (Nat.le_of_ble_eq_true rfl) (Nat.le_of_ble_eq_true rfl) dX3_init_23 (fun q23 c23 H hK hP hD hS => ?_)
  have hP : va_P (dC, dI) vwCl [(h0, .inr (3, [.int 0, .ref q7, .ref q15, .null, .null, .null, .int 0, .null, .null, .null, .null, .null, .int 0, .int 0, .int 0, .int 0])), (q7, .inl (c7, 48, .inl (fun _ => 0))), (q15, .inl (c7, 12, .inl (fun _ => 0))), (q23, .inl (c23, 12, .inl (fun _ => 0)))] H := hP
  have hD : va_D A [(h0, .inr (3, [.int 0, .ref q7, .ref q15, .null, .null, .null, .int 0, .null, .null, .null, .null, .null, .int 0, .int 0, .int 0, .int 0])), (q7, .inl (c7, 48, .inl (fun _ => 0))), (q15, .inl (c7, 12, .inl (fun _ => 0))), (q23, .inl (c23, 12, .inl (fun _ => 0)))] := hD
  have hK : va_K (dC, dI) vwCl [(c7, .int), (c23, .int)] s := hK
  obtain rfl : c7 = c23 := va_inj_int (hK.2 0 _ rfl).2 (hK.2 1 _ rfl).2
  have hK := hK.sub (tys' := [(c7, .int)]) [0] rfl
  have hP : va_P (dC, dI) vwCl [(h0, .inr (3, [.int 0, .ref q7, .ref q15, .null, .null, .null, .int 0, .null, .null, .null, .null, .null, .int 0, .int 0, .int 0, .int 0])), (q7, .inl (c7, 48, .inl (fun _ => 0))), (q15, .inl (c7, 12, .inl (fun _ => 0))), (q23, .inl (c7, 12, .inl (fun _ => 0)))] H := hP
  have hD : va_D A [(h0, .inr (3, [.int 0, .ref q7, .ref q15, .null, .null, .null, .int 0, .null, .null, .null, .null, .null, .int 0, .int 0, .int 0, .int 0])), (q7, .inl (c7, 48, .inl (fun _ => 0))), (q15, .inl (c7, 12, .inl (fun _ => 0))), (q23, .inl (c7, 12, .inl (fun _ => 0)))] := hD
  refine W.widen (k := 3) (n := 72) (Nat.le_of_ble_eq_true rfl) (Nat.le_of_ble_eq_true rfl) ?_
  refine va_putF (D := (dC, dI)) (ci := 3) (v := .ref q23) (ty := .array .int) (C := RX3) (T := TX3) (N := 16) hx hb hts w_u3 tyX3 tyX3_ok nmX3 hown hK hP hD hS 0 rfl rfl 3 (by decide) (hts _ wq_41) (fun _ h9 => h9) rfl hin rfl (by decide +kernel) rfl rfl (Nat.le_of_ble_eq_true rfl) dX3_init_25 (fun H locs hP hD hS => ?_)
  have hP : va_P (dC, dI) vwCl [(h0, .inr (3, [.int 0, .ref q7, .ref q15, .ref q23, .null, .null, .int 0, .null, .null, .null, .null, .null, .int 0, .int 0, .int 0, .int 0])), (q7, .inl (c7, 48, .inl (fun _ => 0))), (q15, .inl (c7, 12, .inl (fun _ => 0))), (q23, .inl (c7, 12, .inl (fun _ => 0)))] H := hP
  have hD : va_D A [(h0, .inr (3, [.int 0, .ref q7, .ref q15, .ref q23, .null, .null, .int 0, .null, .null, .null, .null, .null, .int 0, .int 0, .int 0, .int 0])), (q7, .inl (c7, 48, .inl (fun _ => 0))), (q15, .inl (c7, 12, .inl (fun _ => 0))), (q23, .inl (c7, 12, .inl (fun _ => 0)))] := hD
  refine lv_aload_n hx hb dX3_init_28 rfl (lv_at hl 0 rfl) ?_
  refine lv_bipush (v := 12) hx hb dX3_init_29 (by decide) ?_
  refine va_newa (atype := .int) (a0 := (12, .inl (fun _ => 0))) hx hb (hts _ wq_2) rfl hK hP hD hS hA (fun _ => rfl) (by decide) (by decide) (Nat.le_of_ble_eq_true rfl) (Nat.le_of_ble_eq_true rfl) (Nat.le_of_ble_eq_true rfl) dX3_init_31 (fun q31 c31 H hK hP hD hS => ?_)
  have hP : va_P (dC, dI) vwCl [(h0, .inr (3, [.int 0, .ref q7, .ref q15, .ref q23, .null, .null, .int 0, .null, .null, .null, .null, .null, .int 0, .int 0, .int 0, .int 0])), (q7, .inl (c7, 48, .inl (fun _ => 0))), (q15, .inl (c7, 12, .inl (fun _ => 0))), (q23, .inl (c7, 12, .inl (fun _ => 0))), (q31, .inl (c31, 12, .inl (fun _ => 0)))] H := hP
  have hD : va_D A [(h0, .inr (3, [.int 0, .ref q7, .ref q15, .ref q23, .null, .null, .int 0, .null, .null, .null, .null, .null, .int 0, .int 0, .int 0, .int 0])), (q7, .inl (c7, 48, .inl (fun _ => 0))), (q15, .inl (c7, 12, .inl (fun _ => 0))), (q23, .inl (c7, 12, .inl (fun _ => 0))), (q31, .inl (c31, 12, .inl (fun _ => 0)))] := hD
  have hK : va_K (dC, dI) vwCl [(c7, .int), (c31, .int)] s := hK
  obtain rfl : c7 = c31 := va_inj_int (hK.2 0 _ rfl).2 (hK.2 1 _ rfl).2
  have hK := hK.sub (tys' := [(c7, .int)]) [0] rfl
  have hP : va_P (dC, dI) vwCl [(h0, .inr (3, [.int 0, .ref q7, .ref q15, .ref q23, .null, .null, .int 0, .null, .null, .null, .null, .null, .int 0, .int 0, .int 0, .int 0])), (q7, .inl (c7, 48, .inl (fun _ => 0))), (q15, .inl (c7, 12, .inl (fun _ => 0))), (q23, .inl (c7, 12, .inl (fun _ => 0))), (q31, .inl (c7, 12, .inl (fun _ => 0)))] H := hP
  have hD : va_D A [(h0, .inr (3, [.int 0, .ref q7, .ref q15, .ref q23, .null, .null, .int 0, .null, .null, .null, .null, .null, .int 0, .int 0, .int 0, .int 0])), (q7, .inl (c7, 48, .inl (fun _ => 0))), (q15, .inl (c7, 12, .inl (fun _ => 0))), (q23, .inl (c7, 12, .inl (fun _ => 0))), (q31, .inl (c7, 12, .inl (fun _ => 0)))] := hD
  refine W.widen (k := 4) (n := 84) (Nat.le_of_ble_eq_true rfl) (Nat.le_of_ble_eq_true rfl) ?_
  refine va_putF (D := (dC, dI)) (ci := 3) (v := .ref q31) (ty := .array .int) (C := RX3) (T := TX3) (N := 16) hx hb hts w_u3 tyX3 tyX3_ok nmX3 hown hK hP hD hS 0 rfl rfl 4 (by decide) (hts _ wq_42) (fun _ h9 => h9) rfl hin rfl (by decide +kernel) rfl rfl (Nat.le_of_ble_eq_true rfl) dX3_init_33 (fun H locs hP hD hS => ?_)
  have hP : va_P (dC, dI) vwCl [(h0, .inr (3, [.int 0, .ref q7, .ref q15, .ref q23, .ref q31, .null, .int 0, .null, .null, .null, .null, .null, .int 0, .int 0, .int 0, .int 0])), (q7, .inl (c7, 48, .inl (fun _ => 0))), (q15, .inl (c7, 12, .inl (fun _ => 0))), (q23, .inl (c7, 12, .inl (fun _ => 0))), (q31, .inl (c7, 12, .inl (fun _ => 0)))] H := hP
  have hD : va_D A [(h0, .inr (3, [.int 0, .ref q7, .ref q15, .ref q23, .ref q31, .null, .int 0, .null, .null, .null, .null, .null, .int 0, .int 0, .int 0, .int 0])), (q7, .inl (c7, 48, .inl (fun _ => 0))), (q15, .inl (c7, 12, .inl (fun _ => 0))), (q23, .inl (c7, 12, .inl (fun _ => 0))), (q31, .inl (c7, 12, .inl (fun _ => 0)))] := hD
  refine lv_aload_n hx hb dX3_init_36 rfl (lv_at hl 0 rfl) ?_
  refine lv_bipush (v := 12) hx hb dX3_init_37 (by decide) ?_
  refine va_newa (atype := .int) (a0 := (12, .inl (fun _ => 0))) hx hb (hts _ wq_2) rfl hK hP hD hS hA (fun _ => rfl) (by decide) (by decide) (Nat.le_of_ble_eq_true rfl) (Nat.le_of_ble_eq_true rfl) (Nat.le_of_ble_eq_true rfl) dX3_init_39 (fun q39 c39 H hK hP hD hS => ?_)
  have hP : va_P (dC, dI) vwCl [(h0, .inr (3, [.int 0, .ref q7, .ref q15, .ref q23, .ref q31, .null, .int 0, .null, .null, .null, .null, .null, .int 0, .int 0, .int 0, .int 0])), (q7, .inl (c7, 48, .inl (fun _ => 0))), (q15, .inl (c7, 12, .inl (fun _ => 0))), (q23, .inl (c7, 12, .inl (fun _ => 0))), (q31, .inl (c7, 12, .inl (fun _ => 0))), (q39, .inl (c39, 12, .inl (fun _ => 0)))] H := hP
  have hD : va_D A [(h0, .inr (3, [.int 0, .ref q7, .ref q15, .ref q23, .ref q31, .null, .int 0, .null, .null, .null, .null, .null, .int 0, .int 0, .int 0, .int 0])), (q7, .inl (c7, 48, .inl (fun _ => 0))), (q15, .inl (c7, 12, .inl (fun _ => 0))), (q23, .inl (c7, 12, .inl (fun _ => 0))), (q31, .inl (c7, 12, .inl (fun _ => 0))), (q39, .inl (c39, 12, .inl (fun _ => 0)))] := hD
  have hK : va_K (dC, dI) vwCl [(c7, .int), (c39, .int)] s := hK
  obtain rfl : c7 = c39 := va_inj_int (hK.2 0 _ rfl).2 (hK.2 1 _ rfl).2
  have hK := hK.sub (tys' := [(c7, .int)]) [0] rfl
  have hP : va_P (dC, dI) vwCl [(h0, .inr (3, [.int 0, .ref q7, .ref q15, .ref q23, .ref q31, .null, .int 0, .null, .null, .null, .null, .null, .int 0, .int 0, .int 0, .int 0])), (q7, .inl (c7, 48, .inl (fun _ => 0))), (q15, .inl (c7, 12, .inl (fun _ => 0))), (q23, .inl (c7, 12, .inl (fun _ => 0))), (q31, .inl (c7, 12, .inl (fun _ => 0))), (q39, .inl (c7, 12, .inl (fun _ => 0)))] H := hP
  have hD : va_D A [(h0, .inr (3, [.int 0, .ref q7, .ref q15, .ref q23, .ref q31, .null, .int 0, .null, .null, .null, .null, .null, .int 0, .int 0, .int 0, .int 0])), (q7, .inl (c7, 48, .inl (fun _ => 0))), (q15, .inl (c7, 12, .inl (fun _ => 0))), (q23, .inl (c7, 12, .inl (fun _ => 0))), (q31, .inl (c7, 12, .inl (fun _ => 0))), (q39, .inl (c7, 12, .inl (fun _ => 0)))] := hD
  refine W.widen (k := 5) (n := 96) (Nat.le_of_ble_eq_true rfl) (Nat.le_of_ble_eq_true rfl) ?_
  refine va_putF (D := (dC, dI)) (ci := 3) (v := .ref q39) (ty := .array .int) (C := RX3) (T := TX3) (N := 16) hx hb hts w_u3 tyX3 tyX3_ok nmX3 hown hK hP hD hS 0 rfl rfl 5 (by decide) (hts _ wq_43) (fun _ h9 => h9) rfl hin rfl (by decide +kernel) rfl rfl (Nat.le_of_ble_eq_true rfl) dX3_init_41 (fun H locs hP hD hS => ?_)
  have hP : va_P (dC, dI) vwCl [(h0, .inr (3, [.int 0, .ref q7, .ref q15, .ref q23, .ref q31, .ref q39, .int 0, .null, .null, .null, .null, .null, .int 0, .int 0, .int 0, .int 0])), (q7, .inl (c7, 48, .inl (fun _ => 0))), (q15, .inl (c7, 12, .inl (fun _ => 0))), (q23, .inl (c7, 12, .inl (fun _ => 0))), (q31, .inl (c7, 12, .inl (fun _ => 0))), (q39, .inl (c7, 12, .inl (fun _ => 0)))] H := hP
  have hD : va_D A [(h0, .inr (3, [.int 0, .ref q7, .ref q15, .ref q23, .ref q31, .ref q39, .int 0, .null, .null, .null, .null, .null, .int 0, .int 0, .int 0, .int 0])), (q7, .inl (c7, 48, .inl (fun _ => 0))), (q15, .inl (c7, 12, .inl (fun _ => 0))), (q23, .inl (c7, 12, .inl (fun _ => 0))), (q31, .inl (c7, 12, .inl (fun _ => 0))), (q39, .inl (c7, 12, .inl (fun _ => 0)))] := hD
  refine lv_aload_n hx hb dX3_init_44 rfl (lv_at hl 0 rfl) ?_
  refine lv_bipush (v := 12) hx hb dX3_init_45 (by decide) ?_
  refine va_newa (atype := .int) (a0 := (12, .inl (fun _ => 0))) hx hb (hts _ wq_2) rfl hK hP hD hS hA (fun _ => rfl) (by decide) (by decide) (Nat.le_of_ble_eq_true rfl) (Nat.le_of_ble_eq_true rfl) (Nat.le_of_ble_eq_true rfl) dX3_init_47 (fun q47 c47 H hK hP hD hS => ?_)
  have hP : va_P (dC, dI) vwCl [(h0, .inr (3, [.int 0, .ref q7, .ref q15, .ref q23, .ref q31, .ref q39, .int 0, .null, .null, .null, .null, .null, .int 0, .int 0, .int 0, .int 0])), (q7, .inl (c7, 48, .inl (fun _ => 0))), (q15, .inl (c7, 12, .inl (fun _ => 0))), (q23, .inl (c7, 12, .inl (fun _ => 0))), (q31, .inl (c7, 12, .inl (fun _ => 0))), (q39, .inl (c7, 12, .inl (fun _ => 0))), (q47, .inl (c47, 12, .inl (fun _ => 0)))] H := hP
  have hD : va_D A [(h0, .inr (3, [.int 0, .ref q7, .ref q15, .ref q23, .ref q31, .ref q39, .int 0, .null, .null, .null, .null, .null, .int 0, .int 0, .int 0, .int 0])), (q7, .inl (c7, 48, .inl (fun _ => 0))), (q15, .inl (c7, 12, .inl (fun _ => 0))), (q23, .inl (c7, 12, .inl (fun _ => 0))), (q31, .inl (c7, 12, .inl (fun _ => 0))), (q39, .inl (c7, 12, .inl (fun _ => 0))), (q47, .inl (c47, 12, .inl (fun _ => 0)))] := hD
  have hK : va_K (dC, dI) vwCl [(c7, .int), (c47, .int)] s := hK
  obtain rfl : c7 = c47 := va_inj_int (hK.2 0 _ rfl).2 (hK.2 1 _ rfl).2
  have hK := hK.sub (tys' := [(c7, .int)]) [0] rfl
  have hP : va_P (dC, dI) vwCl [(h0, .inr (3, [.int 0, .ref q7, .ref q15, .ref q23, .ref q31, .ref q39, .int 0, .null, .null, .null, .null, .null, .int 0, .int 0, .int 0, .int 0])), (q7, .inl (c7, 48, .inl (fun _ => 0))), (q15, .inl (c7, 12, .inl (fun _ => 0))), (q23, .inl (c7, 12, .inl (fun _ => 0))), (q31, .inl (c7, 12, .inl (fun _ => 0))), (q39, .inl (c7, 12, .inl (fun _ => 0))), (q47, .inl (c7, 12, .inl (fun _ => 0)))] H := hP
  have hD : va_D A [(h0, .inr (3, [.int 0, .ref q7, .ref q15, .ref q23, .ref q31, .ref q39, .int 0, .null, .null, .null, .null, .null, .int 0, .int 0, .int 0, .int 0])), (q7, .inl (c7, 48, .inl (fun _ => 0))), (q15, .inl (c7, 12, .inl (fun _ => 0))), (q23, .inl (c7, 12, .inl (fun _ => 0))), (q31, .inl (c7, 12, .inl (fun _ => 0))), (q39, .inl (c7, 12, .inl (fun _ => 0))), (q47, .inl (c7, 12, .inl (fun _ => 0)))] := hD
  refine W.widen (k := 6) (n := 108) (Nat.le_of_ble_eq_true rfl) (Nat.le_of_ble_eq_true rfl) ?_
  refine va_putF (D := (dC, dI)) (ci := 3) (v := .ref q47) (ty := .array .int) (C := RX3) (T := TX3) (N := 16) hx hb hts w_u3 tyX3 tyX3_ok nmX3 hown hK hP hD hS 0 rfl rfl 7 (by decide) (hts _ wq_44) (fun _ h9 => h9) rfl hin rfl (by decide +kernel) rfl rfl (Nat.le_of_ble_eq_true rfl) dX3_init_49 (fun H locs hP hD hS => ?_)
  have hP : va_P (dC, dI) vwCl [(h0, .inr (3, [.int 0, .ref q7, .ref q15, .ref q23, .ref q31, .ref q39, .int 0, .ref q47, .null, .null, .null, .null, .int 0, .int 0, .int 0, .int 0])), (q7, .inl (c7, 48, .inl (fun _ => 0))), (q15, .inl (c7, 12, .inl (fun _ => 0))), (q23, .inl (c7, 12, .inl (fun _ => 0))), (q31, .inl (c7, 12, .inl (fun _ => 0))), (q39, .inl (c7, 12, .inl (fun _ => 0))), (q47, .inl (c7, 12, .inl (fun _ => 0)))] H := hP
  have hD : va_D A [(h0, .inr (3, [.int 0, .ref q7, .ref q15, .ref q23, .ref q31, .ref q39, .int 0, .ref q47, .null, .null, .null, .null, .int 0, .int 0, .int 0, .int 0])), (q7, .inl (c7, 48, .inl (fun _ => 0))), (q15, .inl (c7, 12, .inl (fun _ => 0))), (q23, .inl (c7, 12, .inl (fun _ => 0))), (q31, .inl (c7, 12, .inl (fun _ => 0))), (q39, .inl (c7, 12, .inl (fun _ => 0))), (q47, .inl (c7, 12, .inl (fun _ => 0)))] := hD
  refine lv_aload_n hx hb dX3_init_52 rfl (lv_at hl 0 rfl) ?_
  refine lv_bipush (v := 12) hx hb dX3_init_53 (by decide) ?_
  refine va_newa (atype := .int) (a0 := (12, .inl (fun _ => 0))) hx hb (hts _ wq_2) rfl hK hP hD hS hA (fun _ => rfl) (by decide) (by decide) (Nat.le_of_ble_eq_true rfl) (Nat.le_of_ble_eq_true rfl) (Nat.le_of_ble_eq_true rfl) dX3_init_55 (fun q55 c55 H hK hP hD hS => ?_)
  have hP : va_P (dC, dI) vwCl [(h0, .inr (3, [.int 0, .ref q7, .ref q15, .ref q23, .ref q31, .ref q39, .int 0, .ref q47, .null, .null, .null, .null, .int 0, .int 0, .int 0, .int 0])), (q7, .inl (c7, 48, .inl (fun _ => 0))), (q15, .inl (c7, 12, .inl (fun _ => 0))), (q23, .inl (c7, 12, .inl (fun _ => 0))), (q31, .inl (c7, 12, .inl (fun _ => 0))), (q39, .inl (c7, 12, .inl (fun _ => 0))), (q47, .inl (c7, 12, .inl (fun _ => 0))), (q55, .inl (c55, 12, .inl (fun _ => 0)))] H := hP
  have hD : va_D A [(h0, .inr (3, [.int 0, .ref q7, .ref q15, .ref q23, .ref q31, .ref q39, .int 0, .ref q47, .null, .null, .null, .null, .int 0, .int 0, .int 0, .int 0])), (q7, .inl (c7, 48, .inl (fun _ => 0))), (q15, .inl (c7, 12, .inl (fun _ => 0))), (q23, .inl (c7, 12, .inl (fun _ => 0))), (q31, .inl (c7, 12, .inl (fun _ => 0))), (q39, .inl (c7, 12, .inl (fun _ => 0))), (q47, .inl (c7, 12, .inl (fun _ => 0))), (q55, .inl (c55, 12, .inl (fun _ => 0)))] := hD
  have hK : va_K (dC, dI) vwCl [(c7, .int), (c55, .int)] s := hK
  obtain rfl : c7 = c55 := va_inj_int (hK.2 0 _ rfl).2 (hK.2 1 _ rfl).2
  have hK := hK.sub (tys' := [(c7, .int)]) [0] rfl
  have hP : va_P (dC, dI) vwCl [(h0, .inr (3, [.int 0, .ref q7, .ref q15, .ref q23, .ref q31, .ref q39, .int 0, .ref q47, .null, .null, .null, .null, .int 0, .int 0, .int 0, .int 0])), (q7, .inl (c7, 48, .inl (fun _ => 0))), (q15, .inl (c7, 12, .inl (fun _ => 0))), (q23, .inl (c7, 12, .inl (fun _ => 0))), (q31, .inl (c7, 12, .inl (fun _ => 0))), (q39, .inl (c7, 12, .inl (fun _ => 0))), (q47, .inl (c7, 12, .inl (fun _ => 0))), (q55, .inl (c7, 12, .inl (fun _ => 0)))] H := hP
  have hD : va_D A [(h0, .inr (3, [.int 0, .ref q7, .ref q15, .ref q23, .ref q31, .ref q39, .int 0, .ref q47, .null, .null, .null, .null, .int 0, .int 0, .int 0, .int 0])), (q7, .inl (c7, 48, .inl (fun _ => 0))), (q15, .inl (c7, 12, .inl (fun _ => 0))), (q23, .inl (c7, 12, .inl (fun _ => 0))), (q31, .inl (c7, 12, .inl (fun _ => 0))), (q39, .inl (c7, 12, .inl (fun _ => 0))), (q47, .inl (c7, 12, .inl (fun _ => 0))), (q55, .inl (c7, 12, .inl (fun _ => 0)))] := hD
  refine W.widen (k := 7) (n := 120) (Nat.le_of_ble_eq_true rfl) (Nat.le_of_ble_eq_true rfl) ?_
  refine va_putF (D := (dC, dI)) (ci := 3) (v := .ref q55) (ty := .array .int) (C := RX3) (T := TX3) (N := 16) hx hb hts w_u3 tyX3 tyX3_ok nmX3 hown hK hP hD hS 0 rfl rfl 8 (by decide) (hts _ wq_45) (fun _ h9 => h9) rfl hin rfl (by decide +kernel) rfl rfl (Nat.le_of_ble_eq_true rfl) dX3_init_57 (fun H locs hP hD hS => ?_)
  have hP : va_P (dC, dI) vwCl [(h0, .inr (3, [.int 0, .ref q7, .ref q15, .ref q23, .ref q31, .ref q39, .int 0, .ref q47, .ref q55, .null, .null, .null, .int 0, .int 0, .int 0, .int 0])), (q7, .inl (c7, 48, .inl (fun _ => 0))), (q15, .inl (c7, 12, .inl (fun _ => 0))), (q23, .inl (c7, 12, .inl (fun _ => 0))), (q31, .inl (c7, 12, .inl (fun _ => 0))), (q39, .inl (c7, 12, .inl (fun _ => 0))), (q47, .inl (c7, 12, .inl (fun _ => 0))), (q55, .inl (c7, 12, .inl (fun _ => 0)))] H := hP
  have hD : va_D A [(h0, .inr (3, [.int 0, .ref q7, .ref q15, .ref q23, .ref q31, .ref q39, .int 0, .ref q47, .ref q55, .null, .null, .null, .int 0, .int 0, .int 0, .int 0])), (q7, .inl (c7, 48, .inl (fun _ => 0))), (q15, .inl (c7, 12, .inl (fun _ => 0))), (q23, .inl (c7, 12, .inl (fun _ => 0))), (q31, .inl (c7, 12, .inl (fun _ => 0))), (q39, .inl (c7, 12, .inl (fun _ => 0))), (q47, .inl (c7, 12, .inl (fun _ => 0))), (q55, .inl (c7, 12, .inl (fun _ => 0)))] := hD
  refine lv_aload_n hx hb dX3_init_60 rfl (lv_at hl 0 rfl) ?_
  refine lv_bipush (v := 12) hx hb dX3_init_61 (by decide) ?_
  refine va_newa (atype := .int) (a0 := (12, .inl (fun _ => 0))) hx hb (hts _ wq_2) rfl hK hP hD hS hA (fun _ => rfl) (by decide) (by decide) (Nat.le_of_ble_eq_true rfl) (Nat.le_of_ble_eq_true rfl) (Nat.le_of_ble_eq_true rfl) dX3_init_63 (fun q63 c63 H hK hP hD hS => ?_)
  have hP : va_P (dC, dI) vwCl [(h0, .inr (3, [.int 0, .ref q7, .ref q15, .ref q23, .ref q31, .ref q39, .int 0, .ref q47, .ref q55, .null, .null, .null, .int 0, .int 0, .int 0, .int 0])), (q7, .inl (c7, 48, .inl (fun _ => 0))), (q15, .inl (c7, 12, .inl (fun _ => 0))), (q23, .inl (c7, 12, .inl (fun _ => 0))), (q31, .inl (c7, 12, .inl (fun _ => 0))), (q39, .inl (c7, 12, .inl (fun _ => 0))), (q47, .inl (c7, 12, .inl (fun _ => 0))), (q55, .inl (c7, 12, .inl (fun _ => 0))), (q63, .inl (c63, 12, .inl (fun _ => 0)))] H := hP
  have hD : va_D A [(h0, .inr (3, [.int 0, .ref q7, .ref q15, .ref q23, .ref q31, .ref q39, .int 0, .ref q47, .ref q55, .null, .null, .null, .int 0, .int 0, .int 0, .int 0])), (q7, .inl (c7, 48, .inl (fun _ => 0))), (q15, .inl (c7, 12, .inl (fun _ => 0))), (q23, .inl (c7, 12, .inl (fun _ => 0))), (q31, .inl (c7, 12, .inl (fun _ => 0))), (q39, .inl (c7, 12, .inl (fun _ => 0))), (q47, .inl (c7, 12, .inl (fun _ => 0))), (q55, .inl (c7, 12, .inl (fun _ => 0))), (q63, .inl (c63, 12, .inl (fun _ => 0)))] := hD
  have hK : va_K (dC, dI) vwCl [(c7, .int), (c63, .int)] s := hK
  obtain rfl : c7 = c63 := va_inj_int (hK.2 0 _ rfl).2 (hK.2 1 _ rfl).2
  have hK := hK.sub (tys' := [(c7, .int)]) [0] rfl
  have hP : va_P (dC, dI) vwCl [(h0, .inr (3, [.int 0, .ref q7, .ref q15, .ref q23, .ref q31, .ref q39, .int 0, .ref q47, .ref q55, .null, .null, .null, .int 0, .int 0, .int 0, .int 0])), (q7, .inl (c7, 48, .inl (fun _ => 0))), (q15, .inl (c7, 12, .inl (fun _ => 0))), (q23, .inl (c7, 12, .inl (fun _ => 0))), (q31, .inl (c7, 12, .inl (fun _ => 0))), (q39, .inl (c7, 12, .inl (fun _ => 0))), (q47, .inl (c7, 12, .inl (fun _ => 0))), (q55, .inl (c7, 12, .inl (fun _ => 0))), (q63, .inl (c7, 12, .inl (fun _ => 0)))] H := hP
  have hD : va_D A [(h0, .inr (3, [.int 0, .ref q7, .ref q15, .ref q23, .ref q31, .ref q39, .int 0, .ref q47, .ref q55, .null, .null, .null, .int 0, .int 0, .int 0, .int 0])), (q7, .inl (c7, 48, .inl (fun _ => 0))), (q15, .inl (c7, 12, .inl (fun _ => 0))), (q23, .inl (c7, 12, .inl (fun _ => 0))), (q31, .inl (c7, 12, .inl (fun _ => 0))), (q39, .inl (c7, 12, .inl (fun _ => 0))), (q47, .inl (c7, 12, .inl (fun _ => 0))), (q55, .inl (c7, 12, .inl (fun _ => 0))), (q63, .inl (c7, 12, .inl (fun _ => 0)))] := hD
  refine W.widen (k := 8) (n := 132) (Nat.le_of_ble_eq_true rfl) (Nat.le_of_ble_eq_true rfl) ?_
  refine va_putF (D := (dC, dI)) (ci := 3) (v := .ref q63) (ty := .array .int) (C := RX3) (T := TX3) (N := 16) hx hb hts w_u3 tyX3 tyX3_ok nmX3 hown hK hP hD hS 0 rfl rfl 9 (by decide) (hts _ wq_46) (fun _ h9 => h9) rfl hin rfl (by decide +kernel) rfl rfl (Nat.le_of_ble_eq_true rfl) dX3_init_65 (fun H locs hP hD hS => ?_)
  have hP : va_P (dC, dI) vwCl [(h0, .inr (3, [.int 0, .ref q7, .ref q15, .ref q23, .ref q31, .ref q39, .int 0, .ref q47, .ref q55, .ref q63, .null, .null, .int 0, .int 0, .int 0, .int 0])), (q7, .inl (c7, 48, .inl (fun _ => 0))), (q15, .inl (c7, 12, .inl (fun _ => 0))), (q23, .inl (c7, 12, .inl (fun _ => 0))), (q31, .inl (c7, 12, .inl (fun _ => 0))), (q39, .inl (c7, 12, .inl (fun _ => 0))), (q47, .inl (c7, 12, .inl (fun _ => 0))), (q55, .inl (c7, 12, .inl (fun _ => 0))), (q63, .inl (c7, 12, .inl (fun _ => 0)))] H := hP
  have hD : va_D A [(h0, .inr (3, [.int 0, .ref q7, .ref q15, .ref q23, .ref q31, .ref q39, .int 0, .ref q47, .ref q55, .ref q63, .null, .null, .int 0, .int 0, .int 0, .int 0])), (q7, .inl (c7, 48, .inl (fun _ => 0))), (q15, .inl (c7, 12, .inl (fun _ => 0))), (q23, .inl (c7, 12, .inl (fun _ => 0))), (q31, .inl (c7, 12, .inl (fun _ => 0))), (q39, .inl (c7, 12, .inl (fun _ => 0))), (q47, .inl (c7, 12, .inl (fun _ => 0))), (q55, .inl (c7, 12, .inl (fun _ => 0))), (q63, .inl (c7, 12, .inl (fun _ => 0)))] := hD
  refine lv_aload_n hx hb dX3_init_68 rfl (lv_at hl 0 rfl) ?_
  refine lv_bipush (v := 12) hx hb dX3_init_69 (by decide) ?_
  refine va_newa (atype := .int) (a0 := (12, .inl (fun _ => 0))) hx hb (hts _ wq_2) rfl hK hP hD hS hA (fun _ => rfl) (by decide) (by decide) (Nat.le_of_ble_eq_true rfl) (Nat.le_of_ble_eq_true rfl) (Nat.le_of_ble_eq_true rfl) dX3_init_71 (fun q71 c71 H hK hP hD hS => ?_)
  have hP : va_P (dC, dI) vwCl [(h0, .inr (3, [.int 0, .ref q7, .ref q15, .ref q23, .ref q31, .ref q39, .int 0, .ref q47, .ref q55, .ref q63, .null, .null, .int 0, .int 0, .int 0, .int 0])), (q7, .inl (c7, 48, .inl (fun _ => 0))), (q15, .inl (c7, 12, .inl (fun _ => 0))), (q23, .inl (c7, 12, .inl (fun _ => 0))), (q31, .inl (c7, 12, .inl (fun _ => 0))), (q39, .inl (c7, 12, .inl (fun _ => 0))), (q47, .inl (c7, 12, .inl (fun _ => 0))), (q55, .inl (c7, 12, .inl (fun _ => 0))), (q63, .inl (c7, 12, .inl (fun _ => 0))), (q71, .inl (c71, 12, .inl (fun _ => 0)))] H := hP
  have hD : va_D A [(h0, .inr (3, [.int 0, .ref q7, .ref q15, .ref q23, .ref q31, .ref q39, .int 0, .ref q47, .ref q55, .ref q63, .null, .null, .int 0, .int 0, .int 0, .int 0])), (q7, .inl (c7, 48, .inl (fun _ => 0))), (q15, .inl (c7, 12, .inl (fun _ => 0))), (q23, .inl (c7, 12, .inl (fun _ => 0))), (q31, .inl (c7, 12, .inl (fun _ => 0))), (q39, .inl (c7, 12, .inl (fun _ => 0))), (q47, .inl (c7, 12, .inl (fun _ => 0))), (q55, .inl (c7, 12, .inl (fun _ => 0))), (q63, .inl (c7, 12, .inl (fun _ => 0))), (q71, .inl (c71, 12, .inl (fun _ => 0)))] := hD
  have hK : va_K (dC, dI) vwCl [(c7, .int), (c71, .int)] s := hK
  obtain rfl : c7 = c71 := va_inj_int (hK.2 0 _ rfl).2 (hK.2 1 _ rfl).2
  have hK := hK.sub (tys' := [(c7, .int)]) [0] rfl
  have hP : va_P (dC, dI) vwCl [(h0, .inr (3, [.int 0, .ref q7, .ref q15, .ref q23, .ref q31, .ref q39, .int 0, .ref q47, .ref q55, .ref q63, .null, .null, .int 0, .int 0, .int 0, .int 0])), (q7, .inl (c7, 48, .inl (fun _ => 0))), (q15, .inl (c7, 12, .inl (fun _ => 0))), (q23, .inl (c7, 12, .inl (fun _ => 0))), (q31, .inl (c7, 12, .inl (fun _ => 0))), (q39, .inl (c7, 12, .inl (fun _ => 0))), (q47, .inl (c7, 12, .inl (fun _ => 0))), (q55, .inl (c7, 12, .inl (fun _ => 0))), (q63, .inl (c7, 12, .inl (fun _ => 0))), (q71, .inl (c7, 12, .inl (fun _ => 0)))] H := hP
  have hD : va_D A [(h0, .inr (3, [.int 0, .ref q7, .ref q15, .ref q23, .ref q31, .ref q39, .int 0, .ref q47, .ref q55, .ref q63, .null, .null, .int 0, .int 0, .int 0, .int 0])), (q7, .inl (c7, 48, .inl (fun _ => 0))), (q15, .inl (c7, 12, .inl (fun _ => 0))), (q23, .inl (c7, 12, .inl (fun _ => 0))), (q31, .inl (c7, 12, .inl (fun _ => 0))), (q39, .inl (c7, 12, .inl (fun _ => 0))), (q47, .inl (c7, 12, .inl (fun _ => 0))), (q55, .inl (c7, 12, .inl (fun _ => 0))), (q63, .inl (c7, 12, .inl (fun _ => 0))), (q71, .inl (c7, 12, .inl (fun _ => 0)))] := hD
  refine W.widen (k := 9) (n := 144) (Nat.le_of_ble_eq_true rfl) (Nat.le_of_ble_eq_true rfl) ?_
  refine va_putF (D := (dC, dI)) (ci := 3) (v := .ref q71) (ty := .array .int) (C := RX3) (T := TX3) (N := 16) hx hb hts w_u3 tyX3 tyX3_ok nmX3 hown hK hP hD hS 0 rfl rfl 10 (by decide) (hts _ wq_47) (fun _ h9 => h9) rfl hin rfl (by decide +kernel) rfl rfl (Nat.le_of_ble_eq_true rfl) dX3_init_73 (fun H locs hP hD hS => ?_)
  have hP : va_P (dC, dI) vwCl [(h0, .inr (3, [.int 0, .ref q7, .ref q15, .ref q23, .ref q31, .ref q39, .int 0, .ref q47, .ref q55, .ref q63, .ref q71, .null, .int 0, .int 0, .int 0, .int 0])), (q7, .inl (c7, 48, .inl (fun _ => 0))), (q15, .inl (c7, 12, .inl (fun _ => 0))), (q23, .inl (c7, 12, .inl (fun _ => 0))), (q31, .inl (c7, 12, .inl (fun _ => 0))), (q39, .inl (c7, 12, .inl (fun _ => 0))), (q47, .inl (c7, 12, .inl (fun _ => 0))), (q55, .inl (c7, 12, .inl (fun _ => 0))), (q63, .inl (c7, 12, .inl (fun _ => 0))), (q71, .inl (c7, 12, .inl (fun _ => 0)))] H := hP
  have hD : va_D A [(h0, .inr (3, [.int 0, .ref q7, .ref q15, .ref q23, .ref q31, .ref q39, .int 0, .ref q47, .ref q55, .ref q63, .ref q71, .null, .int 0, .int 0, .int 0, .int 0])), (q7, .inl (c7, 48, .inl (fun _ => 0))), (q15, .inl (c7, 12, .inl (fun _ => 0))), (q23, .inl (c7, 12, .inl (fun _ => 0))), (q31, .inl (c7, 12, .inl (fun _ => 0))), (q39, .inl (c7, 12, .inl (fun _ => 0))), (q47, .inl (c7, 12, .inl (fun _ => 0))), (q55, .inl (c7, 12, .inl (fun _ => 0))), (q63, .inl (c7, 12, .inl (fun _ => 0))), (q71, .inl (c7, 12, .inl (fun _ => 0)))] := hD
  refine lv_aload_n hx hb dX3_init_76 rfl (lv_at hl 0 rfl) ?_
  refine lv_bipush (v := 12) hx hb dX3_init_77 (by decide) ?_
  refine va_newa (atype := .int) (a0 := (12, .inl (fun _ => 0))) hx hb (hts _ wq_2) rfl hK hP hD hS hA (fun _ => rfl) (by decide) (by decide) (Nat.le_of_ble_eq_true rfl) (Nat.le_of_ble_eq_true rfl) (Nat.le_of_ble_eq_true rfl) dX3_init_79 (fun q79 c79 H hK hP hD hS => ?_)
  have hP : va_P (dC, dI) vwCl [(h0, .inr (3, [.int 0, .ref q7, .ref q15, .ref q23, .ref q31, .ref q39, .int 0, .ref q47, .ref q55, .ref q63, .ref q71, .null, .int 0, .int 0, .int 0, .int 0])), (q7, .inl (c7, 48, .inl (fun _ => 0))), (q15, .inl (c7, 12, .inl (fun _ => 0))), (q23, .inl (c7, 12, .inl (fun _ => 0))), (q31, .inl (c7, 12, .inl (fun _ => 0))), (q39, .inl (c7, 12, .inl (fun _ => 0))), (q47, .inl (c7, 12, .inl (fun _ => 0))), (q55, .inl (c7, 12, .inl (fun _ => 0))), (q63, .inl (c7, 12, .inl (fun _ => 0))), (q71, .inl (c7, 12, .inl (fun _ => 0))), (q79, .inl (c79, 12, .inl (fun _ => 0)))] H := hP
  have hD : va_D A [(h0, .inr (3, [.int 0, .ref q7, .ref q15, .ref q23, .ref q31, .ref q39, .int 0, .ref q47, .ref q55, .ref q63, .ref q71, .null, .int 0, .int 0, .int 0, .int 0])), (q7, .inl (c7, 48, .inl (fun _ => 0))), (q15, .inl (c7, 12, .inl (fun _ => 0))), (q23, .inl (c7, 12, .inl (fun _ => 0))), (q31, .inl (c7, 12, .inl (fun _ => 0))), (q39, .inl (c7, 12, .inl (fun _ => 0))), (q47, .inl (c7, 12, .inl (fun _ => 0))), (q55, .inl (c7, 12, .inl (fun _ => 0))), (q63, .inl (c7, 12, .inl (fun _ => 0))), (q71, .inl (c7, 12, .inl (fun _ => 0))), (q79, .inl (c79, 12, .inl (fun _ => 0)))] := hD
  have hK : va_K (dC, dI) vwCl [(c7, .int), (c79, .int)] s := hK
  obtain rfl : c7 = c79 := va_inj_int (hK.2 0 _ rfl).2 (hK.2 1 _ rfl).2
  have hK := hK.sub (tys' := [(c7, .int)]) [0] rfl
  have hP : va_P (dC, dI) vwCl [(h0, .inr (3, [.int 0, .ref q7, .ref q15, .ref q23, .ref q31, .ref q39, .int 0, .ref q47, .ref q55, .ref q63, .ref q71, .null, .int 0, .int 0, .int 0, .int 0])), (q7, .inl (c7, 48, .inl (fun _ => 0))), (q15, .inl (c7, 12, .inl (fun _ => 0))), (q23, .inl (c7, 12, .inl (fun _ => 0))), (q31, .inl (c7, 12, .inl (fun _ => 0))), (q39, .inl (c7, 12, .inl (fun _ => 0))), (q47, .inl (c7, 12, .inl (fun _ => 0))), (q55, .inl (c7, 12, .inl (fun _ => 0))), (q63, .inl (c7, 12, .inl (fun _ => 0))), (q71, .inl (c7, 12, .inl (fun _ => 0))), (q79, .inl (c7, 12, .inl (fun _ => 0)))] H := hP
  have hD : va_D A [(h0, .inr (3, [.int 0, .ref q7, .ref q15, .ref q23, .ref q31, .ref q39, .int 0, .ref q47, .ref q55, .ref q63, .ref q71, .null, .int 0, .int 0, .int 0, .int 0])), (q7, .inl (c7, 48, .inl (fun _ => 0))), (q15, .inl (c7, 12, .inl (fun _ => 0))), (q23, .inl (c7, 12, .inl (fun _ => 0))), (q31, .inl (c7, 12, .inl (fun _ => 0))), (q39, .inl (c7, 12, .inl (fun _ => 0))), (q47, .inl (c7, 12, .inl (fun _ => 0))), (q55, .inl (c7, 12, .inl (fun _ => 0))), (q63, .inl (c7, 12, .inl (fun _ => 0))), (q71, .inl (c7, 12, .inl (fun _ => 0))), (q79, .inl (c7, 12, .inl (fun _ => 0)))] := hD
  refine W.widen (k := 10) (n := 156) (Nat.le_of_ble_eq_true rfl) (Nat.le_of_ble_eq_true rfl) ?_
  refine va_putF (D := (dC, dI)) (ci := 3) (v := .ref q79) (ty := .array .int) (C := RX3) (T := TX3) (N := 16) hx hb hts w_u3 tyX3 tyX3_ok nmX3 hown hK hP hD hS 0 rfl rfl 11 (by decide) (hts _ wq_48) (fun _ h9 => h9) rfl hin rfl (by decide +kernel) rfl rfl (Nat.le_of_ble_eq_true rfl) dX3_init_81 (fun H locs hP hD hS => ?_)
  have hP : va_P (dC, dI) vwCl [(h0, .inr (3, [.int 0, .ref q7, .ref q15, .ref q23, .ref q31, .ref q39, .int 0, .ref q47, .ref q55, .ref q63, .ref q71, .ref q79, .int 0, .int 0, .int 0, .int 0])), (q7, .inl (c7, 48, .inl (fun _ => 0))), (q15, .inl (c7, 12, .inl (fun _ => 0))), (q23, .inl (c7, 12, .inl (fun _ => 0))), (q31, .inl (c7, 12, .inl (fun _ => 0))), (q39, .inl (c7, 12, .inl (fun _ => 0))), (q47, .inl (c7, 12, .inl (fun _ => 0))), (q55, .inl (c7, 12, .inl (fun _ => 0))), (q63, .inl (c7, 12, .inl (fun _ => 0))), (q71, .inl (c7, 12, .inl (fun _ => 0))), (q79, .inl (c7, 12, .inl (fun _ => 0)))] H := hP
  have hD : va_D A [(h0, .inr (3, [.int 0, .ref q7, .ref q15, .ref q23, .ref q31, .ref q39, .int 0, .ref q47, .ref q55, .ref q63, .ref q71, .ref q79, .int 0, .int 0, .int 0, .int 0])), (q7, .inl (c7, 48, .inl (fun _ => 0))), (q15, .inl (c7, 12, .inl (fun _ => 0))), (q23, .inl (c7, 12, .inl (fun _ => 0))), (q31, .inl (c7, 12, .inl (fun _ => 0))), (q39, .inl (c7, 12, .inl (fun _ => 0))), (q47, .inl (c7, 12, .inl (fun _ => 0))), (q55, .inl (c7, 12, .inl (fun _ => 0))), (q63, .inl (c7, 12, .inl (fun _ => 0))), (q71, .inl (c7, 12, .inl (fun _ => 0))), (q79, .inl (c7, 12, .inl (fun _ => 0)))] := hD
  refine lv_aload_n hx hb dX3_init_84 rfl (lv_at hl 0 rfl) ?_
  refine lv_bipush (v := 20) hx hb dX3_init_85 (by decide) ?_
  refine va_put (D := (dC, dI)) (ci := 3) (v := .int 20) (ty := .int) (C := RX3) (T := TX3) (N := 16) hx hb hts w_u3 tyX3 tyX3_ok nmX3 hown hK hP hD hS 0 rfl rfl 13 (by decide) (hts _ wq_49) (fun _ h9 => h9) rfl (by decide +kernel) rfl rfl (Nat.le_of_ble_eq_true rfl) dX3_init_87 (fun H locs hP hD hS => ?_)
  have hP : va_P (dC, dI) vwCl [(h0, .inr (3, [.int 0, .ref q7, .ref q15, .ref q23, .ref q31, .ref q39, .int 0, .ref q47, .ref q55, .ref q63, .ref q71, .ref q79, .int 0, .int 20, .int 0, .int 0])), (q7, .inl (c7, 48, .inl (fun _ => 0))), (q15, .inl (c7, 12, .inl (fun _ => 0))), (q23, .inl (c7, 12, .inl (fun _ => 0))), (q31, .inl (c7, 12, .inl (fun _ => 0))), (q39, .inl (c7, 12, .inl (fun _ => 0))), (q47, .inl (c7, 12, .inl (fun _ => 0))), (q55, .inl (c7, 12, .inl (fun _ => 0))), (q63, .inl (c7, 12, .inl (fun _ => 0))), (q71, .inl (c7, 12, .inl (fun _ => 0))), (q79, .inl (c7, 12, .inl (fun _ => 0)))] H := hP
  have hD : va_D A [(h0, .inr (3, [.int 0, .ref q7, .ref q15, .ref q23, .ref q31, .ref q39, .int 0, .ref q47, .ref q55, .ref q63, .ref q71, .ref q79, .int 0, .int 20, .int 0, .int 0])), (q7, .inl (c7, 48, .inl (fun _ => 0))), (q15, .inl (c7, 12, .inl (fun _ => 0))), (q23, .inl (c7, 12, .inl (fun _ => 0))), (q31, .inl (c7, 12, .inl (fun _ => 0))), (q39, .inl (c7, 12, .inl (fun _ => 0))), (q47, .inl (c7, 12, .inl (fun _ => 0))), (q55, .inl (c7, 12, .inl (fun _ => 0))), (q63, .inl (c7, 12, .inl (fun _ => 0))), (q71, .inl (c7, 12, .inl (fun _ => 0))), (q79, .inl (c7, 12, .inl (fun _ => 0)))] := hD
  refine lv_aload_n hx hb dX3_init_90 rfl (lv_at hl 0 rfl) ?_
  refine lv_bipush (v := 60) hx hb dX3_init_91 (by decide) ?_
  refine va_put (D := (dC, dI)) (ci := 3) (v := .int 60) (ty := .int) (C := RX3) (T := TX3) (N := 16) hx hb hts w_u3 tyX3 tyX3_ok nmX3 hown hK hP hD hS 0 rfl rfl 14 (by decide) (hts _ wq_50) (fun _ h9 => h9) rfl (by decide +kernel) rfl rfl (Nat.le_of_ble_eq_true rfl) dX3_init_93 (fun H locs hP hD hS => ?_)
  have hP : va_P (dC, dI) vwCl [(h0, .inr (3, [.int 0, .ref q7, .ref q15, .ref q23, .ref q31, .ref q39, .int 0, .ref q47, .ref q55, .ref q63, .ref q71, .ref q79, .int 0, .int 20, .int 60, .int 0])), (q7, .inl (c7, 48, .inl (fun _ => 0))), (q15, .inl (c7, 12, .inl (fun _ => 0))), (q23, .inl (c7, 12, .inl (fun _ => 0))), (q31, .inl (c7, 12, .inl (fun _ => 0))), (q39, .inl (c7, 12, .inl (fun _ => 0))), (q47, .inl (c7, 12, .inl (fun _ => 0))), (q55, .inl (c7, 12, .inl (fun _ => 0))), (q63, .inl (c7, 12, .inl (fun _ => 0))), (q71, .inl (c7, 12, .inl (fun _ => 0))), (q79, .inl (c7, 12, .inl (fun _ => 0)))] H := hP
  have hD : va_D A [(h0, .inr (3, [.int 0, .ref q7, .ref q15, .ref q23, .ref q31, .ref q39, .int 0, .ref q47, .ref q55, .ref q63, .ref q71, .ref q79, .int 0, .int 20, .int 60, .int 0])), (q7, .inl (c7, 48, .inl (fun _ => 0))), (q15, .inl (c7, 12, .inl (fun _ => 0))), (q23, .inl (c7, 12, .inl (fun _ => 0))), (q31, .inl (c7, 12, .inl (fun _ => 0))), (q39, .inl (c7, 12, .inl (fun _ => 0))), (q47, .inl (c7, 12, .inl (fun _ => 0))), (q55, .inl (c7, 12, .inl (fun _ => 0))), (q63, .inl (c7, 12, .inl (fun _ => 0))), (q71, .inl (c7, 12, .inl (fun _ => 0))), (q79, .inl (c7, 12, .inl (fun _ => 0)))] := hD
  obtain ⟨u0, hu0⟩ : ∃ u : (Nat → Nat) × ClassId, u = ((fun j => ([q7, q15, q23, q31, q39, q47, q55, q63, q71, q79] : List Nat).getD j 0), c7) := ⟨_, rfl⟩
  have hP9 : va_P (dC, dI) vwCl [(h0, .inr (3, [.int 0, .ref (u0.1 0), .ref (u0.1 1), .ref (u0.1 2), .ref (u0.1 3), .ref (u0.1 4), .int 0, .ref (u0.1 5), .ref (u0.1 6), .ref (u0.1 7), .ref (u0.1 8), .ref (u0.1 9), .int 0, .int 20, .int 60, .int 0])), ((u0.1 0), .inl (u0.2, 48, .inl (fun _ => 0))), ((u0.1 1), .inl (u0.2, 12, .inl (fun _ => 0))), ((u0.1 2), .inl (u0.2, 12, .inl (fun _ => 0))), ((u0.1 3), .inl (u0.2, 12, .inl (fun _ => 0))), ((u0.1 4), .inl (u0.2, 12, .inl (fun _ => 0))), ((u0.1 5), .inl (u0.2, 12, .inl (fun _ => 0))), ((u0.1 6), .inl (u0.2, 12, .inl (fun _ => 0))), ((u0.1 7), .inl (u0.2, 12, .inl (fun _ => 0))), ((u0.1 8), .inl (u0.2, 12, .inl (fun _ => 0))), ((u0.1 9), .inl (u0.2, 12, .inl (fun _ => 0)))] H := by rw [hu0]; exact hP.sub [0, 1, 2, 3, 4, 5, 6, 7, 8, 9, 10] rfl
  have hD9 : va_D A [(h0, .inr (3, [.int 0, .ref (u0.1 0), .ref (u0.1 1), .ref (u0.1 2), .ref (u0.1 3), .ref (u0.1 4), .int 0, .ref (u0.1 5), .ref (u0.1 6), .ref (u0.1 7), .ref (u0.1 8), .ref (u0.1 9), .int 0, .int 20, .int 60, .int 0])), ((u0.1 0), .inl (u0.2, 48, .inl (fun _ => 0))), ((u0.1 1), .inl (u0.2, 12, .inl (fun _ => 0))), ((u0.1 2), .inl (u0.2, 12, .inl (fun _ => 0))), ((u0.1 3), .inl (u0.2, 12, .inl (fun _ => 0))), ((u0.1 4), .inl (u0.2, 12, .inl (fun _ => 0))), ((u0.1 5), .inl (u0.2, 12, .inl (fun _ => 0))), ((u0.1 6), .inl (u0.2, 12, .inl (fun _ => 0))), ((u0.1 7), .inl (u0.2, 12, .inl (fun _ => 0))), ((u0.1 8), .inl (u0.2, 12, .inl (fun _ => 0))), ((u0.1 9), .inl (u0.2, 12, .inl (fun _ => 0)))] := by rw [hu0]; exact hD.sub [0, 1, 2, 3, 4, 5, 6, 7, 8, 9, 10] (by decide) rfl
  have hK9 : va_K (dC, dI) vwCl [(u0.2, .int)] s := by rw [hu0]; exact hK.sub [0] rfl
  exact W.vret hx hb hr (fun t ht hW => ⟨⟨u0, rfl, trivial, by rw [ht]; exact hP9, va_K.moved hW.alike hK9, hD9⟩, hS.F ht⟩) hS.2.2 dX3_init_96
set_option maxHeartbeats 16000000 in
set_option maxRecDepth 100000 in
theorem c_Pen_init (l : Launch) (dC : Nat → ClassId) (dI : Nat → Nat → Nat) (h0 : Nat) (sz : Nat) : Met l yX1_init wI_X1 ({ frames := 1, cells := 3, slots := 30, locals := 12 }) (va_Pc [.ref h0] (fun U => U.heap.size = sz ∧ va_P (dC, dI) vwCl [(h0, .inr (1, [.null, .int 0, .int 0, .null, .null]))] U.heap ∧ va_K (dC, dI) vwCl [] U ∧ va_D (fun _ => True) [(h0, .inr (1, [.null, .int 0, .int 0, .null, .null]))])) (va_Qv (fun u : (Nat → Nat) × ClassId => True) (fun u t => va_P (dC, dI) vwCl [(h0, .inr (1, [.ref (u.1 0), .int 0, .int 0, .ref (u.1 1), .ref (u.1 2)])), ((u.1 0), .inl (u.2, 6, .inl (fun _ => 0))), ((u.1 1), .inl (u.2, 12, .inl (fun _ => 0))), ((u.1 2), .inl (u.2, 12, .inl (fun _ => 0)))] t.heap ∧ va_K (dC, dI) vwCl [(u.2, .int)] t ∧ va_D (va_A [(h0, .inr (1, [.null, .int 0, .int 0, .null, .null]))] sz) [(h0, .inr (1, [.ref (u.1 0), .int 0, .int 0, .ref (u.1 1), .ref (u.1 2)])), ((u.1 0), .inl (u.2, 6, .inl (fun _ => 0))), ((u.1 1), .inl (u.2, 12, .inl (fun _ => 0))), ((u.1 2), .inl (u.2, 12, .inl (fun _ => 0)))]) (va_A [(h0, .inr (1, [.null, .int 0, .int 0, .null, .null]))] sz)) 3 30 (va_A [(h0, .inr (1, [.null, .int 0, .int 0, .null, .null]))] sz) := by
  refine Met.ofW (cc := cX1_init) (maxL := 1) (ret := none) (by decide) rfl ?_
  intro p e s m args below meth c s₁ B hml hv
  obtain ⟨rfl, hsz, hP, hK, hD0⟩ := hv
  have hx := B.exec
  have hb := B.bytes
  have hr := B.returns
  have hts0 := atoms_spec (ws := wI_X1) B.pre
  have hts : ∀ w ∈ gw, w.before ([.ref h0] : List Value).toArray s = true := fun w h => hts0 w (List.mem_cons_of_mem _ h)
  have hown : s.vm.findClass RX1 = some m.cls := findClass_of_methodNamed B.named
  have hlocks := B.notSynchronized
  have hin : meth.name = "<init>" := (name_of_methodNamed B.named B.method).1
  subst hsz
  have hD := hD0.self (sz := s.heap.size)
  generalize hAe : va_A [(h0, .inr (1, [.null, .int 0, .int 0, .null, .null]))] s.heap.size = A at hD ⊢
  have hA : ∀ q : Nat, s.heap.size ≤ q → A q := fun q h => by rw [← hAe]; exact Or.inr h
  have hS : va_S A s.heap s.heap [] := va_S.rf
  have hP : va_P (dC, dI) vwCl [(h0, .inr (1, [.null, .int 0, .int 0, .null, .null]))] s.heap := hP
  have hl := lv_entry ([.ref h0]) (n := 1) (Nat.le_of_ble_eq_true rfl)
  rw [lg_entry_eq]
  generalize (lg_sl ([.ref h0]) ++ List.replicate (1 - (lg_sl ([.ref h0])).length) Slot.unset).toArray = ls at hl ⊢
  have hl : lv_has ls 1 [(0, .ref h0)] := hl
  refine lv_aload_n hx hb dX1_init_0 rfl (lv_at hl 0 rfl) ?_
  refine W.objInit hx hb hown (hts _ wq_51) (hts _ wq_0) (hts _ wq_1) rfl (by rw [hml]; exact hl.1) rfl dX1_init_1 (Nat.le_of_ble_eq_true rfl) (Nat.le_of_ble_eq_true rfl) ?_
  refine W.eq (g2 := F0 m 4 ls []) rfl ?_
  refine lv_aload_n hx hb dX1_init_4 rfl (lv_at hl 0 rfl) ?_
  refine lv_bipush (v := 6) hx hb dX1_init_5 (by decide) ?_
  refine va_newa (atype := .int) (a0 := (6, .inl (fun _ => 0))) hx hb (hts _ wq_2) rfl hK hP hD hS hA (fun _ => rfl) (by decide) (by decide) (Nat.le_of_ble_eq_true rfl) (Nat.le_of_ble_eq_true rfl) (Nat.le_of_ble_eq_true rfl) dX1_init_7 (fun q7 c7 H hK hP hD hS => ?_)
  have hP : va_P (dC, dI) vwCl [(h0, .inr (1, [.null, .int 0, .int 0, .null, .null])), (q7, .inl (c7, 6, .inl (fun _ => 0)))] H := hP
  have hD : va_D A [(h0, .inr (1, [.null, .int 0, .int 0, .null, .null])), (q7, .inl (c7, 6, .inl (fun _ => 0)))] := hD
  have hK : va_K (dC, dI) vwCl [(c7, .int)] s := hK
  refine W.widen (k := 1) (n := 6) (Nat.le_of_ble_eq_true rfl) (Nat.le_of_ble_eq_true rfl) ?_
  refine va_putF (D := (dC, dI)) (ci := 1) (v := .ref q7) (ty := .array .int) (C := RX1) (T := TX1) (N := 5) hx hb hts w_u1 tyX1 tyX1_ok nmX1 hown hK hP hD hS 0 rfl rfl 0 (by decide) (hts _ wq_52) (fun _ h9 => h9) rfl hin rfl (by decide +kernel) rfl rfl (Nat.le_of_ble_eq_true rfl) dX1_init_9 (fun H locs hP hD hS => ?_)
  have hP : va_P (dC, dI) vwCl [(h0, .inr (1, [.ref q7, .int 0, .int 0, .null, .null])), (q7, .inl (c7, 6, .inl (fun _ => 0)))] H := hP
  have hD : va_D A [(h0, .inr (1, [.ref q7, .int 0, .int 0, .null, .null])), (q7, .inl (c7, 6, .inl (fun _ => 0)))] := hD
  refine lv_aload_n hx hb dX1_init_12 rfl (lv_at hl 0 rfl) ?_
  refine lv_bipush (v := 12) hx hb dX1_init_13 (by decide) ?_
  refine va_newa (atype := .int) (a0 := (12, .inl (fun _ => 0))) hx hb (hts _ wq_2) rfl hK hP hD hS hA (fun _ => rfl) (by decide) (by decide) (Nat.le_of_ble_eq_true rfl) (Nat.le_of_ble_eq_true rfl) (Nat.le_of_ble_eq_true rfl) dX1_init_15 (fun q15 c15 H hK hP hD hS => ?_)
  have hP : va_P (dC, dI) vwCl [(h0, .inr (1, [.ref q7, .int 0, .int 0, .null, .null])), (q7, .inl (c7, 6, .inl (fun _ => 0))), (q15, .inl (c15, 12, .inl (fun _ => 0)))] H := hP
  have hD : va_D A [(h0, .inr (1, [.ref q7, .int 0, .int 0, .null, .null])), (q7, .inl (c7, 6, .inl (fun _ => 0))), (q15, .inl (c15, 12, .inl (fun _ => 0)))] := hD
  have hK : va_K (dC, dI) vwCl [(c7, .int), (c15, .int)] s := hK
  obtain rfl : c7 = c15 := va_inj_int (hK.2 0 _ rfl).2 (hK.2 1 _ rfl).2
  have hK := hK.sub (tys' := [(c7, .int)]) [0] rfl
  have hP : va_P (dC, dI) vwCl [(h0, .inr (1, [.ref q7, .int 0, .int 0, .null, .null])), (q7, .inl (c7, 6, .inl (fun _ => 0))), (q15, .inl (c7, 12, .inl (fun _ => 0)))] H := hP
  have hD : va_D A [(h0, .inr (1, [.ref q7, .int 0, .int 0, .null, .null])), (q7, .inl (c7, 6, .inl (fun _ => 0))), (q15, .inl (c7, 12, .inl (fun _ => 0)))] := hD
  refine W.widen (k := 2) (n := 18) (Nat.le_of_ble_eq_true rfl) (Nat.le_of_ble_eq_true rfl) ?_
  refine va_putF (D := (dC, dI)) (ci := 1) (v := .ref q15) (ty := .array .int) (C := RX1) (T := TX1) (N := 5) hx hb hts w_u1 tyX1 tyX1_ok nmX1 hown hK hP hD hS 0 rfl rfl 3 (by decide) (hts _ wq_53) (fun _ h9 => h9) rfl hin rfl (by decide +kernel) rfl rfl (Nat.le_of_ble_eq_true rfl) dX1_init_17 (fun H locs hP hD hS => ?_)
  have hP : va_P (dC, dI) vwCl [(h0, .inr (1, [.ref q7, .int 0, .int 0, .ref q15, .null])), (q7, .inl (c7, 6, .inl (fun _ => 0))), (q15, .inl (c7, 12, .inl (fun _ => 0)))] H := hP
  have hD : va_D A [(h0, .inr (1, [.ref q7, .int 0, .int 0, .ref q15, .null])), (q7, .inl (c7, 6, .inl (fun _ => 0))), (q15, .inl (c7, 12, .inl (fun _ => 0)))] := hD
  refine lv_aload_n hx hb dX1_init_20 rfl (lv_at hl 0 rfl) ?_
  refine lv_bipush (v := 12) hx hb dX1_init_21 (by decide) ?_
  refine va_newa (atype := .int) (a0 := (12, .inl (fun _ => 0))) hx hb (hts _ wq_2) rfl hK hP hD hS hA (fun _ => rfl) (by decide) (by decide) (Nat.le_of_ble_eq_true rfl) (Nat.le_of_ble_eq_true rfl) (Nat.le_of_ble_eq_true rfl) dX1_init_23 (fun q23 c23 H hK hP hD hS => ?_)
  have hP : va_P (dC, dI) vwCl [(h0, .inr (1, [.ref q7, .int 0, .int 0, .ref q15, .null])), (q7, .inl (c7, 6, .inl (fun _ => 0))), (q15, .inl (c7, 12, .inl (fun _ => 0))), (q23, .inl (c23, 12, .inl (fun _ => 0)))] H := hP
  have hD : va_D A [(h0, .inr (1, [.ref q7, .int 0, .int 0, .ref q15, .null])), (q7, .inl (c7, 6, .inl (fun _ => 0))), (q15, .inl (c7, 12, .inl (fun _ => 0))), (q23, .inl (c23, 12, .inl (fun _ => 0)))] := hD
  have hK : va_K (dC, dI) vwCl [(c7, .int), (c23, .int)] s := hK
  obtain rfl : c7 = c23 := va_inj_int (hK.2 0 _ rfl).2 (hK.2 1 _ rfl).2
  have hK := hK.sub (tys' := [(c7, .int)]) [0] rfl
  have hP : va_P (dC, dI) vwCl [(h0, .inr (1, [.ref q7, .int 0, .int 0, .ref q15, .null])), (q7, .inl (c7, 6, .inl (fun _ => 0))), (q15, .inl (c7, 12, .inl (fun _ => 0))), (q23, .inl (c7, 12, .inl (fun _ => 0)))] H := hP
  have hD : va_D A [(h0, .inr (1, [.ref q7, .int 0, .int 0, .ref q15, .null])), (q7, .inl (c7, 6, .inl (fun _ => 0))), (q15, .inl (c7, 12, .inl (fun _ => 0))), (q23, .inl (c7, 12, .inl (fun _ => 0)))] := hD
  refine W.widen (k := 3) (n := 30) (Nat.le_of_ble_eq_true rfl) (Nat.le_of_ble_eq_true rfl) ?_
  refine va_putF (D := (dC, dI)) (ci := 1) (v := .ref q23) (ty := .array .int) (C := RX1) (T := TX1) (N := 5) hx hb hts w_u1 tyX1 tyX1_ok nmX1 hown hK hP hD hS 0 rfl rfl 4 (by decide) (hts _ wq_54) (fun _ h9 => h9) rfl hin rfl (by decide +kernel) rfl rfl (Nat.le_of_ble_eq_true rfl) dX1_init_25 (fun H locs hP hD hS => ?_)
  have hP : va_P (dC, dI) vwCl [(h0, .inr (1, [.ref q7, .int 0, .int 0, .ref q15, .ref q23])), (q7, .inl (c7, 6, .inl (fun _ => 0))), (q15, .inl (c7, 12, .inl (fun _ => 0))), (q23, .inl (c7, 12, .inl (fun _ => 0)))] H := hP
  have hD : va_D A [(h0, .inr (1, [.ref q7, .int 0, .int 0, .ref q15, .ref q23])), (q7, .inl (c7, 6, .inl (fun _ => 0))), (q15, .inl (c7, 12, .inl (fun _ => 0))), (q23, .inl (c7, 12, .inl (fun _ => 0)))] := hD
  obtain ⟨u0, hu0⟩ : ∃ u : (Nat → Nat) × ClassId, u = ((fun j => ([q7, q15, q23] : List Nat).getD j 0), c7) := ⟨_, rfl⟩
  have hP9 : va_P (dC, dI) vwCl [(h0, .inr (1, [.ref (u0.1 0), .int 0, .int 0, .ref (u0.1 1), .ref (u0.1 2)])), ((u0.1 0), .inl (u0.2, 6, .inl (fun _ => 0))), ((u0.1 1), .inl (u0.2, 12, .inl (fun _ => 0))), ((u0.1 2), .inl (u0.2, 12, .inl (fun _ => 0)))] H := by rw [hu0]; exact hP.sub [0, 1, 2, 3] rfl
  have hD9 : va_D A [(h0, .inr (1, [.ref (u0.1 0), .int 0, .int 0, .ref (u0.1 1), .ref (u0.1 2)])), ((u0.1 0), .inl (u0.2, 6, .inl (fun _ => 0))), ((u0.1 1), .inl (u0.2, 12, .inl (fun _ => 0))), ((u0.1 2), .inl (u0.2, 12, .inl (fun _ => 0)))] := by rw [hu0]; exact hD.sub [0, 1, 2, 3] (by decide) rfl
  have hK9 : va_K (dC, dI) vwCl [(u0.2, .int)] s := by rw [hu0]; exact hK.sub [0] rfl
  exact W.vret hx hb hr (fun t ht hW => ⟨⟨u0, rfl, trivial, by rw [ht]; exact hP9, va_K.moved hW.alike hK9, hD9⟩, hS.F ht⟩) hS.2.2 dX1_init_28
set_option maxHeartbeats 16000000 in
set_option maxRecDepth 100000 in
theorem c_Planner_init (l : Launch) (dC : Nat → ClassId) (dI : Nat → Nat → Nat) (h0 : Nat) (sz : Nat) (h1 h2 : Nat) : Met l yX2_init wI_X2 ({ frames := 1, cells := 2, slots := 12, locals := 12 }) (va_Pc [.ref h0, .ref h1, .ref h2] (fun U => U.heap.size = sz ∧ va_P (dC, dI) vwCl [(h0, .inr (2, [.null, .int 0, .null, .null, .null]))] U.heap ∧ va_K (dC, dI) vwCl [] U ∧ va_D (fun _ => True) [(h0, .inr (2, [.null, .int 0, .null, .null, .null]))])) (va_Qv (fun u : (Nat → Nat) × ClassId => True) (fun u t => va_P (dC, dI) vwCl [(h0, .inr (2, [.ref (u.1 0), .int 0, .ref (u.1 1), .ref h1, .ref h2])), ((u.1 0), .inl (u.2, 6, .inl (fun _ => 0))), ((u.1 1), .inl (u.2, 6, .inl (fun _ => 0)))] t.heap ∧ va_K (dC, dI) vwCl [(u.2, .int)] t ∧ va_D (va_A [(h0, .inr (2, [.null, .int 0, .null, .null, .null]))] sz) [(h0, .inr (2, [.ref (u.1 0), .int 0, .ref (u.1 1), .ref h1, .ref h2])), ((u.1 0), .inl (u.2, 6, .inl (fun _ => 0))), ((u.1 1), .inl (u.2, 6, .inl (fun _ => 0)))]) (va_A [(h0, .inr (2, [.null, .int 0, .null, .null, .null]))] sz)) 2 12 (va_A [(h0, .inr (2, [.null, .int 0, .null, .null, .null]))] sz) := by
  refine Met.ofW (cc := cX2_init) (maxL := 3) (ret := none) (by decide) rfl ?_
  intro p e s m args below meth c s₁ B hml hv
  obtain ⟨rfl, hsz, hP, hK, hD0⟩ := hv
  have hx := B.exec
  have hb := B.bytes
  have hr := B.returns
  have hts0 := atoms_spec (ws := wI_X2) B.pre
  have hts : ∀ w ∈ gw, w.before ([.ref h0, .ref h1, .ref h2] : List Value).toArray s = true := fun w h => hts0 w (List.mem_cons_of_mem _ h)
  have hown : s.vm.findClass RX2 = some m.cls := findClass_of_methodNamed B.named
  have hlocks := B.notSynchronized
  have hin : meth.name = "<init>" := (name_of_methodNamed B.named B.method).1
  subst hsz
  have hD := hD0.self (sz := s.heap.size)
  generalize hAe : va_A [(h0, .inr (2, [.null, .int 0, .null, .null, .null]))] s.heap.size = A at hD ⊢
  have hA : ∀ q : Nat, s.heap.size ≤ q → A q := fun q h => by rw [← hAe]; exact Or.inr h
  have hS : va_S A s.heap s.heap [] := va_S.rf
  have hP : va_P (dC, dI) vwCl [(h0, .inr (2, [.null, .int 0, .null, .null, .null]))] s.heap := hP
  have hl := lv_entry ([.ref h0, .ref h1, .ref h2]) (n := 3) (Nat.le_of_ble_eq_true rfl)
  rw [lg_entry_eq]
  generalize (lg_sl ([.ref h0, .ref h1, .ref h2]) ++ List.replicate (3 - (lg_sl ([.ref h0, .ref h1, .ref h2])).length) Slot.unset).toArray = ls at hl ⊢
  have hl : lv_has ls 3 [(0, .ref h0), (1, .ref h1), (2, .ref h2)] := hl
  refine lv_aload_n hx hb dX2_init_0 rfl (lv_at hl 0 rfl) ?_
  refine W.objInit hx hb hown (hts _ wq_55) (hts _ wq_0) (hts _ wq_1) rfl (by rw [hml]; exact hl.1) rfl dX2_init_1 (Nat.le_of_ble_eq_true rfl) (Nat.le_of_ble_eq_true rfl) ?_
  refine W.eq (g2 := F0 m 4 ls []) rfl ?_
  refine lv_aload_n hx hb dX2_init_4 rfl (lv_at hl 0 rfl) ?_
  refine lv_bipush (v := 6) hx hb dX2_init_5 (by decide) ?_
  refine va_newa (atype := .int) (a0 := (6, .inl (fun _ => 0))) hx hb (hts _ wq_2) rfl hK hP hD hS hA (fun _ => rfl) (by decide) (by decide) (Nat.le_of_ble_eq_true rfl) (Nat.le_of_ble_eq_true rfl) (Nat.le_of_ble_eq_true rfl) dX2_init_7 (fun q7 c7 H hK hP hD hS => ?_)
  have hP : va_P (dC, dI) vwCl [(h0, .inr (2, [.null, .int 0, .null, .null, .null])), (q7, .inl (c7, 6, .inl (fun _ => 0)))] H := hP
  have hD : va_D A [(h0, .inr (2, [.null, .int 0, .null, .null, .null])), (q7, .inl (c7, 6, .inl (fun _ => 0)))] := hD
  have hK : va_K (dC, dI) vwCl [(c7, .int)] s := hK
  refine W.widen (k := 1) (n := 6) (Nat.le_of_ble_eq_true rfl) (Nat.le_of_ble_eq_true rfl) ?_
  refine va_putF (D := (dC, dI)) (ci := 2) (v := .ref q7) (ty := .array .int) (C := RX2) (T := TX2) (N := 5) hx hb hts w_u2 tyX2 tyX2_ok nmX2 hown hK hP hD hS 0 rfl rfl 0 (by decide) (hts _ wq_56) (fun _ h9 => h9) rfl hin rfl (by decide +kernel) rfl rfl (Nat.le_of_ble_eq_true rfl) dX2_init_9 (fun H locs hP hD hS => ?_)
  have hP : va_P (dC, dI) vwCl [(h0, .inr (2, [.ref q7, .int 0, .null, .null, .null])), (q7, .inl (c7, 6, .inl (fun _ => 0)))] H := hP
  have hD : va_D A [(h0, .inr (2, [.ref q7, .int 0, .null, .null, .null])), (q7, .inl (c7, 6, .inl (fun _ => 0)))] := hD
  refine lv_aload_n hx hb dX2_init_12 rfl (lv_at hl 0 rfl) ?_
  refine lv_bipush (v := 6) hx hb dX2_init_13 (by decide) ?_
  refine va_newa (atype := .int) (a0 := (6, .inl (fun _ => 0))) hx hb (hts _ wq_2) rfl hK hP hD hS hA (fun _ => rfl) (by decide) (by decide) (Nat.le_of_ble_eq_true rfl) (Nat.le_of_ble_eq_true rfl) (Nat.le_of_ble_eq_true rfl) dX2_init_15 (fun q15 c15 H hK hP hD hS => ?_)
  have hP : va_P (dC, dI) vwCl [(h0, .inr (2, [.ref q7, .int 0, .null, .null, .null])), (q7, .inl (c7, 6, .inl (fun _ => 0))), (q15, .inl (c15, 6, .inl (fun _ => 0)))] H := hP
  have hD : va_D A [(h0, .inr (2, [.ref q7, .int 0, .null, .null, .null])), (q7, .inl (c7, 6, .inl (fun _ => 0))), (q15, .inl (c15, 6, .inl (fun _ => 0)))] := hD
  have hK : va_K (dC, dI) vwCl [(c7, .int), (c15, .int)] s := hK
  obtain rfl : c7 = c15 := va_inj_int (hK.2 0 _ rfl).2 (hK.2 1 _ rfl).2
  have hK := hK.sub (tys' := [(c7, .int)]) [0] rfl
  have hP : va_P (dC, dI) vwCl [(h0, .inr (2, [.ref q7, .int 0, .null, .null, .null])), (q7, .inl (c7, 6, .inl (fun _ => 0))), (q15, .inl (c7, 6, .inl (fun _ => 0)))] H := hP
  have hD : va_D A [(h0, .inr (2, [.ref q7, .int 0, .null, .null, .null])), (q7, .inl (c7, 6, .inl (fun _ => 0))), (q15, .inl (c7, 6, .inl (fun _ => 0)))] := hD
  refine W.widen (k := 2) (n := 12) (Nat.le_of_ble_eq_true rfl) (Nat.le_of_ble_eq_true rfl) ?_
  refine va_putF (D := (dC, dI)) (ci := 2) (v := .ref q15) (ty := .array .int) (C := RX2) (T := TX2) (N := 5) hx hb hts w_u2 tyX2 tyX2_ok nmX2 hown hK hP hD hS 0 rfl rfl 2 (by decide) (hts _ wq_57) (fun _ h9 => h9) rfl hin rfl (by decide +kernel) rfl rfl (Nat.le_of_ble_eq_true rfl) dX2_init_17 (fun H locs hP hD hS => ?_)
  have hP : va_P (dC, dI) vwCl [(h0, .inr (2, [.ref q7, .int 0, .ref q15, .null, .null])), (q7, .inl (c7, 6, .inl (fun _ => 0))), (q15, .inl (c7, 6, .inl (fun _ => 0)))] H := hP
  have hD : va_D A [(h0, .inr (2, [.ref q7, .int 0, .ref q15, .null, .null])), (q7, .inl (c7, 6, .inl (fun _ => 0))), (q15, .inl (c7, 6, .inl (fun _ => 0)))] := hD
  refine lv_aload_n hx hb dX2_init_20 rfl (lv_at hl 0 rfl) ?_
  refine lv_aload_n hx hb dX2_init_21 rfl (lv_at hl 1 rfl) ?_
  refine va_putF (D := (dC, dI)) (ci := 2) (v := .ref h1) (ty := .object "FortyReports$School") (C := RX2) (T := TX2) (N := 5) hx hb hts w_u2 tyX2 tyX2_ok nmX2 hown hK hP hD hS 0 rfl rfl 3 (by decide) (hts _ wq_58) (fun _ h9 => h9) rfl hin rfl (by decide +kernel) rfl rfl (Nat.le_of_ble_eq_true rfl) dX2_init_22 (fun H locs hP hD hS => ?_)
  have hP : va_P (dC, dI) vwCl [(h0, .inr (2, [.ref q7, .int 0, .ref q15, .ref h1, .null])), (q7, .inl (c7, 6, .inl (fun _ => 0))), (q15, .inl (c7, 6, .inl (fun _ => 0)))] H := hP
  have hD : va_D A [(h0, .inr (2, [.ref q7, .int 0, .ref q15, .ref h1, .null])), (q7, .inl (c7, 6, .inl (fun _ => 0))), (q15, .inl (c7, 6, .inl (fun _ => 0)))] := hD
  refine lv_aload_n hx hb dX2_init_25 rfl (lv_at hl 0 rfl) ?_
  refine lv_aload_n hx hb dX2_init_26 rfl (lv_at hl 2 rfl) ?_
  refine va_putF (D := (dC, dI)) (ci := 2) (v := .ref h2) (ty := .object "FortyReports$Pen") (C := RX2) (T := TX2) (N := 5) hx hb hts w_u2 tyX2 tyX2_ok nmX2 hown hK hP hD hS 0 rfl rfl 4 (by decide) (hts _ wq_59) (fun _ h9 => h9) rfl hin rfl (by decide +kernel) rfl rfl (Nat.le_of_ble_eq_true rfl) dX2_init_27 (fun H locs hP hD hS => ?_)
  have hP : va_P (dC, dI) vwCl [(h0, .inr (2, [.ref q7, .int 0, .ref q15, .ref h1, .ref h2])), (q7, .inl (c7, 6, .inl (fun _ => 0))), (q15, .inl (c7, 6, .inl (fun _ => 0)))] H := hP
  have hD : va_D A [(h0, .inr (2, [.ref q7, .int 0, .ref q15, .ref h1, .ref h2])), (q7, .inl (c7, 6, .inl (fun _ => 0))), (q15, .inl (c7, 6, .inl (fun _ => 0)))] := hD
  obtain ⟨u0, hu0⟩ : ∃ u : (Nat → Nat) × ClassId, u = ((fun j => ([q7, q15] : List Nat).getD j 0), c7) := ⟨_, rfl⟩
  have hP9 : va_P (dC, dI) vwCl [(h0, .inr (2, [.ref (u0.1 0), .int 0, .ref (u0.1 1), .ref h1, .ref h2])), ((u0.1 0), .inl (u0.2, 6, .inl (fun _ => 0))), ((u0.1 1), .inl (u0.2, 6, .inl (fun _ => 0)))] H := by rw [hu0]; exact hP.sub [0, 1, 2] rfl
  have hD9 : va_D A [(h0, .inr (2, [.ref (u0.1 0), .int 0, .ref (u0.1 1), .ref h1, .ref h2])), ((u0.1 0), .inl (u0.2, 6, .inl (fun _ => 0))), ((u0.1 1), .inl (u0.2, 6, .inl (fun _ => 0)))] := by rw [hu0]; exact hD.sub [0, 1, 2] (by decide) rfl
  have hK9 : va_K (dC, dI) vwCl [(u0.2, .int)] s := by rw [hu0]; exact hK.sub [0] rfl
  exact W.vret hx hb hr (fun t ht hW => ⟨⟨u0, rfl, trivial, by rw [ht]; exact hP9, va_K.moved hW.alike hK9, hD9⟩, hS.F ht⟩) hS.2.2 dX2_init_30
set_option maxHeartbeats 16000000 in
set_option maxRecDepth 100000 in
theorem c_Sieve_init (l : Launch) (dC : Nat → ClassId) (dI : Nat → Nat → Nat) (h0 : Nat) (sz : Nat) : Met l yX5_init wI_X5 ({ frames := 1, cells := 1, slots := 12, locals := 12 }) (va_Pc [.ref h0] (fun U => U.heap.size = sz ∧ va_P (dC, dI) vwCl [(h0, .inr (5, [.null, .int 0]))] U.heap ∧ va_K (dC, dI) vwCl [] U ∧ va_D (fun _ => True) [(h0, .inr (5, [.null, .int 0]))])) (va_Qv (fun u : (Nat → Nat) × ClassId => True) (fun u t => va_P (dC, dI) vwCl [(h0, .inr (5, [.ref (u.1 0), .int 0])), ((u.1 0), .inl (u.2, 12, .inl (fun _ => 0)))] t.heap ∧ va_K (dC, dI) vwCl [(u.2, .int)] t ∧ va_D (va_A [(h0, .inr (5, [.null, .int 0]))] sz) [(h0, .inr (5, [.ref (u.1 0), .int 0])), ((u.1 0), .inl (u.2, 12, .inl (fun _ => 0)))]) (va_A [(h0, .inr (5, [.null, .int 0]))] sz)) 1 12 (va_A [(h0, .inr (5, [.null, .int 0]))] sz) := by
  refine Met.ofW (cc := cX5_init) (maxL := 1) (ret := none) (by decide) rfl ?_
  intro p e s m args below meth c s₁ B hml hv
  obtain ⟨rfl, hsz, hP, hK, hD0⟩ := hv
  have hx := B.exec
  have hb := B.bytes
  have hr := B.returns
  have hts0 := atoms_spec (ws := wI_X5) B.pre
  have hts : ∀ w ∈ gw, w.before ([.ref h0] : List Value).toArray s = true := fun w h => hts0 w (List.mem_cons_of_mem _ h)
  have hown : s.vm.findClass RX5 = some m.cls := findClass_of_methodNamed B.named
  have hlocks := B.notSynchronized
  have hin : meth.name = "<init>" := (name_of_methodNamed B.named B.method).1
  subst hsz
  have hD := hD0.self (sz := s.heap.size)
  generalize hAe : va_A [(h0, .inr (5, [.null, .int 0]))] s.heap.size = A at hD ⊢
  have hA : ∀ q : Nat, s.heap.size ≤ q → A q := fun q h => by rw [← hAe]; exact Or.inr h
  have hS : va_S A s.heap s.heap [] := va_S.rf
  have hP : va_P (dC, dI) vwCl [(h0, .inr (5, [.null, .int 0]))] s.heap := hP
  have hl := lv_entry ([.ref h0]) (n := 1) (Nat.le_of_ble_eq_true rfl)
  rw [lg_entry_eq]
  generalize (lg_sl ([.ref h0]) ++ List.replicate (1 - (lg_sl ([.ref h0])).length) Slot.unset).toArray = ls at hl ⊢
  have hl : lv_has ls 1 [(0, .ref h0)] := hl
  refine lv_aload_n hx hb dX5_init_0 rfl (lv_at hl 0 rfl) ?_
  refine W.objInit hx hb hown (hts _ wq_60) (hts _ wq_0) (hts _ wq_1) rfl (by rw [hml]; exact hl.1) rfl dX5_init_1 (Nat.le_of_ble_eq_true rfl) (Nat.le_of_ble_eq_true rfl) ?_
  refine W.eq (g2 := F0 m 4 ls []) rfl ?_
  refine lv_aload_n hx hb dX5_init_4 rfl (lv_at hl 0 rfl) ?_
  refine lv_bipush (v := 12) hx hb dX5_init_5 (by decide) ?_
  refine va_newa (atype := .int) (a0 := (12, .inl (fun _ => 0))) hx hb (hts _ wq_2) rfl hK hP hD hS hA (fun _ => rfl) (by decide) (by decide) (Nat.le_of_ble_eq_true rfl) (Nat.le_of_ble_eq_true rfl) (Nat.le_of_ble_eq_true rfl) dX5_init_7 (fun q7 c7 H hK hP hD hS => ?_)
  have hP : va_P (dC, dI) vwCl [(h0, .inr (5, [.null, .int 0])), (q7, .inl (c7, 12, .inl (fun _ => 0)))] H := hP
  have hD : va_D A [(h0, .inr (5, [.null, .int 0])), (q7, .inl (c7, 12, .inl (fun _ => 0)))] := hD
  have hK : va_K (dC, dI) vwCl [(c7, .int)] s := hK
  refine W.widen (k := 1) (n := 12) (Nat.le_of_ble_eq_true rfl) (Nat.le_of_ble_eq_true rfl) ?_
  refine va_putF (D := (dC, dI)) (ci := 5) (v := .ref q7) (ty := .array .int) (C := RX5) (T := TX5) (N := 2) hx hb hts w_u5 tyX5 tyX5_ok nmX5 hown hK hP hD hS 0 rfl rfl 0 (by decide) (hts _ wq_61) (fun _ h9 => h9) rfl hin rfl (by decide +kernel) rfl rfl (Nat.le_of_ble_eq_true rfl) dX5_init_9 (fun H locs hP hD hS => ?_)
  have hP : va_P (dC, dI) vwCl [(h0, .inr (5, [.ref q7, .int 0])), (q7, .inl (c7, 12, .inl (fun _ => 0)))] H := hP
  have hD : va_D A [(h0, .inr (5, [.ref q7, .int 0])), (q7, .inl (c7, 12, .inl (fun _ => 0)))] := hD
  obtain ⟨u0, hu0⟩ : ∃ u : (Nat → Nat) × ClassId, u = ((fun j => ([q7] : List Nat).getD j 0), c7) := ⟨_, rfl⟩
  have hP9 : va_P (dC, dI) vwCl [(h0, .inr (5, [.ref (u0.1 0), .int 0])), ((u0.1 0), .inl (u0.2, 12, .inl (fun _ => 0)))] H := by rw [hu0]; exact hP.sub [0, 1] rfl
  have hD9 : va_D A [(h0, .inr (5, [.ref (u0.1 0), .int 0])), ((u0.1 0), .inl (u0.2, 12, .inl (fun _ => 0)))] := by rw [hu0]; exact hD.sub [0, 1] (by decide) rfl
  have hK9 : va_K (dC, dI) vwCl [(u0.2, .int)] s := by rw [hu0]; exact hK.sub [0] rfl
  exact W.vret hx hb hr (fun t ht hW => ⟨⟨u0, rfl, trivial, by rw [ht]; exact hP9, va_K.moved hW.alike hK9, hD9⟩, hS.F ht⟩) hS.2.2 dX5_init_12
set_option maxHeartbeats 16000000 in
set_option maxRecDepth 100000 in
theorem c_HeapText_init (l : Launch) (dC : Nat → ClassId) (dI : Nat → Nat → Nat) (h0 : Nat) (sz : Nat) : Met l yX0_init wI_X0 ({ frames := 1, cells := 1, slots := 120, locals := 12 }) (va_Pc [.ref h0] (fun U => U.heap.size = sz ∧ va_P (dC, dI) vwCl [(h0, .inr (0, [.null, .int 0, .int 0, .int 0, .int 0, .int 0]))] U.heap ∧ va_K (dC, dI) vwCl [] U ∧ va_D (fun _ => True) [(h0, .inr (0, [.null, .int 0, .int 0, .int 0, .int 0, .int 0]))])) (va_Qv (fun u : (Nat → Nat) × ClassId => True) (fun u t => va_P (dC, dI) vwCl [(h0, .inr (0, [.ref (u.1 0), .int 0, .int 0, .int 0, .int 0, .int 0])), ((u.1 0), .inl (u.2, 120, .inl (fun _ => 0)))] t.heap ∧ va_K (dC, dI) vwCl [(u.2, .byte)] t ∧ va_D (va_A [(h0, .inr (0, [.null, .int 0, .int 0, .int 0, .int 0, .int 0]))] sz) [(h0, .inr (0, [.ref (u.1 0), .int 0, .int 0, .int 0, .int 0, .int 0])), ((u.1 0), .inl (u.2, 120, .inl (fun _ => 0)))]) (va_A [(h0, .inr (0, [.null, .int 0, .int 0, .int 0, .int 0, .int 0]))] sz)) 1 120 (va_A [(h0, .inr (0, [.null, .int 0, .int 0, .int 0, .int 0, .int 0]))] sz) := by
  refine Met.ofW (cc := cX0_init) (maxL := 1) (ret := none) (by decide) rfl ?_
  intro p e s m args below meth c s₁ B hml hv
  obtain ⟨rfl, hsz, hP, hK, hD0⟩ := hv
  have hx := B.exec
  have hb := B.bytes
  have hr := B.returns
  have hts0 := atoms_spec (ws := wI_X0) B.pre
  have hts : ∀ w ∈ gw, w.before ([.ref h0] : List Value).toArray s = true := fun w h => hts0 w (List.mem_cons_of_mem _ h)
  have hown : s.vm.findClass RX0 = some m.cls := findClass_of_methodNamed B.named
  have hlocks := B.notSynchronized
  have hin : meth.name = "<init>" := (name_of_methodNamed B.named B.method).1
  subst hsz
  have hD := hD0.self (sz := s.heap.size)
  generalize hAe : va_A [(h0, .inr (0, [.null, .int 0, .int 0, .int 0, .int 0, .int 0]))] s.heap.size = A at hD ⊢
  have hA : ∀ q : Nat, s.heap.size ≤ q → A q := fun q h => by rw [← hAe]; exact Or.inr h
  have hS : va_S A s.heap s.heap [] := va_S.rf
  have hP : va_P (dC, dI) vwCl [(h0, .inr (0, [.null, .int 0, .int 0, .int 0, .int 0, .int 0]))] s.heap := hP
  have hl := lv_entry ([.ref h0]) (n := 1) (Nat.le_of_ble_eq_true rfl)
  rw [lg_entry_eq]
  generalize (lg_sl ([.ref h0]) ++ List.replicate (1 - (lg_sl ([.ref h0])).length) Slot.unset).toArray = ls at hl ⊢
  have hl : lv_has ls 1 [(0, .ref h0)] := hl
  refine lv_aload_n hx hb dX0_init_0 rfl (lv_at hl 0 rfl) ?_
  refine W.objInit hx hb hown (hts _ wq_62) (hts _ wq_0) (hts _ wq_1) rfl (by rw [hml]; exact hl.1) rfl dX0_init_1 (Nat.le_of_ble_eq_true rfl) (Nat.le_of_ble_eq_true rfl) ?_
  refine W.eq (g2 := F0 m 4 ls []) rfl ?_
  refine lv_aload_n hx hb dX0_init_4 rfl (lv_at hl 0 rfl) ?_
  refine lv_bipush (v := 120) hx hb dX0_init_5 (by decide) ?_
  refine va_newa (atype := .byte) (a0 := (120, .inl (fun _ => 0))) hx hb (hts _ wq_3) rfl hK hP hD hS hA (fun _ => rfl) (by decide) (by decide) (Nat.le_of_ble_eq_true rfl) (Nat.le_of_ble_eq_true rfl) (Nat.le_of_ble_eq_true rfl) dX0_init_7 (fun q7 c7 H hK hP hD hS => ?_)
  have hP : va_P (dC, dI) vwCl [(h0, .inr (0, [.null, .int 0, .int 0, .int 0, .int 0, .int 0])), (q7, .inl (c7, 120, .inl (fun _ => 0)))] H := hP
  have hD : va_D A [(h0, .inr (0, [.null, .int 0, .int 0, .int 0, .int 0, .int 0])), (q7, .inl (c7, 120, .inl (fun _ => 0)))] := hD
  have hK : va_K (dC, dI) vwCl [(c7, .byte)] s := hK
  refine W.widen (k := 1) (n := 120) (Nat.le_of_ble_eq_true rfl) (Nat.le_of_ble_eq_true rfl) ?_
  refine va_putF (D := (dC, dI)) (ci := 0) (v := .ref q7) (ty := .array .byte) (C := RX0) (T := TX0) (N := 6) hx hb hts w_u0 tyX0 tyX0_ok nmX0 hown hK hP hD hS 0 rfl rfl 0 (by decide) (hts _ wq_63) (fun _ h9 => h9) rfl hin rfl (by decide +kernel) rfl rfl (Nat.le_of_ble_eq_true rfl) dX0_init_9 (fun H locs hP hD hS => ?_)
  have hP : va_P (dC, dI) vwCl [(h0, .inr (0, [.ref q7, .int 0, .int 0, .int 0, .int 0, .int 0])), (q7, .inl (c7, 120, .inl (fun _ => 0)))] H := hP
  have hD : va_D A [(h0, .inr (0, [.ref q7, .int 0, .int 0, .int 0, .int 0, .int 0])), (q7, .inl (c7, 120, .inl (fun _ => 0)))] := hD
  obtain ⟨u0, hu0⟩ : ∃ u : (Nat → Nat) × ClassId, u = ((fun j => ([q7] : List Nat).getD j 0), c7) := ⟨_, rfl⟩
  have hP9 : va_P (dC, dI) vwCl [(h0, .inr (0, [.ref (u0.1 0), .int 0, .int 0, .int 0, .int 0, .int 0])), ((u0.1 0), .inl (u0.2, 120, .inl (fun _ => 0)))] H := by rw [hu0]; exact hP.sub [0, 1] rfl
  have hD9 : va_D A [(h0, .inr (0, [.ref (u0.1 0), .int 0, .int 0, .int 0, .int 0, .int 0])), ((u0.1 0), .inl (u0.2, 120, .inl (fun _ => 0)))] := by rw [hu0]; exact hD.sub [0, 1] (by decide) rfl
  have hK9 : va_K (dC, dI) vwCl [(u0.2, .byte)] s := by rw [hu0]; exact hK.sub [0] rfl
  exact W.vret hx hb hr (fun t ht hW => ⟨⟨u0, rfl, trivial, by rw [ht]; exact hP9, va_K.moved hW.alike hK9, hD9⟩, hS.F ht⟩) hS.2.2 dX0_init_12
set_option maxHeartbeats 16000000 in
set_option maxRecDepth 100000 in
theorem c_Sheet_init (l : Launch) (dC : Nat → ClassId) (dI : Nat → Nat → Nat) (h0 : Nat) (sz : Nat) : Met l yX4_init wI_X4 ({ frames := 1, cells := 1, slots := 40, locals := 12 }) (va_Pc [.ref h0] (fun U => U.heap.size = sz ∧ va_P (dC, dI) vwCl [(h0, .inr (4, [.int 0, .int 0, .null]))] U.heap ∧ va_K (dC, dI) vwCl [] U ∧ va_D (fun _ => True) [(h0, .inr (4, [.int 0, .int 0, .null]))])) (va_Qv (fun u : (Nat → Nat) × ClassId => True) (fun u t => va_P (dC, dI) vwCl [(h0, .inr (4, [.int 0, .int 0, .ref (u.1 0)])), ((u.1 0), .inl (u.2, 40, .inr (.inl (fun _ => 0))))] t.heap ∧ va_K (dC, dI) vwCl [(u.2, .long)] t ∧ va_D (va_A [(h0, .inr (4, [.int 0, .int 0, .null]))] sz) [(h0, .inr (4, [.int 0, .int 0, .ref (u.1 0)])), ((u.1 0), .inl (u.2, 40, .inr (.inl (fun _ => 0))))]) (va_A [(h0, .inr (4, [.int 0, .int 0, .null]))] sz)) 1 40 (va_A [(h0, .inr (4, [.int 0, .int 0, .null]))] sz) := by
  refine Met.ofW (cc := cX4_init) (maxL := 1) (ret := none) (by decide) rfl ?_
  intro p e s m args below meth c s₁ B hml hv
  obtain ⟨rfl, hsz, hP, hK, hD0⟩ := hv
  have hx := B.exec
  have hb := B.bytes
  have hr := B.returns
  have hts0 := atoms_spec (ws := wI_X4) B.pre
  have hts : ∀ w ∈ gw, w.before ([.ref h0] : List Value).toArray s = true := fun w h => hts0 w (List.mem_cons_of_mem _ h)
  have hown : s.vm.findClass RX4 = some m.cls := findClass_of_methodNamed B.named
  have hlocks := B.notSynchronized
  have hin : meth.name = "<init>" := (name_of_methodNamed B.named B.method).1
  subst hsz
  have hD := hD0.self (sz := s.heap.size)
  generalize hAe : va_A [(h0, .inr (4, [.int 0, .int 0, .null]))] s.heap.size = A at hD ⊢
  have hA : ∀ q : Nat, s.heap.size ≤ q → A q := fun q h => by rw [← hAe]; exact Or.inr h
  have hS : va_S A s.heap s.heap [] := va_S.rf
  have hP : va_P (dC, dI) vwCl [(h0, .inr (4, [.int 0, .int 0, .null]))] s.heap := hP
  have hl := lv_entry ([.ref h0]) (n := 1) (Nat.le_of_ble_eq_true rfl)
  rw [lg_entry_eq]
  generalize (lg_sl ([.ref h0]) ++ List.replicate (1 - (lg_sl ([.ref h0])).length) Slot.unset).toArray = ls at hl ⊢
  have hl : lv_has ls 1 [(0, .ref h0)] := hl
  refine lv_aload_n hx hb dX4_init_0 rfl (lv_at hl 0 rfl) ?_
  refine W.objInit hx hb hown (hts _ wq_64) (hts _ wq_0) (hts _ wq_1) rfl (by rw [hml]; exact hl.1) rfl dX4_init_1 (Nat.le_of_ble_eq_true rfl) (Nat.le_of_ble_eq_true rfl) ?_
  refine W.eq (g2 := F0 m 4 ls []) rfl ?_
  refine lv_aload_n hx hb dX4_init_4 rfl (lv_at hl 0 rfl) ?_
  refine lv_bipush (v := 40) hx hb dX4_init_5 (by decide) ?_
  refine va_newa (atype := .long) (a0 := (40, .inr (.inl (fun _ => 0)))) hx hb (hts _ wq_4) rfl hK hP hD hS hA (fun _ => rfl) (by decide) (by decide) (Nat.le_of_ble_eq_true rfl) (Nat.le_of_ble_eq_true rfl) (Nat.le_of_ble_eq_true rfl) dX4_init_7 (fun q7 c7 H hK hP hD hS => ?_)
  have hP : va_P (dC, dI) vwCl [(h0, .inr (4, [.int 0, .int 0, .null])), (q7, .inl (c7, 40, .inr (.inl (fun _ => 0))))] H := hP
  have hD : va_D A [(h0, .inr (4, [.int 0, .int 0, .null])), (q7, .inl (c7, 40, .inr (.inl (fun _ => 0))))] := hD
  have hK : va_K (dC, dI) vwCl [(c7, .long)] s := hK
  refine W.widen (k := 1) (n := 40) (Nat.le_of_ble_eq_true rfl) (Nat.le_of_ble_eq_true rfl) ?_
  refine va_putF (D := (dC, dI)) (ci := 4) (v := .ref q7) (ty := .array .long) (C := RX4) (T := TX4) (N := 3) hx hb hts w_u4 tyX4 tyX4_ok nmX4 hown hK hP hD hS 0 rfl rfl 2 (by decide) (hts _ wq_65) (fun _ h9 => h9) rfl hin rfl (by decide +kernel) rfl rfl (Nat.le_of_ble_eq_true rfl) dX4_init_9 (fun H locs hP hD hS => ?_)
  have hP : va_P (dC, dI) vwCl [(h0, .inr (4, [.int 0, .int 0, .ref q7])), (q7, .inl (c7, 40, .inr (.inl (fun _ => 0))))] H := hP
  have hD : va_D A [(h0, .inr (4, [.int 0, .int 0, .ref q7])), (q7, .inl (c7, 40, .inr (.inl (fun _ => 0))))] := hD
  obtain ⟨u0, hu0⟩ : ∃ u : (Nat → Nat) × ClassId, u = ((fun j => ([q7] : List Nat).getD j 0), c7) := ⟨_, rfl⟩
  have hP9 : va_P (dC, dI) vwCl [(h0, .inr (4, [.int 0, .int 0, .ref (u0.1 0)])), ((u0.1 0), .inl (u0.2, 40, .inr (.inl (fun _ => 0))))] H := by rw [hu0]; exact hP.sub [0, 1] rfl
  have hD9 : va_D A [(h0, .inr (4, [.int 0, .int 0, .ref (u0.1 0)])), ((u0.1 0), .inl (u0.2, 40, .inr (.inl (fun _ => 0))))] := by rw [hu0]; exact hD.sub [0, 1] (by decide) rfl
  have hK9 : va_K (dC, dI) vwCl [(u0.2, .long)] s := by rw [hu0]; exact hK.sub [0] rfl
  exact W.vret hx hb hr (fun t ht hW => ⟨⟨u0, rfl, trivial, by rw [ht]; exact hP9, va_K.moved hW.alike hK9, hD9⟩, hS.F ht⟩) hS.2.2 dX4_init_12

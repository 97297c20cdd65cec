/-! 12.step3: switches, calls, and all steps together -/
theorem ofInt_eq {x : Int32} {z : Int} (h1 : -100000 ≤ z) (h2 : z ≤ 100000) : x = Int32.ofInt z ↔ x.toInt = z := by
  have e : (Int32.ofInt z).toInt = z := by
    rw [Int32.toInt_ofInt]
    apply Int.bmod_eq_of_le <;> (simp only [Int32.size]; omega)
  constructor
  · intro h
    rw [h, e]
  · intro h
    apply Int32.toInt_inj.mp
    rw [h, e]
theorem swT_in {α : Type} (f : Int → α) (d : Int) (x : Int32) : ∀ (os : List Int) (lo : Int), -1000 ≤ lo → lo + os.length ≤ 2000 → (∀ o, lo ≤ x.toInt → os[(x.toInt - lo).toNat]? = some o → swT f d lo os x = f o) ∧ ((x.toInt < lo ∨ lo + os.length ≤ x.toInt) → swT f d lo os x = f d) := by
  intro os
  induction os with
  | nil =>
    intro lo h1 h2
    exact ⟨fun o _ h => by simp at h, fun _ => rfl⟩
  | cons q os ih =>
    intro lo h1 h2
    simp only [List.length_cons] at h2
    obtain ⟨i1, i2⟩ := ih (lo + 1) (by omega) (by omega)
    have he := ofInt_eq (x := x) (z := lo) (by omega) (by omega)
    constructor
    · intro o hlo ho
      simp only [swT]
      by_cases hx : x.toInt = lo
      · rw [if_pos (he.mpr hx)]
        rw [show (x.toInt - lo).toNat = 0 by omega] at ho
        simp at ho
        rw [ho]
      · rw [if_neg (fun z => hx (he.mp z))]
        refine i1 o (by omega) ?_
        rw [show (x.toInt - lo).toNat = (x.toInt - (lo + 1)).toNat + 1 by omega] at ho
        simpa using ho
    · intro hx
      simp only [swT, List.length_cons] at hx ⊢
      rw [if_neg (fun z => by have := he.mp z; omega)]
      exact i2 (by omega)
section
variable {p : Program} {l : Launch} {e : Env} {R : Room} {s : State} {mm : MethodId} {args : Array Value} {below : List Frame} {meth : Method} {c : Code} {cells slots : Nat} {Q : State → Prop} {D : va_G} {ad : Nat → Nat} {cy : Nat → ClassId} {fm : Value} {A : Nat → Prop} {L : Nat} {xs : Nat → Int32}
set_option maxHeartbeats 2000000 in
theorem pw_tableswitch {d m pc nx len : Nat} {raw : Instr} {ls st : List Value} {μ : sM} {k : sK} {cl : Nat → List Value → sM → sR} {x : Option Value × sM} {dd lo hi : Int} {os : Array Int} (C : Cx p R s mm args c D ad cy fm A L xs m d) (hdec : decode (byt m) pc = .ok (raw, len)) (hck : ck m pc (.tableswitch dd lo hi os) nx raw len = true) (h : stepK d cl k (.tableswitch dd lo hi os) nx ls st μ = some x) (ihk : ∀ pc ls st μ, k pc ls st μ = some x → PW p l e R s mm args below meth c cells slots Q D ad cy fm A L xs m pc ls st μ) : PW p l e R s mm args below meth c cells slots Q D ad cy fm A L xs m pc ls st μ := by
  obtain ⟨hx, hb, hml, hown, hts, hfr, hlo, hO, hK⟩ := C
  intro H locs LS hw hl
  rcases st with _ | ⟨v, st⟩
  · exact no_some h
  cases v <;> (try exact no_some h)
  rename_i u
  rw [st_tsw] at h
  have hck : (decide (nx = pc + len) && ckTs pc dd lo hi os raw) = true := hck
  simp only [Bool.and_eq_true, decide_eq_true_eq] at hck
  obtain ⟨rfl, hk⟩ := hck
  unfold ckTs at hk
  split at hk
  case h_2 => cases hk
  rename_i d' lo' hi' os'
  simp only [Bool.and_eq_true, decide_eq_true_eq, List.all_eq_true] at hk
  obtain ⟨⟨⟨⟨h1, h2, rfl, rfl, h3⟩, h4⟩, h5, h6, h7⟩, h8⟩ := hk
  have hlen : os.toList.length = (hi' - lo' + 1).toNat := by rw [h3, List.length_map]; exact h4
  obtain ⟨s1, s2⟩ := swT_in (fun t => k t.toNat ls st μ) dd u os.toList lo' h6 (by omega)
  by_cases hin : u.toInt < lo' ∨ hi' < u.toInt
  · rw [s2 (by omega)] at h
    exact lv_tableOut (tgt := dd.toNat) hx hb hdec hin (by omega) (ihk _ _ _ _ h H locs LS hw hl)
  · have hlt : (u.toInt - lo').toNat < os'.toList.length := by omega
    obtain ⟨o', ho'⟩ : ∃ o', os'.toList[(u.toInt - lo').toNat]? = some o' := ⟨_, List.getElem?_eq_getElem hlt⟩
    have ho : os.toList[(u.toInt - lo').toNat]? = some ((pc : Int) + o') := by rw [h3, List.getElem?_map, ho']; rfl
    rw [s1 _ (by omega) ho] at h
    have h0 := h8 _ (List.mem_of_getElem? ho)
    exact lv_tableIn (tgt := ((pc : Int) + o').toNat) hx hb hdec (by omega) (by omega) (by rw [← Array.getElem?_toList]; exact ho') (by omega) (ihk _ _ _ _ h H locs LS hw hl)
theorem swL_off {α : Type} (f : Int → α) (x : Int32) (pc : Int) (d : Int) : ∀ (ps : List (Int × Int)), (∀ q ∈ ps, -1000 ≤ q.1 ∧ q.1 ≤ 1000) → swL f (pc + d) (ps.map (fun q => (q.1, pc + q.2))) x = f (pc + Op.lookupswitch.offset ps d x.toInt) := by
  intro ps
  induction ps with
  | nil => intro _; rfl
  | cons q ps ih =>
    intro h
    have hq := h q List.mem_cons_self
    have he := ofInt_eq (x := x) (z := q.1) (by omega) (by omega)
    have ih := ih (fun r hr => h r (List.mem_cons_of_mem _ hr))
    obtain ⟨qa, qo⟩ := q
    dsimp only at he
    simp only [List.map_cons, swL, Op.lookupswitch.offset_cons]
    by_cases hx : x.toInt = qa
    · rw [if_pos (he.mpr hx), if_pos hx.symm]
    · rw [if_neg (fun z => hx (he.mp z)), ih, if_neg (fun z => hx z.symm)]
set_option maxHeartbeats 2000000 in
theorem pw_lookupswitch {d m pc nx len : Nat} {raw : Instr} {ls st : List Value} {μ : sM} {k : sK} {cl : Nat → List Value → sM → sR} {x : Option Value × sM} {dd : Int} {os : Array (Int × Int)} (C : Cx p R s mm args c D ad cy fm A L xs m d) (hdec : decode (byt m) pc = .ok (raw, len)) (hck : ck m pc (.lookupswitch dd os) nx raw len = true) (h : stepK d cl k (.lookupswitch dd os) nx ls st μ = some x) (ihk : ∀ pc ls st μ, k pc ls st μ = some x → PW p l e R s mm args below meth c cells slots Q D ad cy fm A L xs m pc ls st μ) : PW p l e R s mm args below meth c cells slots Q D ad cy fm A L xs m pc ls st μ := by
  obtain ⟨hx, hb, hml, hown, hts, hfr, hlo, hO, hK⟩ := C
  intro H locs LS hw hl
  rcases st with _ | ⟨v, st⟩
  · exact no_some h
  cases v <;> (try exact no_some h)
  rename_i u
  rw [st_lsw] at h
  have hck : (decide (nx = pc + len) && ckLw pc dd os raw) = true := hck
  simp only [Bool.and_eq_true, decide_eq_true_eq] at hck
  obtain ⟨rfl, hk⟩ := hck
  unfold ckLw at hk
  split at hk
  case h_2 => cases hk
  rename_i d' os'
  simp only [Bool.and_eq_true, decide_eq_true_eq] at hk
  obtain ⟨⟨⟨h1, h2, h3⟩, h4⟩, h5⟩ := hk
  have h6 : ∀ q ∈ os'.toList, -1000 ≤ q.1 ∧ q.1 ≤ 1000 := by
    intro q hq
    have := List.all_eq_true.mp h5 (q.1, (pc : Int) + q.2) (by rw [h3]; exact List.mem_map.mpr ⟨q, hq, rfl⟩)
    simp only [decide_eq_true_eq] at this
    omega
  rw [h3, ← h1, swL_off (fun t => k t.toNat ls st μ) u pc d' os'.toList h6] at h
  have h7 : 0 ≤ (pc : Int) + Op.lookupswitch.offset os'.toList d' u.toInt := by
    have key : ∀ (ps : List (Int × Int)), (∀ q ∈ ps, 0 ≤ (pc : Int) + q.2) → 0 ≤ (pc : Int) + d' → 0 ≤ (pc : Int) + Op.lookupswitch.offset ps d' u.toInt := by
      intro ps
      induction ps with
      | nil => intro _ h9; exact h9
      | cons q ps ih =>
        intro h0 h9
        obtain ⟨qa, qo⟩ := q
        rw [Op.lookupswitch.offset_cons]
        split
        · exact h0 (qa, qo) List.mem_cons_self
        · exact ih (fun r hr => h0 r (List.mem_cons_of_mem _ hr)) h9
    refine key _ (fun q hq => ?_) (by omega)
    have := List.all_eq_true.mp h5 (q.1, (pc : Int) + q.2) (by rw [h3]; exact List.mem_map.mpr ⟨q, hq, rfl⟩)
    simp only [decide_eq_true_eq] at this
    omega
  exact lv_lookup (tgt := ((pc : Int) + Op.lookupswitch.offset os'.toList d' u.toInt).toNat) hx hb hdec h4 rfl (by omega) (ihk _ _ _ _ h H locs LS hw hl)
theorem cxN_lt {y : Nat} (h : y / 100 ≤ 8) : cxN y = y / 100 := by
  unfold cxN
  rw [if_pos (by omega)]
set_option maxHeartbeats 2000000 in
theorem pw_invokeinterface {d m pc nx len : Nat} {raw : Instr} {ls st : List Value} {μ : sM} {k : sK} {cl : Nat → List Value → sM → sR} {x : Option Value × sM} {y n : Nat} (C : Cx p R s mm args c D ad cy fm A L xs m d) (hdec : decode (byt m) pc = .ok (raw, len)) (hck : ck m pc (.invokeinterface y n) nx raw len = true) (h : stepK d cl k (.invokeinterface y n) nx ls st μ = some x) (ihk : ∀ pc ls st μ, k pc ls st μ = some x → PW p l e R s mm args below meth c cells slots Q D ad cy fm A L xs m pc ls st μ) (hcs : cells ≤ R.cells ∧ slots ≤ R.slots) (ihc : ∀ y a μ u, cl y a μ = some u → y ∈ mAll → ∃ d1, d = d1 + 1 ∧ metY l D ad cy fm A L xs d1 y a μ u) : PW p l e R s mm args below meth c cells slots Q D ad cy fm A L xs m pc ls st μ := by
  obtain ⟨hx, hb, hml, hown, hts, hfr, hlo, hO, hK⟩ := C
  intro H locs LS hw hl
  rw [vi_] at h
  split at h
  case isFalse => cases h
  rename_i hc
  obtain ⟨hn, hr4, hrc⟩ := hc
  have hck : (decide (nx = pc + len) && ckV m y n raw len) = true := hck
  simp only [Bool.and_eq_true, decide_eq_true_eq] at hck
  obtain ⟨rfl, hk⟩ := hck
  unfold ckV at hk
  split at hk
  case h_2 => cases hk
  rename_i idx
  simp only [Bool.and_eq_true, decide_eq_true_eq, beq_iff_eq] at hk
  obtain ⟨⟨⟨⟨hlk, hvir⟩, hall⟩, hna⟩, rfl⟩ := hk
  unfold cont at h
  rw [Option.bind_eq_some_iff] at h
  obtain ⟨u, hu, h⟩ := h
  obtain ⟨d1, rfl, hM⟩ := ihc _ _ _ _ hu hall
  have hst : st = (st.take n).reverse.reverse ++ st.drop n := by rw [List.reverse_reverse, List.take_append_drop]
  have hasl : (st.take n).reverse.length = n := by rw [List.length_reverse, List.length_take]; omega
  generalize (st.take n).reverse = as at *
  generalize st.drop n = rest at *
  subst hst
  unfold rcOK at hrc
  split at hrc
  case h_2 => cases hrc
  rename_i o as'
  rw [beq_iff_eq] at hrc
  have hyd : y / 100 ≤ 8 := (by decide +kernel : ∀ y ∈ mVir, y / 100 ≤ 8) y hvir
  have hrecv : ∃ cellB : Cell, H[ad o]? = some cellB ∧ cellB.vm.isStatics = false ∧ s.vm.findClass (yN y).cls = some cellB.cls := by
    have ecls : (yN y).cls = csN (cIx o) := by show csN (cxN y) = _; rw [cxN_lt hyd, hrc]
    rw [ecls]
    rcases cIx_cases (k := o) (by omega) with ⟨ho, hci, hk1⟩ | ⟨h8, z, hz, rfl⟩
    · exact va_recv hK hw.1 (cls_tab hci).1 (q0 := o) (by rw [wW_get ho, cellE_1 hk1])
    · rw [h8]
      exact vk_recv (adK := fun i => ad (110 + i)) hO.2.2.2.1.2 hz hw.2.2.1
  have ho150 : o ≠ 150 := by
    rintro rfl
    have : cIx 150 = 99 := by decide +kernel
    omega
  refine run_go (u := u) (rest := rest.map (cv ad fm)) (va_runV (C := (yN y).cls) (As := as'.map (cv ad fm)) ⟨hx, hb, hml, hown, hts⟩ hM ⟨callB_y hts hall hfr hlo (w_ml20 y hall) (hts _ (w_ml _ (lookup_mem hlk))), hts _ (w_vir y hvir).1, hts _ (w_vir y hvir).2⟩ ⟨pcY_blind, hrecv, fun U hU hW => ?_⟩ rfl ?_ hl.1.1 ?_ (lv_room (cat_le hO.2.2.1.2.2 hr4)) hdec hcs) hw.2.2.1 (fun H1 locs1 hw1 => ?_)
  · have := pre_y (as := .ref o :: as') hO hK hw hU hW
    simp only [List.map_cons, cv_r ho150] at this
    exact this
  · simp only [List.length_map, List.length_cons] at hasl ⊢
    omega
  · simp only [List.reverse_cons, List.append_assoc, List.map_append, List.map_reverse, List.map_cons, cv_r ho150, List.singleton_append, List.map_nil, List.nil_append, List.cons_append]
  · have hq := ihk _ _ _ _ h H1 locs1 LS hw1 hl
    rw [List.map_append] at hq
    have e : u.1.toList.map (cv ad fm) = (u.1.map (cv ad fm)).toList := by cases u.1 <;> rfl
    rw [e] at hq
    exact hq
set_option maxHeartbeats 2000000 in
theorem pw_multianewarray {d m pc nx len : Nat} {raw : Instr} {ls st : List Value} {μ : sM} {k : sK} {cl : Nat → List Value → sM → sR} {x : Option Value × sM} {y n : Nat} (C : Cx p R s mm args c D ad cy fm A L xs m d) (hdec : decode (byt m) pc = .ok (raw, len)) (hck : ck m pc (.multianewarray y n) nx raw len = true) (h : stepK d cl k (.multianewarray y n) nx ls st μ = some x) (ihk : ∀ pc ls st μ, k pc ls st μ = some x → PW p l e R s mm args below meth c cells slots Q D ad cy fm A L xs m pc ls st μ) (hcs : cells ≤ R.cells ∧ slots ≤ R.slots) (ihc : ∀ y a μ u, cl y a μ = some u → y ∈ mAll → ∃ d1, d = d1 + 1 ∧ metY l D ad cy fm A L xs d1 y a μ u) : PW p l e R s mm args below meth c cells slots Q D ad cy fm A L xs m pc ls st μ := by
  obtain ⟨hx, hb, hml, hown, hts, hfr, hlo, hO, hK⟩ := C
  intro H locs LS hw hl
  rw [vs_] at h
  split at h
  case isFalse => cases h
  rename_i hc
  obtain ⟨hn, hr4⟩ := hc
  have hck : (decide (nx = pc + len) && ckSt2 m y n raw len) = true := hck
  simp only [Bool.and_eq_true, decide_eq_true_eq] at hck
  obtain ⟨rfl, hk⟩ := hck
  unfold ckSt2 at hk
  split at hk
  case h_2 => cases hk
  rename_i idx
  simp only [Bool.and_eq_true, Bool.or_eq_true, decide_eq_true_eq, beq_iff_eq] at hk
  obtain ⟨⟨⟨⟨hlk, hsta⟩, hall⟩, rfl⟩, rfl⟩ := hk
  unfold cont at h
  rw [Option.bind_eq_some_iff] at h
  obtain ⟨u, hu, h⟩ := h
  obtain ⟨d1, rfl, hM⟩ := ihc _ _ _ _ hu hall
  have hst : st = (st.take (nAr y)).reverse.reverse ++ st.drop (nAr y) := by rw [List.reverse_reverse, List.take_append_drop]
  have hasl : (st.take (nAr y)).reverse.length = nAr y := by rw [List.length_reverse, List.length_take]; omega
  generalize (st.take (nAr y)).reverse = as at *
  generalize st.drop (nAr y) = rest at *
  subst hst
  have hpre : ∀ U : State, U.heap = H → s.WarmedH U.vm → pcY D ad cy fm A L xs as μ (as.map (cv ad fm)).toArray U := fun U hU hW => pre_y hO hK hw hU hW
  have hstk : (as.reverse ++ rest).map (cv ad fm) = (as.map (cv ad fm)).reverse ++ rest.map (cv ad fm) := by rw [List.map_append, List.map_reverse]
  have hgo : ∀ (H1 : Heap) (locs1 : List Loc), wld D ad cy A L xs u.2 s H1 locs1 → W p l e R s mm args below meth c H1 locs1 cells slots Q (F0 mm (pc + 3) LS ((u.1.map (cv ad fm)).toList ++ rest.map (cv ad fm))) := by
    intro H1 locs1 hw1
    have hq := ihk _ _ _ _ h H1 locs1 LS hw1 hl
    rw [List.map_append] at hq
    have e : u.1.toList.map (cv ad fm) = (u.1.map (cv ad fm)).toList := by cases u.1 <;> rfl
    rw [e] at hq
    exact hq
  rcases hlk with hlk | hlk
  · exact run_go (u := u) (rest := rest.map (cv ad fm)) (va_runS (As := as.map (cv ad fm)) ⟨hx, hb, hml, hown, hts⟩ hM ⟨callB_y hts hall hfr hlo (w_ml20 y hall) (hts _ (w_ml _ (lookup_mem hlk))), hts _ (w_sta y hsta)⟩ ⟨pcY_blind, hpre⟩ rfl (by rw [List.length_map]; exact hasl) hl.1.1 hstk (lv_room (cat_le hO.2.2.1.2.2 hr4)) hdec hcs) hw.2.2.1 hgo
  · have cb := callB_y (own := csN (cxN m)) (idx := idx) (d' := d1) (R := R) hts hall hfr hlo (w_ml20 y hall)
    refine run_go (u := u) (rest := rest.map (cv ad fm)) (va_runSN (As := as.map (cv ad fm)) (host := "FortyReports") (bytes := byt y) (maxL := mLx y) (ret := rty y) (rm := rmD d1) (n := nAr y) ⟨hx, hb, hml, hown, hts⟩ hM ⟨⟨⟨rfl, rfl, hfr, ?_, pay_y hts y hall, List.mem_cons_self⟩, hts _ (w_code y hall), hts _ (w_ini y hall), w_nm y hall, fun sig h => ?_, va_Nw.use rfl (hO.2.2.2.2 _ (lookup_mem hlk))⟩, hts _ (w_sta y hsta), trivial⟩ ⟨pcY_blind, hpre⟩ rfl (by rw [List.length_map]; exact hasl) hl.1.1 hstk (lv_room (cat_le hO.2.2.1.2.2 hr4)) hdec hcs) hw.2.2.1 hgo
    · show 8 + (mLx y + 11) + 60 * d1 ≤ R.locals
      have := w_ml20 y hall
      omega
    · have := w_na y hall
      rw [h] at this
      exact (Option.some.inj this).symm
end

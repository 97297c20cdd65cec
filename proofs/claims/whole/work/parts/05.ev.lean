/-! 05.ev: the small machine's steps as equations for simp -/
def ldI (v : Value) (f : Int32 → sR) : sR := match v with
  | .int x => f x
  | _ => none
def ldA (v : Value) (f : Nat → sR) : sR := match v with
  | .ref x => if x = 150 then none else f x
  | _ => none
def ldL (v : Value) (f : Int64 → sR) : sR := match v with
  | .long x => f x
  | _ => none
theorem ldI_ {x : Int32} {f : Int32 → sR} : ldI (.int x) f = f x := rfl
theorem ldA_ {x : Nat} {f : Nat → sR} : ldA (.ref x) f = if x = 150 then none else f x := rfl
theorem ldL_ {x : Int64} {f : Int64 → sR} : ldL (.long x) f = f x := rfl
def notL (v : Value) : Bool := match v with
  | .int _ => true
  | .ref _ => true
  | .null => true
  | _ => false
theorem notL_i {x : Int32} : notL (.int x) = true := rfl
theorem notL_r {x : Nat} : notL (.ref x) = true := rfl
theorem notL_n : notL .null = true := rfl
theorem stB_0 {a : Value} {l : List Value} : stB (a :: l) 0 = true := by simp [stB]
theorem stB_1 {a b : Value} {l : List Value} : stB (a :: b :: l) 1 = notL a := by cases a <;> simp [stB, notL]
theorem stB_s {a : Value} {l : List Value} {n : Nat} : stB (a :: l) (n + 2) = stB l (n + 1) := by
  simp only [stB, List.getD_cons_succ, List.length_cons]
  congr 1
  exact decide_eq_decide.mpr (by omega)
def gfK (q : Option (Option Nat)) (f : Value → sR) (v : Int32) : sR := match q with
  | some (some t) => f (.ref t)
  | some none => f (.int v)
  | none => none
theorem gfK_r {t : Nat} {f : Value → sR} {v : Int32} : gfK (some (some t)) f v = f (.ref t) := rfl
theorem gfK_i {f : Value → sR} {v : Int32} : gfK (some none) f v = f (.int v) := rfl
section
variable {d nx : Nat} {cl : Nat → List Value → sM → sR} {k : sK} {ls r st : List Value} {μ : sM}
theorem st_iconst {v : Int} : stepK d cl k (.iconst v) nx ls st μ = k nx ls (.int (Int32.ofInt v) :: st) μ := rfl
theorem st_lconst {v : Int} : stepK d cl k (.bipush v) nx ls st μ = k nx ls (.long (Int64.ofInt v) :: st) μ := rfl
theorem st_iload {j : Nat} : stepK d cl k (.iload j) nx ls st μ = ldI (ls.getD j .null) (fun x => k nx ls (.int x :: st) μ) := by
  show goK cl k nx ls μ (match ls.getD j .null with | .int x => some (.inl (nx, ls, .int x :: st, μ)) | _ => none) = _
  cases ls.getD j .null <;> rfl
theorem st_aload {j : Nat} : stepK d cl k (.aload j) nx ls st μ = ldA (ls.getD j .null) (fun x => k nx ls (.ref x :: st) μ) := by
  show goK cl k nx ls μ (match ls.getD j .null with | .ref x => if x = 150 then none else some (.inl (nx, ls, .ref x :: st, μ)) | _ => none) = _
  cases ls.getD j .null <;> first | rfl | (dsimp only [ldA]; split <;> rfl)
theorem st_lload {j : Nat} : stepK d cl k (.lload j) nx ls st μ = ldL (ls.getD j .null) (fun x => k nx ls (.long x :: st) μ) := by
  show goK cl k nx ls μ (match ls.getD j .null with | .long x => some (.inl (nx, ls, .long x :: st, μ)) | _ => none) = _
  cases ls.getD j .null <;> rfl
theorem st_istore {j : Nat} {x : Int32} : stepK d cl k (.istore j) nx ls (.int x :: r) μ = if stB ls j = true then k nx (ls.set j (.int x)) r μ else none := by
  show goK cl k nx ls μ (if stB ls j = true then some (.inl (nx, ls.set j (.int x), r, μ)) else none) = _
  split <;> rfl
theorem st_astore {j : Nat} {x : Nat} : stepK d cl k (.astore j) nx ls (.ref x :: r) μ = if x ≠ 150 ∧ stB ls j = true then k nx (ls.set j (.ref x)) r μ else none := by
  show goK cl k nx ls μ (if x ≠ 150 ∧ stB ls j = true then some (.inl (nx, ls.set j (.ref x), r, μ)) else none) = _
  split <;> rfl
theorem st_lstore {j : Nat} {x : Int64} : stepK d cl k (.lstore j) nx ls (.long x :: r) μ = if (stB ls j && decide (j + 1 < ls.length)) = true then k nx ((ls.set j (.long x)).set (j + 1) .null) r μ else none := by
  show goK cl k nx ls μ (if (stB ls j && decide (j + 1 < ls.length)) = true then some (.inl (nx, (ls.set j (.long x)).set (j + 1) .null, r, μ)) else none) = _
  split <;> rfl
theorem st_iinc {j : Nat} {c : Int} : stepK d cl k (.iinc j c) nx ls st μ = ldI (ls.getD j .null) (fun x => if stB ls j = true then k nx (ls.set j (.int (x + Int32.ofInt c))) st μ else none) := by
  show goK cl k nx ls μ (match ls.getD j .null with | .int x => if stB ls j = true then some (.inl (nx, ls.set j (.int (x + Int32.ofInt c)), st, μ)) else none | _ => none) = _
  cases ls.getD j .null <;> first | rfl | (dsimp only [ldI]; split <;> rfl)
theorem st_iadd {x y : Int32} : stepK d cl k .iadd nx ls (.int y :: .int x :: r) μ = k nx ls (.int (x + y) :: r) μ := rfl
theorem st_isub {x y : Int32} : stepK d cl k .isub nx ls (.int y :: .int x :: r) μ = k nx ls (.int (x - y) :: r) μ := rfl
theorem st_imul {x y : Int32} : stepK d cl k .imul nx ls (.int y :: .int x :: r) μ = k nx ls (.int (x * y) :: r) μ := rfl
theorem st_iand {x y : Int32} : stepK d cl k .iand nx ls (.int y :: .int x :: r) μ = k nx ls (.int (x &&& y) :: r) μ := rfl
theorem st_ior {x y : Int32} : stepK d cl k .ior nx ls (.int y :: .int x :: r) μ = k nx ls (.int (x ||| y) :: r) μ := rfl
theorem st_ixor {x y : Int32} : stepK d cl k .ixor nx ls (.int y :: .int x :: r) μ = k nx ls (.int (x ^^^ y) :: r) μ := rfl
theorem st_ishl {x y : Int32} : stepK d cl k .ishl nx ls (.int y :: .int x :: r) μ = k nx ls (.int (x <<< (y &&& 31)) :: r) μ := rfl
theorem st_ishr {x y : Int32} : stepK d cl k .ishr nx ls (.int y :: .int x :: r) μ = k nx ls (.int (x >>> (y &&& 31)) :: r) μ := rfl
theorem st_iushr {x y : Int32} : stepK d cl k .iushr nx ls (.int y :: .int x :: r) μ = k nx ls (.int ((x.toUInt32 >>> (y.toUInt32 &&& Int32.toUInt32 31)).toInt32) :: r) μ := rfl
theorem st_idiv {x y : Int32} : stepK d cl k .idiv nx ls (.int y :: .int x :: r) μ = if y = 0 then none else k nx ls (.int (x / y) :: r) μ := by
  show goK cl k nx ls μ (if y = 0 then none else some (.inl (nx, ls, .int (x / y) :: r, μ))) = _
  split <;> rfl
theorem st_irem {x y : Int32} : stepK d cl k .irem nx ls (.int y :: .int x :: r) μ = if y = 0 then none else k nx ls (.int (x - x / y * y) :: r) μ := by
  show goK cl k nx ls μ (if y = 0 then none else some (.inl (nx, ls, .int (x - x / y * y) :: r, μ))) = _
  split <;> rfl
theorem st_i2b {x : Int32} : stepK d cl k .i2b nx ls (.int x :: r) μ = k nx ls (.int x.toInt8.toInt32 :: r) μ := rfl
theorem st_i2s {x : Int32} : stepK d cl k .i2s nx ls (.int x :: r) μ = k nx ls (.int x.toInt16.toInt32 :: r) μ := rfl
theorem st_i2c {x : Int32} : stepK d cl k .i2c nx ls (.int x :: r) μ = k nx ls (.int (x.toUInt32 % 65536).toInt32 :: r) μ := rfl
theorem st_i2l {x : Int32} : stepK d cl k .i2l nx ls (.int x :: r) μ = k nx ls (.long x.toInt64 :: r) μ := rfl
theorem st_l2i {x : Int64} : stepK d cl k .l2i nx ls (.long x :: r) μ = k nx ls (.int x.toInt32 :: r) μ := rfl
theorem st_land {x y : Int64} : stepK d cl k .land nx ls (.long y :: .long x :: r) μ = k nx ls (.long (x &&& y) :: r) μ := rfl
theorem st_lor {x y : Int64} : stepK d cl k .lor nx ls (.long y :: .long x :: r) μ = k nx ls (.long (x ||| y) :: r) μ := rfl
theorem st_lshl {x : Int64} {y : Int32} : stepK d cl k .lshl nx ls (.int y :: .long x :: r) μ = k nx ls (.long (x <<< (y.toInt64 &&& 63)) :: r) μ := rfl
theorem st_lshr {x : Int64} {y : Int32} : stepK d cl k .lshr nx ls (.int y :: .long x :: r) μ = k nx ls (.long (x >>> (y.toInt64 &&& 63)) :: r) μ := rfl
theorem st_lcmp {x y : Int64} : stepK d cl k .lcmp nx ls (.long y :: .long x :: r) μ = k nx ls (.int (if x < y then -1 else if x = y then 0 else 1) :: r) μ := rfl
theorem st_dup {x : Int32} : stepK d cl k .dup nx ls (.int x :: r) μ = k nx ls (.int x :: .int x :: r) μ := rfl
theorem st_dupa {x : Nat} : stepK d cl k .dup nx ls (.ref x :: r) μ = if x = 150 then none else k nx ls (.ref x :: .ref x :: r) μ := by
  show goK cl k nx ls μ (if x = 150 then none else some (.inl (nx, ls, .ref x :: .ref x :: r, μ))) = _
  split <;> rfl
theorem st_dup2 {y : Int32} {x : Nat} : stepK d cl k .dup2 nx ls (.int y :: .ref x :: r) μ = if x = 150 then none else k nx ls (.int y :: .ref x :: .int y :: .ref x :: r) μ := by
  show goK cl k nx ls μ (if x = 150 then none else some (.inl (nx, ls, .int y :: .ref x :: .int y :: .ref x :: r, μ))) = _
  split <;> rfl
theorem st_pop {y : Int32} : stepK d cl k .pop nx ls (.int y :: r) μ = k nx ls r μ := rfl
theorem st_goto {t : Int} : stepK d cl k (.goto t) nx ls st μ = k t.toNat ls st μ := rfl
theorem st_br (c : Bool) {t : Nat} : goK cl k nx ls μ (some (.inl (if c = true then t else nx, ls, r, μ))) = if c = true then k t ls r μ else k nx ls r μ := by cases c <;> rfl
theorem st_ceq {x y : Int32} {t : Int} : stepK d cl k (.if_icmp .eq t) nx ls (.int y :: .int x :: r) μ = if x = y then k t.toNat ls r μ else k nx ls r μ := by
  refine (st_br (decide (x = y))).trans ?_
  by_cases h : x = y <;> simp [h]
theorem st_cne {x y : Int32} {t : Int} : stepK d cl k (.if_icmp .ne t) nx ls (.int y :: .int x :: r) μ = if x = y then k nx ls r μ else k t.toNat ls r μ := by
  refine (st_br (!decide (x = y))).trans ?_
  by_cases h : x = y <;> simp [h]
theorem st_clt {x y : Int32} {t : Int} : stepK d cl k (.if_icmp .lt t) nx ls (.int y :: .int x :: r) μ = if x < y then k t.toNat ls r μ else k nx ls r μ := by
  refine (st_br (decide (x < y))).trans ?_
  by_cases h : x < y <;> simp [h]
theorem st_cge {x y : Int32} {t : Int} : stepK d cl k (.if_icmp .ge t) nx ls (.int y :: .int x :: r) μ = if x < y then k nx ls r μ else k t.toNat ls r μ := by
  refine (st_br (!decide (x < y))).trans ?_
  by_cases h : x < y <;> simp [h]
theorem st_cgt {x y : Int32} {t : Int} : stepK d cl k (.if_icmp .gt t) nx ls (.int y :: .int x :: r) μ = if y < x then k t.toNat ls r μ else k nx ls r μ := by
  refine (st_br (decide (y < x))).trans ?_
  by_cases h : y < x <;> simp [h]
theorem st_cle {x y : Int32} {t : Int} : stepK d cl k (.if_icmp .le t) nx ls (.int y :: .int x :: r) μ = if y < x then k nx ls r μ else k t.toNat ls r μ := by
  refine (st_br (!decide (y < x))).trans ?_
  by_cases h : y < x <;> simp [h]
theorem st_zeq {x : Int32} {t : Int} : stepK d cl k (.ifCond .eq t) nx ls (.int x :: r) μ = if x = 0 then k t.toNat ls r μ else k nx ls r μ := by
  refine (st_br (decide (x = 0))).trans ?_
  by_cases h : x = 0 <;> simp [h]
theorem st_zne {x : Int32} {t : Int} : stepK d cl k (.ifCond .ne t) nx ls (.int x :: r) μ = if x = 0 then k nx ls r μ else k t.toNat ls r μ := by
  refine (st_br (!decide (x = 0))).trans ?_
  by_cases h : x = 0 <;> simp [h]
theorem st_zlt {x : Int32} {t : Int} : stepK d cl k (.ifCond .lt t) nx ls (.int x :: r) μ = if x < 0 then k t.toNat ls r μ else k nx ls r μ := by
  refine (st_br (decide (x < 0))).trans ?_
  by_cases h : x < 0 <;> simp [h]
theorem st_zge {x : Int32} {t : Int} : stepK d cl k (.ifCond .ge t) nx ls (.int x :: r) μ = if x < 0 then k nx ls r μ else k t.toNat ls r μ := by
  refine (st_br (!decide (x < 0))).trans ?_
  by_cases h : x < 0 <;> simp [h]
theorem st_zgt {x : Int32} {t : Int} : stepK d cl k (.ifCond .gt t) nx ls (.int x :: r) μ = if 0 < x then k t.toNat ls r μ else k nx ls r μ := by
  refine (st_br (decide (0 < x))).trans ?_
  by_cases h : 0 < x <;> simp [h]
theorem st_zle {x : Int32} {t : Int} : stepK d cl k (.ifCond .le t) nx ls (.int x :: r) μ = if 0 < x then k nx ls r μ else k t.toNat ls r μ := by
  refine (st_br (!decide (0 < x))).trans ?_
  by_cases h : 0 < x <;> simp [h]
theorem swT_map {α β : Type} (g : α → β) (f : Int → α) (dd : Int) (os : List Int) : ∀ (lo : Int) (x : Int32), g (swT f dd lo os x) = swT (fun t => g (f t)) dd lo os x := by
  induction os with
  | nil => intro lo x; rfl
  | cons o os ih => intro lo x; simp only [swT]; split; rfl; exact ih _ _
theorem swL_map {α β : Type} (g : α → β) (f : Int → α) (dd : Int) (os : List (Int × Int)) (x : Int32) : g (swL f dd os x) = swL (fun t => g (f t)) dd os x := by
  induction os with
  | nil => rfl
  | cons o os ih => simp only [swL]; split; rfl; exact ih
theorem st_tsw {x : Int32} {dd lo hi : Int} {os : Array Int} : stepK d cl k (.tableswitch dd lo hi os) nx ls (.int x :: r) μ = swT (fun t => k t.toNat ls r μ) dd lo os.toList x := swT_map (fun t => k t ls r μ) Int.toNat dd os.toList lo x
theorem st_lsw {x : Int32} {dd : Int} {os : Array (Int × Int)} : stepK d cl k (.lookupswitch dd os) nx ls (.int x :: r) μ = swL (fun t => k t.toNat ls r μ) dd os.toList x := swL_map (fun t => k t ls r μ) Int.toNat dd os.toList x
theorem aLd_ {kk : Nat → Bool} {i : Int32} {o : Nat} : goK cl k nx ls μ (aLd nx ls (.int i :: .ref o :: r) μ kk) = if (kk o && ib i (aLn μ o)) = true then k nx ls (.int (rdI μ o i.toNatClampNeg) :: r) μ else none := by
  show goK cl k nx ls μ (if (kk o && ib i (aLn μ o)) = true then some (.inl (nx, ls, .int (rdI μ o i.toNatClampNeg) :: r, μ)) else none) = _
  split <;> rfl
theorem st_iaload {i : Int32} {o : Nat} : stepK d cl k .iaload nx ls (.int i :: .ref o :: r) μ = if (kI o && ib i (aLn μ o)) = true then k nx ls (.int (rdI μ o i.toNatClampNeg) :: r) μ else none := aLd_
theorem st_baload {i : Int32} {o : Nat} : stepK d cl k .baload nx ls (.int i :: .ref o :: r) μ = if (kB o && ib i (aLn μ o)) = true then k nx ls (.int (rdI μ o i.toNatClampNeg) :: r) μ else none := aLd_
theorem st_caload {i : Int32} {o : Nat} : stepK d cl k .caload nx ls (.int i :: .ref o :: r) μ = if ((cKd o == 4) && ib i (aLn μ o)) = true then k nx ls (.int (rdI μ o i.toNatClampNeg) :: r) μ else none := aLd_ (kk := fun k => cKd k == 4)
theorem st_laload {i : Int32} {o : Nat} : stepK d cl k .laload nx ls (.int i :: .ref o :: r) μ = if (cKd o == 5 && ib i (aNn o)) = true then k nx ls (.long (μ.2 o i.toNatClampNeg) :: r) μ else none := by
  show goK cl k nx ls μ (if (cKd o == 5 && ib i (aNn o)) = true then some (.inl (nx, ls, .long (μ.2 o i.toNatClampNeg) :: r, μ)) else none) = _
  split <;> rfl
theorem st_aaload {i : Int32} {o : Nat} : stepK d cl k .aaload nx ls (.int i :: .ref o :: r) μ = if (o == 45 && ib i 4) = true then k nx ls (.ref (46 + 2 * i.toNatClampNeg) :: r) μ else none := by
  show goK cl k nx ls μ (if (o == 45 && ib i 4) = true then some (.inl (nx, ls, .ref (46 + 2 * i.toNatClampNeg) :: r, μ)) else none) = _
  split <;> rfl
theorem st_iastore {v i : Int32} {o : Nat} : stepK d cl k .iastore nx ls (.int v :: .int i :: .ref o :: r) μ = if (cKd o == 2 && ib i (aNn o)) = true then k nx ls r (wI μ o i.toNatClampNeg v) else none := by
  show goK cl k nx ls μ (if (cKd o == 2 && ib i (aNn o)) = true then some (.inl (nx, ls, r, wI μ o i.toNatClampNeg v)) else none) = _
  split <;> rfl
theorem st_bastore {v i : Int32} {o : Nat} : stepK d cl k .bastore nx ls (.int v :: .int i :: .ref o :: r) μ = if (cKd o == 3 && ib i (aNn o)) = true then k nx ls r (wI μ o i.toNatClampNeg v.toInt8.toInt32) else none := by
  show goK cl k nx ls μ (if (cKd o == 3 && ib i (aNn o)) = true then some (.inl (nx, ls, r, wI μ o i.toNatClampNeg v.toInt8.toInt32)) else none) = _
  split <;> rfl
theorem st_lastore {v : Int64} {i : Int32} {o : Nat} : stepK d cl k .lastore nx ls (.long v :: .int i :: .ref o :: r) μ = if (cKd o == 5 && ib i (aNn o)) = true then k nx ls r (wL μ o i.toNatClampNeg v) else none := by
  show goK cl k nx ls μ (if (cKd o == 5 && ib i (aNn o)) = true then some (.inl (nx, ls, r, wL μ o i.toNatClampNeg v)) else none) = _
  split <;> rfl
theorem st_alen {o : Nat} : stepK d cl k .arraylength nx ls (.ref o :: r) μ = if kA o = true then k nx ls (.int (Int32.ofNat (aLn μ o)) :: r) μ else none := by
  show goK cl k nx ls μ (if kA o = true then some (.inl (nx, ls, .int (Int32.ofNat (aLn μ o)) :: r, μ)) else none) = _
  split <;> rfl
theorem st_get {o j : Nat} : stepK d cl k (.getfield j) nx ls (.ref o :: r) μ = if (cIx o == j / 100) = true then gfK ((oFs o)[j % 100]?) (fun v => k nx ls (v :: r) μ) (rdI μ o (j % 100)) else none := by
  show goK cl k nx ls μ (if (cIx o == j / 100) = true then (match (oFs o)[j % 100]? with | some (some t) => some (.inl (nx, ls, .ref t :: r, μ)) | some none => some (.inl (nx, ls, .int (rdI μ o (j % 100)) :: r, μ)) | none => none) else none) = _
  split
  · rcases (oFs o)[j % 100]? with _ | _ | _ <;> rfl
  · rfl
theorem st_put {o j : Nat} {v : Int32} : stepK d cl k (.putfield j) nx ls (.int v :: .ref o :: r) μ = if (cKd o == 1 && cIx o == j / 100 && (oFs o)[j % 100]? == some none && bOK o (j % 100) v) = true then k nx ls r (wI μ o (j % 100) v) else none := by
  show goK cl k nx ls μ (if (cKd o == 1 && cIx o == j / 100 && (oFs o)[j % 100]? == some none && bOK o (j % 100) v) = true then some (.inl (nx, ls, r, wI μ o (j % 100) v)) else none) = _
  split <;> rfl
theorem st_gets {t : Nat} : stepK d cl k (.getstatic t) nx ls st μ = k nx ls (.ref t :: st) μ := rfl
theorem st_ldc {t : Nat} : stepK d cl k (.ldc t) nx ls st μ = k nx ls (.ref t :: st) μ := rfl
def cont (k : sK) (nx : Nat) (ls r : List Value) (q : sR) : sR := q.bind (fun u => k nx ls (u.1.toList ++ r) u.2)
theorem cont_v {μ : sM} {v : Value} : cont k nx ls r (some (some v, μ)) = k nx ls (v :: r) μ := rfl
theorem cont_n {μ : sM} : cont k nx ls r (some (none, μ)) = k nx ls r μ := rfl
theorem cont_ite {c : Prop} [Decidable c] {a b : sR} : cont k nx ls r (if c then a else b) = if c then cont k nx ls r a else cont k nx ls r b := by split <;> rfl
theorem vi_ {y n : Nat} : stepK d cl k (.invokeinterface y n) nx ls st μ = if n ≤ st.length ∧ (st.drop n).length ≤ 4 ∧ rcOK y (st.take n).reverse = true then cont k nx ls (st.drop n) (cl y (st.take n).reverse μ) else none := by
  show goK cl k nx ls μ (if n ≤ st.length ∧ (st.drop n).length ≤ 4 ∧ rcOK y (st.take n).reverse = true then some (.inr (.inl (y, (st.take n).reverse, st.drop n))) else none) = _
  split <;> rfl
theorem vs_ {y n : Nat} : stepK d cl k (.multianewarray y n) nx ls st μ = if n ≤ st.length ∧ (st.drop n).length ≤ 4 then cont k nx ls (st.drop n) (cl y (st.take n).reverse μ) else none := by
  show goK cl k nx ls μ (if n ≤ st.length ∧ (st.drop n).length ≤ 4 then some (.inr (.inl (y, (st.take n).reverse, st.drop n))) else none) = _
  split <;> rfl
theorem st_v1 {y : Nat} {a : Value} : stepK d cl k (.invokeinterface y 1) nx ls (a :: r) μ = if r.length ≤ 4 ∧ rcOK y [a] = true then cont k nx ls r (cl y [a] μ) else none := by rw [vi_]; simp
theorem st_v2 {y : Nat} {a b : Value} : stepK d cl k (.invokeinterface y 2) nx ls (b :: a :: r) μ = if r.length ≤ 4 ∧ rcOK y [a, b] = true then cont k nx ls r (cl y [a, b] μ) else none := by rw [vi_]; simp
theorem st_v3 {y : Nat} {a b c : Value} : stepK d cl k (.invokeinterface y 3) nx ls (c :: b :: a :: r) μ = if r.length ≤ 4 ∧ rcOK y [a, b, c] = true then cont k nx ls r (cl y [a, b, c] μ) else none := by rw [vi_]; simp
theorem st_v4 {y : Nat} {a b c e : Value} : stepK d cl k (.invokeinterface y 4) nx ls (e :: c :: b :: a :: r) μ = if r.length ≤ 4 ∧ rcOK y [a, b, c, e] = true then cont k nx ls r (cl y [a, b, c, e] μ) else none := by rw [vi_]; simp
theorem st_v5 {y : Nat} {a b c e f : Value} : stepK d cl k (.invokeinterface y 5) nx ls (f :: e :: c :: b :: a :: r) μ = if r.length ≤ 4 ∧ rcOK y [a, b, c, e, f] = true then cont k nx ls r (cl y [a, b, c, e, f] μ) else none := by rw [vi_]; simp
theorem st_v6 {y : Nat} {a b c e f g : Value} : stepK d cl k (.invokeinterface y 6) nx ls (g :: f :: e :: c :: b :: a :: r) μ = if r.length ≤ 4 ∧ rcOK y [a, b, c, e, f, g] = true then cont k nx ls r (cl y [a, b, c, e, f, g] μ) else none := by rw [vi_]; simp
theorem st_s1 {y : Nat} {a : Value} : stepK d cl k (.multianewarray y 1) nx ls (a :: r) μ = if r.length ≤ 4 then cont k nx ls r (cl y [a] μ) else none := by rw [vs_]; simp
theorem st_s2 {y : Nat} {a b : Value} : stepK d cl k (.multianewarray y 2) nx ls (b :: a :: r) μ = if r.length ≤ 4 then cont k nx ls r (cl y [a, b] μ) else none := by rw [vs_]; simp
theorem st_s3 {y : Nat} {a b c : Value} : stepK d cl k (.multianewarray y 3) nx ls (c :: b :: a :: r) μ = if r.length ≤ 4 then cont k nx ls r (cl y [a, b, c] μ) else none := by rw [vs_]; simp
theorem st_s4 {y : Nat} {a b c e : Value} : stepK d cl k (.multianewarray y 4) nx ls (e :: c :: b :: a :: r) μ = if r.length ≤ 4 then cont k nx ls r (cl y [a, b, c, e] μ) else none := by rw [vs_]; simp
theorem st_cpy {x : Nat} {n dp sp : Int32} {t o : Nat} : stepK (d + 1) cl k (.invokedynamic x) nx ls (.int n :: .int dp :: .ref t :: .int sp :: .ref o :: r) μ = if r.length ≤ 4 then
    (if (cKd o == 2 && cKd t == 2 && cpOK (aNn o) (aNn t) sp dp n) = true then k nx ls r (cpI μ o sp.toNatClampNeg t dp.toNatClampNeg n.toNatClampNeg)
     else if (cKd o == 5 && cKd t == 5 && cpOK (aNn o) (aNn t) sp dp n) = true then k nx ls r (cpL μ o sp.toNatClampNeg t dp.toNatClampNeg n.toNatClampNeg) else none) else none := by
  show goK cl k nx ls μ (if d + 1 ≠ 0 ∧ r.length ≤ 4 then (if (cKd o == 2 && cKd t == 2 && cpOK (aNn o) (aNn t) sp dp n) = true then some (.inl (nx, ls, r, cpI μ o sp.toNatClampNeg t dp.toNatClampNeg n.toNatClampNeg)) else if (cKd o == 5 && cKd t == 5 && cpOK (aNn o) (aNn t) sp dp n) = true then some (.inl (nx, ls, r, cpL μ o sp.toNatClampNeg t dp.toNatClampNeg n.toNatClampNeg)) else none) else none) = _
  by_cases h : r.length ≤ 4
  · rw [if_pos ⟨Nat.succ_ne_zero d, h⟩, if_pos h]
    split
    · rfl
    · split <;> rfl
  · rw [if_neg (fun q => h q.2), if_neg h]
    rfl
theorem st_iret {v : Int32} : stepK d cl k .ireturn nx ls [.int v] μ = some (some (.int v), μ) := rfl
theorem st_zret {v : Int32} : stepK d cl k .dreturn nx ls [.int v] μ = if v = 0 ∨ v = 1 then some (some (.int v), μ) else none := by
  show goK cl k nx ls μ (if v = 0 ∨ v = 1 then some (.inr (.inr (some (.int v)))) else none) = _
  split <;> rfl
theorem st_bret {v : Int32} : stepK d cl k .areturn nx ls [.int v] μ = if v.toInt8.toInt32 = v then some (some (.int v), μ) else none := by
  show goK cl k nx ls μ (if v.toInt8.toInt32 = v then some (.inr (.inr (some (.int v)))) else none) = _
  split <;> rfl
theorem st_cret {v : Int32} : stepK d cl k .freturn nx ls [.int v] μ = if (v.toUInt32 % 65536).toInt32 = v then some (some (.int v), μ) else none := by
  show goK cl k nx ls μ (if (v.toUInt32 % 65536).toInt32 = v then some (.inr (.inr (some (.int v)))) else none) = _
  split <;> rfl
theorem st_lret {v : Int64} : stepK d cl k .lreturn nx ls [.long v] μ = some (some (.long v), μ) := rfl
theorem st_vret : stepK d cl k .return_ nx ls [] μ = some (none, μ) := rfl
end
theorem xp_0 : xp [] = [] := rfl
theorem xp_i {x : Int32} {t : List Value} : xp (.int x :: t) = .int x :: xp t := rfl
theorem xp_r {x : Nat} {t : List Value} : xp (.ref x :: t) = .ref x :: xp t := rfl
theorem xp_l {x : Int64} {t : List Value} : xp (.long x :: t) = .long x :: .null :: xp t := rfl
theorem callD_e {d y : Nat} {a : List Value} {μ : sM} (h : (xp a).length ≤ mLx y) : callD (d + 1) y a μ = runD d y 0 (loc0 y a) [] μ := by rw [callD_s, if_pos h]

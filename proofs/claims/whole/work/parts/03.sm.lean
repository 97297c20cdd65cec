/-! 03.sm: the small machine: memory, one step, runs with fuel, their limit -/
abbrev sM : Type := (Nat → Nat → Int32) × (Nat → Nat → Int64)
abbrev sR : Type := Option (Option Value × sM)
abbrev sK : Type := Nat → List Value → List Value → sM → sR
abbrev sA : Type := (Nat × List Value × List Value × sM) ⊕ ((Nat × List Value × List Value) ⊕ Option Value)
def abvT : List Int32 := [0, 0, 0, 2, 2, 1, 0]
def strT : List (List Int32) := [[99, 104, 105, 108, 100], [112, 97, 116, 105, 101, 110, 99, 101], [108, 101, 110, 103, 116, 104], [119, 111, 114, 100, 115], [115, 101, 101, 110], [103, 105, 114, 108], [111, 102], [108, 105, 110, 101, 32, 115, 101, 101, 110, 32, 104, 101, 97, 112, 101, 100, 32, 108, 101, 97, 110, 101, 100, 32, 99, 111, 112, 105, 101, 100, 32, 99, 111, 100, 101, 100, 32, 108, 101, 102, 116], [119, 111, 114, 107, 32, 99, 111, 110, 100, 117, 99, 116, 32, 104, 97, 110, 100, 32, 118, 111, 105, 99, 101]]
/-- what an int, byte or char place holds: below 100 the memory, above it constants -/
def rdI (μ : sM) (k i : Nat) : Int32 := if k < 100 then μ.1 k i else if k = 101 then abvT.getD i 0 else if k < 120 then 0 else (strT.getD (k - 120) []).getD i 0
def aLn (μ : sM) (k : Nat) : Nat := if k = 99 then (μ.1 98 0).toNatClampNeg else aNn k
def wI (μ : sM) (k i : Nat) (v : Int32) : sM := (fun a b => if a = k ∧ b = i then v else μ.1 a b, μ.2)
def wL (μ : sM) (k i : Nat) (v : Int64) : sM := (μ.1, fun a b => if a = k ∧ b = i then v else μ.2 a b)
def cpI (μ : sM) (s sp t tp n : Nat) : sM := (fun a b => if a = t ∧ tp ≤ b ∧ b < tp + n then μ.1 s (sp + (b - tp)) else μ.1 a b, μ.2)
def cpL (μ : sM) (s sp t tp n : Nat) : sM := (μ.1, fun a b => if a = t ∧ tp ≤ b ∧ b < tp + n then μ.2 s (sp + (b - tp)) else μ.2 a b)
/-- an index within a row -/
def ib (i : Int32) (n : Nat) : Bool := !decide (i < 0) && decide (i.toNatClampNeg < n)
def icB (c : Jvm.ClassFile.Cond) (x y : Int32) : Bool := match c with
  | .eq => decide (x = y)
  | .ne => !decide (x = y)
  | .lt => decide (x < y)
  | .ge => !decide (x < y)
  | .gt => decide (y < x)
  | .le => !decide (y < x)
def stB (ls : List Value) (k : Nat) : Bool := decide (k < ls.length) && (match k with
  | 0 => true
  | j + 1 => match ls.getD j .null with
    | .int _ => true
    | .ref _ => true
    | .null => true
    | _ => false)
def bOK (k j : Nat) (v : Int32) : Bool := !((k == 0 && j == 9) || (k == 55 && (j == 3 || j == 21))) || v == 0 || v == 1
def kI (k : Nat) : Bool := cKd k == 2 || cKd k == 7 || cKd k == 8
def kB (k : Nat) : Bool := cKd k == 3 || cKd k == 10
def kA (k : Nat) : Bool := !(cKd k == 0 || cKd k == 1 || cKd k == 9)
def rcOK (y : Nat) (a : List Value) : Bool := match a with
  | .ref k :: _ => cIx k == y / 100
  | _ => false
def cpOK (n0 n1 : Nat) (sp dp n : Int32) : Bool := !decide (sp < 0) && !decide (dp < 0) && !decide (n < 0) && decide (sp.toNatClampNeg + n.toNatClampNeg ≤ n0) && decide (dp.toNatClampNeg + n.toNatClampNeg ≤ n1)
def swT {α : Type} (f : Int → α) (d : Int) : Int → List Int → Int32 → α
  | _, [], _ => f d
  | lo, o :: os, x => if x = Int32.ofInt lo then f o else swT f d (lo + 1) os x
def swL {α : Type} (f : Int → α) (d : Int) : List (Int × Int) → Int32 → α
  | [], _ => f d
  | q :: os, x => if x = Int32.ofInt q.1 then f q.2 else swL f d os x
section
variable (nx : Nat) (ls st : List Value) (μ : sM)
def a1 (f : Int32 → Int32) : Option sA := match st with
  | .int x :: r => some (.inl (nx, ls, .int (f x) :: r, μ))
  | _ => none
def a2 (f : Int32 → Int32 → Int32) : Option sA := match st with
  | .int y :: .int x :: r => some (.inl (nx, ls, .int (f x y) :: r, μ))
  | _ => none
def a2z (f : Int32 → Int32 → Int32) : Option sA := match st with
  | .int y :: .int x :: r => if y = 0 then none else some (.inl (nx, ls, .int (f x y) :: r, μ))
  | _ => none
def l2 (f : Int64 → Int64 → Int64) : Option sA := match st with
  | .long y :: .long x :: r => some (.inl (nx, ls, .long (f x y) :: r, μ))
  | _ => none
def l2s (f : Int64 → Int32 → Int64) : Option sA := match st with
  | .int y :: .long x :: r => some (.inl (nx, ls, .long (f x y) :: r, μ))
  | _ => none
def aLd (kk : Nat → Bool) : Option sA := match st with
  | .int i :: .ref k :: r => if kk k && ib i (aLn μ k) then some (.inl (nx, ls, .int (rdI μ k i.toNatClampNeg) :: r, μ)) else none
  | _ => none
def aSt (kind : Nat) (f : Int32 → Int32) : Option sA := match st with
  | .int v :: .int i :: .ref k :: r => if cKd k == kind && ib i (aNn k) then some (.inl (nx, ls, r, wI μ k i.toNatClampNeg (f v))) else none
  | _ => none
def act (d : Nat) (i : Instr) : Option sA := match i with
  | .iconst v => some (.inl (nx, ls, .int (Int32.ofInt v) :: st, μ))
  | .bipush v => some (.inl (nx, ls, .long (Int64.ofInt v) :: st, μ))
  | .iload k => match ls.getD k .null with
    | .int x => some (.inl (nx, ls, .int x :: st, μ))
    | _ => none
  | .aload k => match ls.getD k .null with
    | .ref x => if x = 150 then none else some (.inl (nx, ls, .ref x :: st, μ))
    | _ => none
  | .lload k => match ls.getD k .null with
    | .long x => some (.inl (nx, ls, .long x :: st, μ))
    | _ => none
  | .istore k => match st with
    | .int x :: r => if stB ls k then some (.inl (nx, ls.set k (.int x), r, μ)) else none
    | _ => none
  | .astore k => match st with
    | .ref x :: r => if x ≠ 150 ∧ stB ls k = true then some (.inl (nx, ls.set k (.ref x), r, μ)) else none
    | _ => none
  | .lstore k => match st with
    | .long x :: r => if stB ls k && decide (k + 1 < ls.length) then some (.inl (nx, (ls.set k (.long x)).set (k + 1) .null, r, μ)) else none
    | _ => none
  | .iinc k c => match ls.getD k .null with
    | .int x => if stB ls k then some (.inl (nx, ls.set k (.int (x + Int32.ofInt c)), st, μ)) else none
    | _ => none
  | .iadd => a2 nx ls st μ (fun x y => x + y)
  | .isub => a2 nx ls st μ (fun x y => x - y)
  | .imul => a2 nx ls st μ (fun x y => x * y)
  | .iand => a2 nx ls st μ (fun x y => x &&& y)
  | .ior => a2 nx ls st μ (fun x y => x ||| y)
  | .ixor => a2 nx ls st μ (fun x y => x ^^^ y)
  | .ishl => a2 nx ls st μ (fun x y => x <<< (y &&& 31))
  | .ishr => a2 nx ls st μ (fun x y => x >>> (y &&& 31))
  | .iushr => a2 nx ls st μ (fun x y => (x.toUInt32 >>> (y.toUInt32 &&& Int32.toUInt32 31)).toInt32)
  | .idiv => a2z nx ls st μ (fun x y => x / y)
  | .irem => a2z nx ls st μ (fun x y => x - x / y * y)
  | .i2b => a1 nx ls st μ (fun x => x.toInt8.toInt32)
  | .i2s => a1 nx ls st μ (fun x => x.toInt16.toInt32)
  | .i2c => a1 nx ls st μ (fun x => (x.toUInt32 % 65536).toInt32)
  | .i2l => match st with
    | .int x :: r => some (.inl (nx, ls, .long x.toInt64 :: r, μ))
    | _ => none
  | .l2i => match st with
    | .long x :: r => some (.inl (nx, ls, .int x.toInt32 :: r, μ))
    | _ => none
  | .land => l2 nx ls st μ (fun x y => x &&& y)
  | .lor => l2 nx ls st μ (fun x y => x ||| y)
  | .lshl => l2s nx ls st μ (fun x y => x <<< (y.toInt64 &&& 63))
  | .lshr => l2s nx ls st μ (fun x y => x >>> (y.toInt64 &&& 63))
  | .lcmp => match st with
    | .long y :: .long x :: r => some (.inl (nx, ls, .int (if x < y then -1 else if x = y then 0 else 1) :: r, μ))
    | _ => none
  | .dup => match st with
    | .int x :: r => some (.inl (nx, ls, .int x :: .int x :: r, μ))
    | .ref x :: r => if x = 150 then none else some (.inl (nx, ls, .ref x :: .ref x :: r, μ))
    | _ => none
  | .dup2 => match st with
    | .int y :: .ref x :: r => if x = 150 then none else some (.inl (nx, ls, .int y :: .ref x :: .int y :: .ref x :: r, μ))
    | _ => none
  | .pop => match st with
    | .int _ :: r => some (.inl (nx, ls, r, μ))
    | _ => none
  | .goto t => some (.inl (t.toNat, ls, st, μ))
  | .if_icmp c t => match st with
    | .int y :: .int x :: r => some (.inl (if icB c x y then t.toNat else nx, ls, r, μ))
    | _ => none
  | .ifCond c t => match st with
    | .int x :: r => some (.inl (if icB c x 0 then t.toNat else nx, ls, r, μ))
    | _ => none
  | .tableswitch dd lo _ os => match st with
    | .int x :: r => some (.inl (swT Int.toNat dd lo os.toList x, ls, r, μ))
    | _ => none
  | .lookupswitch dd ps => match st with
    | .int x :: r => some (.inl (swL Int.toNat dd ps.toList x, ls, r, μ))
    | _ => none
  | .iaload => aLd nx ls st μ kI
  | .baload => aLd nx ls st μ kB
  | .caload => aLd nx ls st μ (fun k => cKd k == 4)
  | .laload => match st with
    | .int i :: .ref k :: r => if cKd k == 5 && ib i (aNn k) then some (.inl (nx, ls, .long (μ.2 k i.toNatClampNeg) :: r, μ)) else none
    | _ => none
  | .aaload => match st with
    | .int i :: .ref k :: r => if k == 45 && ib i 4 then some (.inl (nx, ls, .ref (46 + 2 * i.toNatClampNeg) :: r, μ)) else none
    | _ => none
  | .iastore => aSt nx ls st μ 2 (fun v => v)
  | .bastore => aSt nx ls st μ 3 (fun v => v.toInt8.toInt32)
  | .lastore => match st with
    | .long v :: .int i :: .ref k :: r => if cKd k == 5 && ib i (aNn k) then some (.inl (nx, ls, r, wL μ k i.toNatClampNeg v)) else none
    | _ => none
  | .arraylength => match st with
    | .ref k :: r => if kA k then some (.inl (nx, ls, .int (Int32.ofNat (aLn μ k)) :: r, μ)) else none
    | _ => none
  | .getfield j => match st with
    | .ref k :: r => if cIx k == j / 100 then (match (oFs k)[j % 100]? with
      | some (some t) => some (.inl (nx, ls, .ref t :: r, μ))
      | some none => some (.inl (nx, ls, .int (rdI μ k (j % 100)) :: r, μ))
      | none => none) else none
    | _ => none
  | .putfield j => match st with
    | .int v :: .ref k :: r => if cKd k == 1 && cIx k == j / 100 && (oFs k)[j % 100]? == some none && bOK k (j % 100) v then some (.inl (nx, ls, r, wI μ k (j % 100) v)) else none
    | _ => none
  | .getstatic k => some (.inl (nx, ls, .ref k :: st, μ))
  | .ldc k => some (.inl (nx, ls, .ref k :: st, μ))
  | .invokeinterface y n => if n ≤ st.length ∧ (st.drop n).length ≤ 4 ∧ rcOK y (st.take n).reverse = true then some (.inr (.inl (y, (st.take n).reverse, st.drop n))) else none
  | .multianewarray y n => if n ≤ st.length ∧ (st.drop n).length ≤ 4 then some (.inr (.inl (y, (st.take n).reverse, st.drop n))) else none
  | .invokedynamic _ => match st with
    | .int n :: .int dp :: .ref t :: .int sp :: .ref k :: r => if d ≠ 0 ∧ r.length ≤ 4 then
        (if cKd k == 2 && cKd t == 2 && cpOK (aNn k) (aNn t) sp dp n then some (.inl (nx, ls, r, cpI μ k sp.toNatClampNeg t dp.toNatClampNeg n.toNatClampNeg))
         else if cKd k == 5 && cKd t == 5 && cpOK (aNn k) (aNn t) sp dp n then some (.inl (nx, ls, r, cpL μ k sp.toNatClampNeg t dp.toNatClampNeg n.toNatClampNeg)) else none) else none
    | _ => none
  | .ireturn => match st with
    | [.int v] => some (.inr (.inr (some (.int v))))
    | _ => none
  | .dreturn => match st with
    | [.int v] => if v = 0 ∨ v = 1 then some (.inr (.inr (some (.int v)))) else none
    | _ => none
  | .areturn => match st with
    | [.int v] => if v.toInt8.toInt32 = v then some (.inr (.inr (some (.int v)))) else none
    | _ => none
  | .freturn => match st with
    | [.int v] => if (v.toUInt32 % 65536).toInt32 = v then some (.inr (.inr (some (.int v)))) else none
    | _ => none
  | .lreturn => match st with
    | [.long v] => some (.inr (.inr (some (.long v))))
    | _ => none
  | .return_ => match st with
    | [] => some (.inr (.inr none))
    | _ => none
  | _ => none
end
def goK (cl : Nat → List Value → sM → sR) (k : sK) (nx : Nat) (ls : List Value) (μ : sM) (a : Option sA) : sR := match a with
  | none => none
  | some (.inl q) => k q.1 q.2.1 q.2.2.1 q.2.2.2
  | some (.inr (.inl q)) => (cl q.1 q.2.1 μ).bind (fun u => k nx ls (u.1.toList ++ q.2.2) u.2)
  | some (.inr (.inr r)) => some (r, μ)
def stepK (d : Nat) (cl : Nat → List Value → sM → sR) (k : sK) (i : Instr) (nx : Nat) (ls st : List Value) (μ : sM) : sR := goK cl k nx ls μ (act nx ls st μ d i)
def xp : List Value → List Value
  | [] => []
  | v :: t => if v.category = 2 then v :: .null :: xp t else v :: xp t
def pad : Nat → List Value → List Value
  | 0, _ => []
  | n + 1, [] => .null :: pad n []
  | n + 1, a :: t => a :: pad n t
def loc0 (y : Nat) (a : List Value) : List Value := pad (mLx y) (xp a)
def run (d : Nat) (n : Nat) (m : Nat) : sK := match n with
  | 0 => fun _ _ _ _ => none
  | n + 1 => fun pc ls st μ => stepK d (fun y a μ => match d with
    | 0 => none
    | d + 1 => if (xp a).length ≤ mLx y then run d n y 0 (loc0 y a) [] μ else none) (run d n m) (smc m pc).1 (smc m pc).2.1 ls st μ
theorem goK_mono {cl cl' : Nat → List Value → sM → sR} {k k' : sK} (hc : ∀ y a μ x, cl y a μ = some x → cl' y a μ = some x) (hk : ∀ pc ls st μ x, k pc ls st μ = some x → k' pc ls st μ = some x) {nx : Nat} {ls : List Value} {μ : sM} {a : Option sA} {x : Option Value × sM} (h : goK cl k nx ls μ a = some x) : goK cl' k' nx ls μ a = some x := by
  match a, h with
  | some (.inl q), h => exact hk _ _ _ _ _ h
  | some (.inr (.inl q)), h =>
    simp only [goK, Option.bind_eq_some_iff] at h ⊢
    obtain ⟨u, h1, h2⟩ := h
    exact ⟨u, hc _ _ _ _ h1, hk _ _ _ _ _ h2⟩
  | some (.inr (.inr r)), h => exact h
theorem run_mono (n : Nat) : ∀ (d m pc : Nat) (ls st : List Value) (μ : sM) (x : Option Value × sM), run d n m pc ls st μ = some x → run d (n + 1) m pc ls st μ = some x := by
  induction n with
  | zero => intro d m pc ls st μ x h; simp [run] at h
  | succ n ih =>
    intro d m pc ls st μ x h
    rw [run] at h ⊢
    refine goK_mono ?_ ?_ h
    · intro y a μ x h
      match d, h with
      | d + 1, h =>
        dsimp only at h ⊢
        split at h
        · rename_i hl
          rw [if_pos hl]
          exact ih _ _ _ _ _ _ _ h
        · cases h
    · intro pc ls st μ x h
      exact ih _ _ _ _ _ _ _ h
theorem run_le {n n' : Nat} (hn : n ≤ n') {d m pc : Nat} {ls st : List Value} {μ : sM} {x : Option Value × sM} (h : run d n m pc ls st μ = some x) : run d n' m pc ls st μ = some x := by
  induction hn with
  | refl => exact h
  | step _ ih => exact run_mono _ _ _ _ _ _ _ _ ih
theorem runD_ex (d m pc : Nat) (ls st : List Value) (μ : sM) : ∃ r : sR, (∀ n x, run d n m pc ls st μ = some x → r = some x) ∧ ∀ x, r = some x → ∃ n, run d n m pc ls st μ = some x := by
  rcases Classical.em (∃ n x, run d n m pc ls st μ = some x) with ⟨n, x, h⟩ | h
  · refine ⟨some x, fun n' x' h' => ?_, fun x' h' => ⟨n, by rw [h, h']⟩⟩
    have h1 := run_le (Nat.le_max_left n n') h
    have h2 := run_le (Nat.le_max_right n n') h'
    rw [h1] at h2
    exact h2
  · exact ⟨none, fun n x h' => absurd ⟨n, x, h'⟩ h, fun x h' => by simp at h'⟩
noncomputable def runD (d m : Nat) : sK := fun pc ls st μ => Classical.choose (runD_ex d m pc ls st μ)
theorem runD_of {d n m pc : Nat} {ls st : List Value} {μ : sM} {x : Option Value × sM} (h : run d n m pc ls st μ = some x) : runD d m pc ls st μ = some x := (Classical.choose_spec (runD_ex d m pc ls st μ)).1 n x h
theorem runD_to {d m pc : Nat} {ls st : List Value} {μ : sM} {x : Option Value × sM} (h : runD d m pc ls st μ = some x) : ∃ n, run d n m pc ls st μ = some x := (Classical.choose_spec (runD_ex d m pc ls st μ)).2 x h
noncomputable def callD (d y : Nat) (a : List Value) (μ : sM) : sR := match d with
  | 0 => none
  | d + 1 => if (xp a).length ≤ mLx y then runD d y 0 (loc0 y a) [] μ else none
theorem sR_ext {a b : sR} (h1 : ∀ x, a = some x → b = some x) (h2 : ∀ x, b = some x → a = some x) : a = b := by
  cases a with
  | some x => exact (h1 x rfl).symm
  | none => cases b with
    | none => rfl
    | some x => exact h2 x rfl
theorem runD_step (d m pc : Nat) (ls st : List Value) (μ : sM) : runD d m pc ls st μ = stepK d (callD d) (runD d m) (smc m pc).1 (smc m pc).2.1 ls st μ := by
  apply sR_ext
  · intro x h
    obtain ⟨n, h⟩ := runD_to h
    match n, h with
    | n + 1, h =>
      rw [run] at h
      refine goK_mono ?_ ?_ h
      · intro y a μ x h
        match d, h with
        | d + 1, h =>
          dsimp only [callD] at h ⊢
          split at h
          · rename_i hl
            rw [if_pos hl]
            exact runD_of h
          · cases h
      · intro pc ls st μ x h
        exact runD_of h
  · intro x h
    have key : ∃ n, stepK d (fun y a μ => match d with
      | 0 => none
      | d + 1 => if (xp a).length ≤ mLx y then run d n y 0 (loc0 y a) [] μ else none) (run d n m) (smc m pc).1 (smc m pc).2.1 ls st μ = some x := by
      unfold stepK at h ⊢
      match ha : act (smc m pc).2.1 ls st μ d (smc m pc).1, h with
      | some (.inl q), h =>
        obtain ⟨n, h⟩ := runD_to h
        exact ⟨n, h⟩
      | some (.inr (.inl q)), h =>
        simp only [goK, Option.bind_eq_some_iff] at h ⊢
        obtain ⟨u, h1, h2⟩ := h
        match d, h1 with
        | d + 1, h1 =>
          dsimp only [callD] at h1
          split at h1
          · rename_i hl
            obtain ⟨n1, h1⟩ := runD_to h1
            obtain ⟨n2, h2⟩ := runD_to h2
            exact ⟨max n1 n2, u, by dsimp only; rw [if_pos hl]; exact run_le (Nat.le_max_left n1 n2) h1, run_le (Nat.le_max_right n1 n2) h2⟩
          · cases h1
      | some (.inr (.inr r)), h => exact ⟨0, h⟩
    obtain ⟨n, h⟩ := key
    exact runD_of (n := n + 1) (by rw [run]; exact h)
/-- evaluation up to the next stop -/
noncomputable def evS (d m : Nat) : Nat → sK
  | 0 => runD d m
  | n + 1 => fun pc ls st μ => if (smc m pc).2.2 = true then runD d m pc ls st μ else stepK d (callD d) (evS d m n) (smc m pc).1 (smc m pc).2.1 ls st μ
theorem evS_eq (d m n : Nat) : evS d m n = runD d m := by
  induction n with
  | zero => rfl
  | succ n ih =>
    funext pc ls st μ
    show (if (smc m pc).2.2 = true then runD d m pc ls st μ else stepK d (callD d) (evS d m n) (smc m pc).1 (smc m pc).2.1 ls st μ) = _
    rw [ih, ← runD_step]
    split <;> rfl
theorem runD_ev (n : Nat) {d m pc : Nat} {ls st : List Value} {μ : sM} : runD d m pc ls st μ = stepK d (callD d) (evS d m n) (smc m pc).1 (smc m pc).2.1 ls st μ := by
  rw [evS_eq, ← runD_step]
theorem evS_s {d m n pc : Nat} {ls st : List Value} {μ : sM} : evS d m (n + 1) pc ls st μ = if (smc m pc).2.2 = true then runD d m pc ls st μ else stepK d (callD d) (evS d m n) (smc m pc).1 (smc m pc).2.1 ls st μ := rfl
theorem callD_s {d y : Nat} {a : List Value} {μ : sM} : callD (d + 1) y a μ = if (xp a).length ≤ mLx y then runD d y 0 (loc0 y a) [] μ else none := rfl

/-! 20.base: memory in rows; small numbers; the class's school beside the flat row -/
def up (k : Nat) (f : Nat → Int32) (μ : sM) : sM := (fun a => if a = k then f else μ.1 a, μ.2)
def up2 (k : Nat) (f : Nat → Int64) (μ : sM) : sM := (μ.1, fun a => if a = k then f else μ.2 a)
section
variable {k j i a : Nat} {f g : Nat → Int32} {h h' : Nat → Int64} {μ : sM}
theorem up_eq : (up k f μ).1 k = f := if_pos rfl
theorem up_ne (q : a ≠ k) : (up k f μ).1 a = μ.1 a := if_neg q
theorem up_2 : (up k f μ).2 = μ.2 := rfl
theorem up2_1 : (up2 k h μ).1 = μ.1 := rfl
theorem up2_eq : (up2 k h μ).2 k = h := if_pos rfl
theorem up2_ne (q : a ≠ k) : (up2 k h μ).2 a = μ.2 a := if_neg q
theorem wI_up {v : Int32} : wI μ k i v = up k (upd (μ.1 k) i v) μ := by
  unfold wI up
  congr 1
  funext a b
  by_cases q : a = k
  · subst q
    by_cases r : b = i <;> simp [upd, r]
  · simp [q]
theorem wL_up {v : Int64} : wL μ k i v = up2 k (vp_updL (μ.2 k) i v) μ := by
  unfold wL up2
  congr 1
  funext a b
  by_cases q : a = k
  · subst q
    by_cases r : b = i <;> simp [vp_updL, r]
  · simp [q]
theorem cpI_up {s sp tp n : Nat} : cpI μ s sp k tp n = up k (va_cpy (μ.1 s) (μ.1 k) sp tp n) μ := by
  unfold cpI up
  congr 1
  funext a b
  by_cases q : a = k
  · subst q
    simp [va_cpy]
  · simp [q]
theorem cpL_up {s sp tp n : Nat} : cpL μ s sp k tp n = up2 k (va_cpy (μ.2 s) (μ.2 k) sp tp n) μ := by
  unfold cpL up2
  congr 1
  funext a b
  by_cases q : a = k
  · subst q
    simp [va_cpy]
  · simp [q]
theorem up_up : up k f (up k g μ) = up k f μ := by
  unfold up
  congr 1
  funext a
  by_cases q : a = k <;> simp [q]
theorem up2_up2 : up2 k h (up2 k h' μ) = up2 k h μ := by
  unfold up2
  congr 1
  funext a
  by_cases q : a = k <;> simp [q]
theorem up_comm (q : k < j) : up j g (up k f μ) = up k f (up j g μ) := by
  unfold up
  congr 1
  funext a
  by_cases r : a = k
  · subst r
    simp [Nat.ne_of_lt q]
  · simp [r]
theorem up2_up : up2 j h (up k f μ) = up k f (up2 j h μ) := rfl
theorem up_id : up k (μ.1 k) μ = μ := by
  unfold up
  refine Prod.ext ?_ rfl
  funext a
  by_cases q : a = k <;> simp [q]
theorem ud_eq {v : Int32} : upd f i v i = v := if_pos rfl
theorem ud_ne {v : Int32} (q : j ≠ i) : upd f i v j = f j := if_neg q
end
/-! evaluation without a count: every way round passes a stop -/
noncomputable def evW (d m : Nat) : sK := runD d m
theorem evW_s {d m pc : Nat} {ls st : List Value} {μ : sM} : evW d m pc ls st μ = if (smc m pc).2.2 = true then runD d m pc ls st μ else stepK d (callD d) (evW d m) (smc m pc).1 (smc m pc).2.1 ls st μ := by
  unfold evW
  split
  · rfl
  · exact runD_step d m pc ls st μ
theorem runD_evW {d m pc : Nat} {ls st : List Value} {μ : sM} : runD d m pc ls st μ = stepK d (callD d) (evW d m) (smc m pc).1 (smc m pc).2.1 ls st μ := runD_step d m pc ls st μ
/-! numbers -/
theorem st_icN {d nx n : Nat} {cl : Nat → List Value → sM → sR} {k : sK} {ls st : List Value} {μ : sM} : stepK d cl k (.iconst (no_index (OfNat.ofNat n))) nx ls st μ = k nx ls (.int (nI (OfNat.ofNat n)) :: st) μ := by
  show k nx ls (.int (Int32.ofInt (OfNat.ofNat n : Int)) :: st) μ = _
  rw [show Int32.ofInt (OfNat.ofNat n : Int) = nI (OfNat.ofNat n) from Int32.ofInt_eq_ofNat]
def mI (n : Nat) : Int32 := Int32.ofInt (-(n : Int))
theorem st_icM {d nx n : Nat} {cl : Nat → List Value → sM → sR} {k : sK} {ls st : List Value} {μ : sM} : stepK d cl k (.iconst (-(no_index (OfNat.ofNat n)))) nx ls st μ = k nx ls (.int (mI (OfNat.ofNat n)) :: st) μ := rfl
theorem oiN {n : Nat} : Int32.ofInt (no_index (OfNat.ofNat n)) = nI (OfNat.ofNat n) := Int32.ofInt_eq_ofNat
theorem oiM {n : Nat} : Int32.ofInt (-(no_index (OfNat.ofNat n))) = mI (OfNat.ofNat n) := rfl
theorem oN {n : Nat} : Int32.ofNat n = nI n := rfl
theorem mI_1 : mI 1 = -1 := by decide
theorem mI_lt0 : (mI 1 < 0) = True := by decide
theorem mI_eq0 : (mI 1 = 0) = False := by decide
theorem mI_0lt : (0 < mI 1) = False := by decide
theorem nI_mul (a b : Nat) : nI a * nI b = nI (a * b) := (Int32.ofNat_mul a b).symm
theorem nI_sub {a b : Nat} (h : b ≤ a) : nI a - nI b = nI (a - b) := (Int32.ofNat_sub a b h).symm
theorem nI_sub1 {a : Nat} (h : 1 ≤ a) : nI a - 1 = nI (a - 1) := (Int32.ofNat_sub a 1 h).symm
theorem nI_eq0 {a : Nat} (h : a < 2 ^ 31) : nI a = 0 ↔ a = 0 := nI_eq (b := 0) h (by decide)
theorem nI_0eq {a : Nat} (h : a < 2 ^ 31) : 0 = nI a ↔ a = 0 := by rw [← nI_eq0 h]; exact eq_comm
theorem nI_lt0 {a : Nat} (h : a < 2 ^ 31) : (nI a < 0) = False := eq_false (nI_pos h)
theorem nI_0lt {a : Nat} (h : a < 2 ^ 31) : 0 < nI a ↔ 0 < a := nI_ltI (a := 0) (by decide) h
theorem nI_ltM1 {a : Nat} (h : a < 2 ^ 31) : (nI a < mI 1) = False := eq_false (fun q => by
  have := (fa_lt _ _).mp q
  rw [nI_toInt h, show (mI 1).toInt = -1 from by decide] at this
  omega)
theorem nI_M1lt {a : Nat} (h : a < 2 ^ 31) : (mI 1 < nI a) = True := eq_true ((fa_lt _ _).mpr (by
  rw [nI_toInt h, show (mI 1).toInt = -1 from by decide]
  omega))
theorem nI_neM1 {a : Nat} (h : a < 2 ^ 31) : (nI a = mI 1) = False := eq_false (fun q => by
  have := congrArg Int32.toInt q
  rw [nI_toInt h, show (mI 1).toInt = -1 from by decide] at this
  omega)
theorem nI_M1ne {a : Nat} (h : a < 2 ^ 31) : (mI 1 = nI a) = False := by rw [eq_comm (a := mI 1)]; exact nI_neM1 h
theorem nI_div {a b : Nat} (ha : a < 2 ^ 31) (hb : b < 2 ^ 31) : nI a / nI b = nI (a / b) := (Int32.ofNat_div ha hb).symm
theorem nI_rem {a b : Nat} (ha : a < 2 ^ 31) (hb : b < 2 ^ 31) : nI a - nI a / nI b * nI b = nI (a % b) := by
  rw [nI_div ha hb, nI_mul, nI_sub (Nat.div_mul_le_self a b), Nat.mod_eq_sub_div_mul]
theorem nI_if {c : Prop} [Decidable c] {a b : Nat} : (if c then nI a else nI b) = nI (if c then a else b) := by split <;> rfl
theorem nb_z {c : Prop} [Decidable c] : ((if c then nI 1 else nI 0) = 0) ↔ ¬ c := by by_cases h : c <;> simp [h] <;> decide
theorem nb_m {c : Prop} [Decidable c] : ((if c then nI 1 else nI 0) = 0 ∨ (if c then nI 1 else nI 0) = 1) = True := eq_true (by by_cases h : c <;> simp [h] <;> decide)
theorem nz_z {c : Prop} [Decidable c] : ((if c then nI 0 else nI 1) = 0) ↔ c := by by_cases h : c <;> simp [h] <;> decide
theorem nz_m {c : Prop} [Decidable c] : ((if c then nI 0 else nI 1) = 0 ∨ (if c then nI 0 else nI 1) = 1) = True := eq_true (by by_cases h : c <;> simp [h] <;> decide)
theorem nb_a {c e : Prop} [Decidable c] [Decidable e] : (if c then (if e then nI 1 else nI 0) else nI 0) = if c ∧ e then nI 1 else nI 0 := by by_cases h : c <;> simp [h]
theorem nb_o {c e : Prop} [Decidable c] [Decidable e] : (if c then nI 1 else (if e then nI 1 else nI 0)) = if c ∨ e then nI 1 else nI 0 := by by_cases h : c <;> simp [h]
theorem nb_n {c : Prop} [Decidable c] : (if c then nI 0 else nI 1) = if ¬ c then nI 1 else nI 0 := by by_cases h : c <;> simp [h]
theorem nb_na {c e : Prop} [Decidable c] [Decidable e] : (if c then nI 0 else (if e then nI 1 else nI 0)) = if ¬ c ∧ e then nI 1 else nI 0 := by by_cases h : c <;> simp [h]
theorem zr1 {c : Prop} [Decidable c] : (¬ c ∨ (if c then nI 1 else nI 0) = 1) = True := eq_true (by by_cases h : c <;> simp [h] <;> decide)
theorem zr2 {c : Prop} [Decidable c] : (c ∨ (if c then nI 0 else nI 1) = 1) = True := eq_true (by by_cases h : c <;> simp [h] <;> decide)
theorem nI_b01 : (nI 0 = 0 ∨ nI 0 = 1) = True := eq_true (Or.inl rfl)
theorem nI_b11 : (nI 1 = 0 ∨ nI 1 = 1) = True := eq_true (Or.inr rfl)
/-- two ways that differ only in the number on top come together -/
theorem jn_ {c : Prop} [Decidable c] {d m pc : Nat} {ls st : List Value} {μ : sM} {a b : Int32} : (if c then runD d m pc ls (.int a :: st) μ else runD d m pc ls (.int b :: st) μ) = runD d m pc ls (.int (if c then a else b) :: st) μ := by split <;> rfl
theorem jr_ {c : Prop} [Decidable c] {μ : sM} {a b : Int32} : (if c then (some (some (.int a), μ) : sR) else some (some (.int b), μ)) = some (some (.int (if c then a else b)), μ) := by split <;> rfl
theorem nI_eq1 {a : Nat} (h : a < 2 ^ 31) : nI a = 1 ↔ a = 1 := nI_eq (b := 1) h (by decide)
/-! bits of small numbers -/
theorem sh_cnt : ∀ j, j < 32 → ((nI j &&& 31).toBitVec.smod 32).toNat = j := by decide +kernel
theorem sh1 : ∀ j, j < 31 → (nI 1) <<< (nI j &&& 31) = nI (2 ^ j) := by decide +kernel
theorem shr_nI {r j : Nat} (hr : r < 2 ^ 31) (hj : j < 32) : nI r >>> (nI j &&& 31) = nI (r >>> j) := by
  apply Int32.toBitVec_inj.mp
  rw [Int32.toBitVec_shiftRight]
  show (nI r).toBitVec.sshiftRight ((nI j &&& 31).toBitVec.smod 32).toNat = _
  rw [sh_cnt j hj]
  apply BitVec.eq_of_getLsbD_eq
  intro i hi
  have hm : (nI r).toBitVec.msb = false := by
    show (BitVec.ofNat 32 r).msb = false
    rw [BitVec.msb_eq_false_iff_two_mul_lt]
    simp only [BitVec.toNat_ofNat]
    omega
  rw [BitVec.getLsbD_sshiftRight, hm]
  show _ = (BitVec.ofNat 32 (r >>> j)).getLsbD i
  show (!decide (32 ≤ i) && if j + i < 32 then (BitVec.ofNat 32 r).getLsbD (j + i) else false) = _
  simp only [BitVec.getLsbD_ofNat, Nat.testBit_shiftRight]
  by_cases h : j + i < 32
  · simp [h, hi]
  · have : r.testBit (j + i) = false := Nat.testBit_lt_two_pow (Nat.lt_of_lt_of_le hr (Nat.pow_le_pow_right (by decide) (by omega)))
    simp [h, this]
def bN (r j : Nat) : Nat := r >>> j % 2
theorem and1 (a : Nat) : nI a &&& nI 1 = nI (a % 2) := by rw [fa_and, Nat.and_one_is_mod]
theorem bN_01 (r j : Nat) : bN r j = if r.testBit j then 1 else 0 := by
  unfold bN
  rw [Nat.testBit]
  simp only [Nat.and_comm 1, Nat.and_one_is_mod]
  rcases Nat.mod_two_eq_zero_or_one (r >>> j) with h | h <;> simp [h]
theorem nI_xM1 {a b : Nat} : nI a ^^^ nI b = nI (a ^^^ b) := fb_xorI a b
theorem all4096 {P : Nat → Prop} (h : ∀ a, a < 64 → ∀ b, b < 64 → P (64 * a + b)) : ∀ x, x < 4096 → P x := fun x hx => by
  have := h (x / 64) (by omega) (x % 64) (by omega)
  rwa [Nat.div_add_mod] at this
/-! sets of small numbers -/
def mkN (P : Nat → Bool) : Nat → Nat
  | 0 => 0
  | n + 1 => if P n then mkN P n ||| 2 ^ n else mkN P n
theorem mkN_lt (P : Nat → Bool) (n : Nat) : mkN P n < 2 ^ n := by
  induction n with
  | zero => simp [mkN]
  | succ n ih =>
    have h2 : 2 ^ n < 2 ^ (n + 1) := Nat.pow_lt_pow_right (by decide) (Nat.lt_succ_self n)
    unfold mkN
    split
    · exact Nat.or_lt_two_pow (Nat.lt_trans ih h2) h2
    · exact Nat.lt_trans ih h2
theorem mkN_lt12 (P : Nat → Bool) {n : Nat} (h : n ≤ 12) : mkN P n < 4096 := Nat.lt_of_lt_of_le (mkN_lt P n) (Nat.pow_le_pow_right (by decide) h : 2 ^ n ≤ 2 ^ 12)
theorem mkN_bit (P : Nat → Bool) (n j : Nat) : (mkN P n).testBit j = (decide (j < n) && P j) := by
  induction n with
  | zero => simp [mkN]
  | succ n ih =>
    unfold mkN
    by_cases hp : P n
    · rw [if_pos hp, Nat.testBit_or, ih, Nat.testBit_two_pow]
      by_cases h : n = j
      · subst h; simp [hp]
      · have : (j < n + 1) ↔ j < n := by omega
        simp [h, this]
    · rw [if_neg hp, ih]
      by_cases h : n = j
      · subst h; simp [hp]
      · have : (j < n + 1) ↔ j < n := by omega
        simp [this]
theorem mkN_congr {P Q : Nat → Bool} {n : Nat} (h : ∀ j, j < n → P j = Q j) : mkN P n = mkN Q n := by
  induction n with
  | zero => rfl
  | succ n ih =>
    unfold mkN
    rw [ih (fun j hj => h j (by omega)), h n (by omega)]
/-! the flat row, and the class's school beside it -/
def cg (s : Nat → Int32) (c w : Nat) : Int32 := s (6 + 8 * c + w)
def lg (s : Nat → Int32) (l w : Nat) : Int32 := s (102 + 5 * l + w)
def ro (i : Nat) : Nat := if i < 6 then 0 else if i < 102 then (if (i - 6) % 8 < 4 then 1 else (i - 6) % 8 - 2) else 6 + (i - 102) % 5
def ix (i : Nat) : Nat := if i < 4 then 12 + i else if i = 4 then 0 else if i = 5 then 6 else if i < 102 then (if (i - 6) % 8 < 4 then 4 * ((i - 6) / 8) + (i - 6) % 8 else (i - 6) / 8) else (i - 102) / 5
def RelS (b : Nat) (μ : sM) (s : Nat → Int32) : Prop := ∀ i, i < 162 → μ.1 (b + ro i) (ix i) = s i
theorem ro_lt {i : Nat} (h : i < 162) : ro i ≤ 10 := by unfold ro; split; omega; split; split <;> omega; omega
theorem ro_c {c w : Nat} (hc : c < 12) (hw : w < 8) : ro (6 + 8 * c + w) = if w < 4 then 1 else w - 2 := by
  unfold ro
  rw [if_neg (by omega), if_pos (by omega), show (6 + 8 * c + w - 6) % 8 = w by omega]
theorem ix_c {c w : Nat} (hc : c < 12) (hw : w < 8) : ix (6 + 8 * c + w) = if w < 4 then 4 * c + w else c := by
  unfold ix
  rw [if_neg (by omega), if_neg (by omega), if_neg (by omega), if_pos (by omega), show (6 + 8 * c + w - 6) % 8 = w by omega, show (6 + 8 * c + w - 6) / 8 = c by omega]
theorem ro_l {l w : Nat} (hw : w < 5) : ro (102 + 5 * l + w) = 6 + w := by
  unfold ro
  rw [if_neg (by omega), if_neg (by omega), show (102 + 5 * l + w - 102) % 5 = w by omega]
theorem ix_l {l w : Nat} (hw : w < 5) : ix (102 + 5 * l + w) = l := by
  unfold ix
  rw [if_neg (by omega), if_neg (by omega), if_neg (by omega), if_neg (by omega), show (102 + 5 * l + w - 102) / 5 = l by omega]
theorem rx_inj {i j : Nat} (hi : i < 162) (hj : j < 162) (h1 : ro i = ro j) (h2 : ix i = ix j) : i = j := by
  unfold ro at h1
  unfold ix at h2
  repeat' split at h1
  all_goals repeat' split at h2
  all_goals omega
section
variable {b : Nat} {μ : sM} {s : Nat → Int32}
theorem RelS.tr (hR : RelS b μ s) {c w : Nat} (hc : c < 12) (hw : w < 4) : μ.1 (b + 1) (4 * c + w) = cg s c w := by
  have := hR (6 + 8 * c + w) (by omega)
  rwa [ro_c hc (by omega), ix_c hc (by omega), if_pos hw, if_pos hw] at this
theorem RelS.cw (hR : RelS b μ s) {c w : Nat} (hc : c < 12) (h4 : 4 ≤ w) (hw : w < 8) : μ.1 (b + (w - 2)) c = cg s c w := by
  have := hR (6 + 8 * c + w) (by omega)
  rwa [ro_c hc hw, ix_c hc hw, if_neg (by omega), if_neg (by omega)] at this
theorem RelS.lw (hR : RelS b μ s) {l w : Nat} (hl : l < 12) (hw : w < 5) : μ.1 (b + (6 + w)) l = lg s l w := by
  have := hR (102 + 5 * l + w) (by omega)
  rwa [ro_l hw, ix_l hw] at this
theorem RelS.f0 (hR : RelS b μ s) : μ.1 b 12 = s 0 := hR 0 (by decide)
theorem RelS.f1 (hR : RelS b μ s) : μ.1 b 13 = s 1 := hR 1 (by decide)
theorem RelS.f2 (hR : RelS b μ s) : μ.1 b 14 = s 2 := hR 2 (by decide)
theorem RelS.f3 (hR : RelS b μ s) : μ.1 b 15 = s 3 := hR 3 (by decide)
theorem RelS.f4 (hR : RelS b μ s) : μ.1 b 0 = s 4 := hR 4 (by decide)
theorem RelS.f5 (hR : RelS b μ s) : μ.1 b 6 = s 5 := hR 5 (by decide)
theorem RelS.put (hR : RelS b μ s) {i : Nat} {v : Int32} (hi : i < 162) : RelS b (up (b + ro i) (upd (μ.1 (b + ro i)) (ix i) v) μ) (upd s i v) := by
  intro j hj
  by_cases h1 : ro j = ro i
  · rw [h1, up_eq]
    by_cases h2 : ix j = ix i
    · have := rx_inj hj hi h1 h2
      subst this
      rw [ud_eq, ud_eq]
    · rw [ud_ne h2, ud_ne (fun q => h2 (by rw [q])), ← h1]
      exact hR j hj
  · rw [up_ne (by omega), ud_ne (fun q => h1 (by rw [q]))]
    exact hR j hj
theorem RelS.putc (hR : RelS b μ s) {c w : Nat} {v : Int32} (hc : c < 12) (h4 : 4 ≤ w) (hw : w < 8) : RelS b (up (b + (w - 2)) (upd (μ.1 (b + (w - 2))) c v) μ) (upd s (6 + 8 * c + w) v) := by
  have := hR.put (i := 6 + 8 * c + w) (v := v) (by omega)
  rwa [ro_c hc hw, ix_c hc hw, if_neg (by omega), if_neg (by omega)] at this
theorem RelS.putt (hR : RelS b μ s) {c w : Nat} {v : Int32} (hc : c < 12) (hw : w < 4) : RelS b (up (b + 1) (upd (μ.1 (b + 1)) (4 * c + w) v) μ) (upd s (6 + 8 * c + w) v) := by
  have := hR.put (i := 6 + 8 * c + w) (v := v) (by omega)
  rwa [ro_c hc (by omega), ix_c hc (by omega), if_pos hw, if_pos hw] at this
theorem RelS.putl (hR : RelS b μ s) {l w : Nat} {v : Int32} (hl : l < 12) (hw : w < 5) : RelS b (up (b + (6 + w)) (upd (μ.1 (b + (6 + w))) l v) μ) (upd s (102 + 5 * l + w) v) := by
  have := hR.put (i := 102 + 5 * l + w) (v := v) (by omega)
  rwa [ro_l hw, ix_l hw] at this
theorem RelS.putf (hR : RelS b μ s) {i j : Nat} {v : Int32} (hj : ix i = j) (hi : i < 6) : RelS b (up b (upd (μ.1 b) j v) μ) (upd s i v) := by
  have := hR.put (i := i) (v := v) (by omega)
  rwa [show ro i = 0 from if_pos hi, hj] at this
theorem RelS.same (hR : RelS b μ s) {μ' : sM} (h : ∀ j, j ≤ 10 → μ'.1 (b + j) = μ.1 (b + j)) : RelS b μ' s := by
  intro i hi
  rw [h _ (ro_lt hi)]
  exact hR i hi
theorem RelS.up (hR : RelS b μ s) {k : Nat} {f : Nat → Int32} (h : k < b ∨ b + 10 < k) : RelS b (up k f μ) s := hR.same (fun j hj => up_ne (by omega))
end
/-! what the numbers of the flat row are -/
def hi9 (i : Nat) : Nat := if i < 4 then 99 else if i < 6 then 12 else if i < 102 then (if (i - 6) % 8 < 5 then 9 else if (i - 6) % 8 = 5 then 1 else if (i - 6) % 8 = 6 then 11 else 4095) else (if (i - 102) % 5 = 0 then 6 else if (i - 102) % 5 = 1 then 3 else if (i - 102) % 5 < 4 then 9 else 40)
def okV (i : Nat) (v : Int32) : Prop := (∃ t, t ≤ hi9 i ∧ v = nI t) ∨ (6 ≤ i ∧ i < 102 ∧ (i - 6) % 8 = 6 ∧ v = mI 1)
def Gd (s : Nat → Int32) : Prop := ∀ i, i < 162 → okV i (s i)
theorem Gd.put {s : Nat → Int32} {i : Nat} {v : Int32} (h : Gd s) (hv : okV i v) : Gd (upd s i v) := by
  intro j hj
  by_cases q : j = i
  · subst q; rw [ud_eq]; exact hv
  · rw [ud_ne q]; exact h j hj
theorem okV_c {c w t : Nat} (hc : c < 12) (hw : w < 8) (ht : t ≤ if w < 5 then 9 else if w = 5 then 1 else if w = 6 then 11 else 4095) : okV (6 + 8 * c + w) (nI t) := by
  refine Or.inl ⟨t, ?_, rfl⟩
  unfold hi9
  rw [if_neg (by omega), if_neg (by omega), if_pos (by omega), show (6 + 8 * c + w - 6) % 8 = w by omega]
  exact ht
theorem okV_b {c : Nat} (hc : c < 12) : okV (6 + 8 * c + 6) (mI 1) := Or.inr ⟨by omega, by omega, by omega, rfl⟩
theorem okV_l {l w t : Nat} (hl : l < 12) (hw : w < 5) (ht : t ≤ if w = 0 then 6 else if w = 1 then 3 else if w < 4 then 9 else 40) : okV (102 + 5 * l + w) (nI t) := by
  refine Or.inl ⟨t, ?_, rfl⟩
  unfold hi9
  rw [if_neg (by omega), if_neg (by omega), if_neg (by omega), show (102 + 5 * l + w - 102) % 5 = w by omega]
  exact ht
theorem okV_f {i t : Nat} (hi : i < 6) (ht : t ≤ if i < 4 then 99 else 12) : okV i (nI t) := by
  refine Or.inl ⟨t, ?_, rfl⟩
  unfold hi9
  by_cases h : i < 4
  · rw [if_pos h] at ht ⊢; exact ht
  · rw [if_neg h] at ht ⊢; rw [if_pos hi]; exact ht
section
variable {s : Nat → Int32}
theorem Gd.c (hG : Gd s) {c w : Nat} (hc : c < 12) (hw : w < 8) (h6 : w ≠ 6) : ∃ t, t ≤ (if w < 5 then 9 else if w = 5 then 1 else 4095) ∧ cg s c w = nI t := by
  rcases hG (6 + 8 * c + w) (by omega) with ⟨t, h1, h2⟩ | ⟨-, -, h, -⟩
  · refine ⟨t, ?_, h2⟩
    unfold hi9 at h1
    rw [if_neg (by omega), if_neg (by omega), if_pos (by omega), show (6 + 8 * c + w - 6) % 8 = w by omega, if_neg h6] at h1
    exact h1
  · omega
theorem Gd.br (hG : Gd s) {c : Nat} (hc : c < 12) : cg s c 6 = mI 1 ∨ ∃ t, t < 12 ∧ cg s c 6 = nI t := by
  rcases hG (6 + 8 * c + 6) (by omega) with ⟨t, h1, h2⟩ | ⟨-, -, -, h⟩
  · refine Or.inr ⟨t, ?_, h2⟩
    unfold hi9 at h1
    rw [if_neg (by omega), if_neg (by omega), if_pos (by omega), show (6 + 8 * c + 6 - 6) % 8 = 6 by omega] at h1
    simp at h1
    omega
  · exact Or.inl h
theorem Gd.l (hG : Gd s) {l w : Nat} (hl : l < 12) (hw : w < 5) : ∃ t, t ≤ (if w = 0 then 6 else if w = 1 then 3 else if w < 4 then 9 else 40) ∧ lg s l w = nI t := by
  rcases hG (102 + 5 * l + w) (by omega) with ⟨t, h1, h2⟩ | ⟨-, h, -, -⟩
  · refine ⟨t, ?_, h2⟩
    unfold hi9 at h1
    rw [if_neg (by omega), if_neg (by omega), if_neg (by omega), show (102 + 5 * l + w - 102) % 5 = w by omega] at h1
    exact h1
  · omega
theorem Gd.f (hG : Gd s) {i : Nat} (hi : i < 6) : ∃ t, t ≤ (if i < 4 then 99 else 12) ∧ s i = nI t := by
  rcases hG i (by omega) with ⟨t, h1, h2⟩ | ⟨h, -, -, -⟩
  · refine ⟨t, ?_, h2⟩
    unfold hi9 at h1
    by_cases h : i < 4
    · rw [if_pos h] at h1 ⊢; exact h1
    · rw [if_neg h] at h1 ⊢; rw [if_pos hi] at h1; exact h1
  · omega
theorem Gd.sn (hG : Gd s) {c : Nat} (hc : c < 12) : ∃ t, t ≤ 9 ∧ cg s c 4 = nI t := by simpa using hG.c hc (w := 4) (by decide) (by decide)
theorem Gd.sx (hG : Gd s) {c : Nat} (hc : c < 12) : ∃ t, t ≤ 1 ∧ cg s c 5 = nI t := by simpa using hG.c hc (w := 5) (by decide) (by decide)
theorem Gd.rp (hG : Gd s) {c : Nat} (hc : c < 12) : ∃ t, t < 4096 ∧ cg s c 7 = nI t := by
  obtain ⟨t, h1, h2⟩ := hG.c hc (w := 7) (by decide) (by decide)
  exact ⟨t, Nat.lt_succ_of_le (by simpa using h1), h2⟩
theorem Gd.tr (hG : Gd s) {c w : Nat} (hc : c < 12) (hw : w < 4) : ∃ t, t ≤ 9 ∧ cg s c w = nI t := by
  have := hG.c hc (w := w) (by omega) (by omega)
  rwa [if_pos (by omega)] at this
theorem Gd.kd (hG : Gd s) {l : Nat} (hl : l < 12) : ∃ t, t ≤ 6 ∧ lg s l 0 = nI t := by simpa using hG.l hl (w := 0) (by decide)
theorem Gd.tt (hG : Gd s) {l : Nat} (hl : l < 12) : ∃ t, t ≤ 3 ∧ lg s l 1 = nI t := by simpa using hG.l hl (w := 1) (by decide)
theorem Gd.lo (hG : Gd s) {l : Nat} (hl : l < 12) : ∃ t, t ≤ 9 ∧ lg s l 2 = nI t := by simpa using hG.l hl (w := 2) (by decide)
theorem Gd.hg (hG : Gd s) {l : Nat} (hl : l < 12) : ∃ t, t ≤ 9 ∧ lg s l 3 = nI t := by simpa using hG.l hl (w := 3) (by decide)
theorem Gd.wd (hG : Gd s) {l : Nat} (hl : l < 12) : ∃ t, t ≤ 40 ∧ lg s l 4 = nI t := by simpa using hG.l hl (w := 4) (by decide)
theorem Gd.nn (hG : Gd s) : ∃ t, t ≤ 12 ∧ s 4 = nI t := by simpa using hG.f (i := 4) (by decide)
theorem Gd.mm (hG : Gd s) : ∃ t, t ≤ 12 ∧ s 5 = nI t := by simpa using hG.f (i := 5) (by decide)
end

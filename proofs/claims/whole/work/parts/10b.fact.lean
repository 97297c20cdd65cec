/-! 11.step2: by wip/whole/gen_sound2.py -/
def NF (c : Nat) : Nat := match c with
  | 0 => 6
  | 1 => 5
  | 2 => 5
  | 3 => 16
  | 4 => 3
  | 5 => 2
  | 6 => 10
  | 7 => 26
  | _ => 0
theorem cls_tab {ci : Nat} (h : ci < 8) : vwCl[ci]? = some (csN ci, TT ci, NF ci) ∧ (∀ w ∈ u_ws (csN ci) (TT ci) (NF ci), w ∈ gw) := by
  have h8 : ci = 0 ∨ ci = 1 ∨ ci = 2 ∨ ci = 3 ∨ ci = 4 ∨ ci = 5 ∨ ci = 6 ∨ ci = 7 := by omega
  rcases h8 with rfl | rfl | rfl | rfl | rfl | rfl | rfl | rfl
  · exact ⟨rfl, w_u0⟩
  · exact ⟨rfl, w_u1⟩
  · exact ⟨rfl, w_u2⟩
  · exact ⟨rfl, w_u3⟩
  · exact ⟨rfl, w_u4⟩
  · exact ⟨rfl, w_u5⟩
  · exact ⟨rfl, w_u6⟩
  · exact ⟨rfl, w_u7⟩
def tyC (c : Nat) : Nat → FieldType := match c with
  | 0 => tyX0
  | 1 => tyX1
  | 2 => tyX2
  | 3 => tyX3
  | 4 => tyX4
  | 5 => tyX5
  | 6 => tyX6
  | _ => tyX7
theorem cls_ty {ci : Nat} (h : ci < 8) : (∀ k, k < NF ci → parseFieldDescriptor (TT ci k).2.2.1 = some (tyC ci k)) ∧ ∀ a, a < NF ci → ∀ b, b < NF ci → a ≠ b → (TT ci a).2.1 ≠ (TT ci b).2.1 := by
  have h8 : ci = 0 ∨ ci = 1 ∨ ci = 2 ∨ ci = 3 ∨ ci = 4 ∨ ci = 5 ∨ ci = 6 ∨ ci = 7 := by omega
  rcases h8 with rfl | rfl | rfl | rfl | rfl | rfl | rfl | rfl
  · exact ⟨tyX0_ok, nmX0⟩
  · exact ⟨tyX1_ok, nmX1⟩
  · exact ⟨tyX2_ok, nmX2⟩
  · exact ⟨tyX3_ok, nmX3⟩
  · exact ⟨tyX4_ok, nmX4⟩
  · exact ⟨tyX5_ok, nmX5⟩
  · exact ⟨tyX6_ok, nmX6⟩
  · exact ⟨tyX7_ok, nmX7⟩
theorem oFs_len : ∀ k, k < 72 → cKd k = 1 → (oFs k).length = NF (cIx k) := by decide +kernel
theorem oFs_150 : ∀ k, k < 129 → ∀ f ∈ oFs k, f ≠ some 150 := by decide +kernel
theorem oFs_str : ∀ i, i < 9 → (oFs (110 + i))[0]? = some (some (120 + i)) ∧ (oFs (110 + i))[1]? = some none := by decide +kernel
theorem fLk_8 : ∀ e ∈ fLk, e.2 / 100 ≤ 8 ∧ (e.2 / 100 = 8 → e.2 = 800 ∨ e.2 = 801) := by decide +kernel
theorem sLk_110 : ∀ e ∈ sLk, e.2 ≠ 150 := by decide +kernel
def putB (k j : Nat) : Bool := !(cKd k == 1 && (oFs k)[j]? == some none) || (!(TT (cIx k) j).2.2.2 && (decide (tyC (cIx k) j = .int) || (decide (tyC (cIx k) j = .boolean) && ((k == 0 && j == 9) || (k == 55 && (j == 3 || j == 21))))))
theorem put_b : ∀ k, k < 72 → ∀ j, j < 26 → putB k j = true := by decide +kernel
theorem put_ok (k : Nat) (hk : k < 72) (j : Nat) (hj : j < 26) (h1 : cKd k = 1) (h2 : (oFs k)[j]? = some none) : (TT (cIx k) j).2.2.2 = false ∧ (tyC (cIx k) j = .int ∨ (tyC (cIx k) j = .boolean ∧ (k = 0 ∧ j = 9 ∨ k = 55 ∧ (j = 3 ∨ j = 21)))) := by
  have h := put_b k hk j hj
  unfold putB at h
  rw [h1, h2] at h
  simpa using h
theorem put_nar {k j : Nat} {u : Int32} {ty : FieldType} (hp2 : ty = .int ∨ (ty = .boolean ∧ (k = 0 ∧ j = 9 ∨ k = 55 ∧ (j = 3 ∨ j = 21)))) (hbo : bOK k j u = true) : narrow ty (.int u) = .int u ∧ fits ty (.int u) = true := by
  rcases hp2 with rfl | ⟨rfl, h10⟩
  · exact ⟨rfl, rfl⟩
  · have h01 : u = 0 ∨ u = 1 := by
      unfold bOK at hbo
      rcases h10 with ⟨rfl, rfl⟩ | ⟨rfl, rfl | rfl⟩ <;> simpa using hbo
    rcases h01 with rfl | rfl <;> exact ⟨by decide +kernel, by decide +kernel⟩
theorem NF_26 (c : Nat) : NF c ≤ 26 := by unfold NF; split <;> omega
theorem aNn_str : ∀ i, i < 9 → aNn (120 + i) = (strT.map List.length).getD i 0 := by decide +kernel
theorem rd_str {μ : sM} {i j : Nat} : rdI μ (120 + i) j = (strT.getD i []).getD j 0 := by
  unfold rdI
  rw [if_neg (by omega), if_neg (by omega), if_neg (by omega), show 120 + i - 120 = i by omega]
theorem fNm_own {q : Nat} (h : q / 100 < 8) : fNm q = ((TT (q / 100) (q % 100)).1, (TT (q / 100) (q % 100)).2.1, (TT (q / 100) (q % 100)).2.2.1) := by
  unfold fNm
  rw [if_neg (by omega), if_neg (by omega)]
theorem aLn_lo {μ : sM} {k : Nat} (h : k ≠ 99) : aLn μ k = aNn k := if_neg h
theorem aLn_lt {μ : sM} {k : Nat} (h : k < 72) : aLn μ k = aNn k := if_neg (by omega)
theorem aLn_120 {μ : sM} {z : Nat} : aLn μ (120 + z) = aNn (120 + z) := if_neg (by omega)
theorem cv_lt {ad : Nat → Nat} {fm : Value} {k : Nat} (h : k < 72) : cv ad fm (.ref k) = .ref (ad k) := cv_r (by omega)
theorem cv_110 {ad : Nat → Nat} {fm : Value} {z : Nat} (h : z < 9) : cv ad fm (.ref (110 + z)) = .ref (ad (110 + z)) := cv_r (by omega)
theorem cv_120 {ad : Nat → Nat} {fm : Value} {z : Nat} (h : z < 9) : cv ad fm (.ref (120 + z)) = .ref (ad (120 + z)) := cv_r (by omega)
theorem cv_46 {ad : Nat → Nat} {fm : Value} {z : Nat} (h : z < 4) : cv ad fm (.ref (46 + 2 * z)) = .ref (ad (46 + 2 * z)) := cv_r (by omega)
theorem cv_101 {ad : Nat → Nat} {fm : Value} : cv ad fm (.ref 101) = .ref (ad 101) := rfl
theorem cv_99 {ad : Nat → Nat} {fm : Value} : cv ad fm (.ref 99) = .ref (ad 99) := rfl
theorem vp_nar_b (v : Int32) : vp_nar .byte v = v.toInt8.toInt32 := rfl
theorem cKd_le (k : Nat) : cKd k ≤ 10 := by unfold cKd; split <;> omega

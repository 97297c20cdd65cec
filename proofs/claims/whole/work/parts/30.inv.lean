/-! 30.inv: what holds between two calls -/
theorem i32_lc (a b c : Int32) : a + (b + c) = b + (a + c) := by rw [← Int32.add_assoc, Int32.add_comm a b, Int32.add_assoc]
def InvS (μ : sM) : Prop := RelS 1 μ (μ.1 56) ∧ Gd (μ.1 56)
def InvK (μ : sM) : Prop := μ.1 55 3 = μ.1 0 9 ∧ (μ.1 0 9 = nI 0 ∨ (μ.1 0 9 = nI 1 ∧ RelS 12 μ (μ.1 57) ∧ Gd (μ.1 57)))
def InvT (μ : sM) : Prop := (∀ j, j < 7 → μ.1 54 j = μ.1 59 j) ∧ μ.1 55 5 = nI 0 + μ.1 59 0 + μ.1 59 1 + μ.1 59 2 + μ.1 59 3 + μ.1 59 4 + μ.1 59 5 + μ.1 59 6
def InvP (μ : sM) : Prop := (∃ T, T ≤ 120 ∧ μ.1 43 1 = nI T ∧ μ.1 55 14 = nI T) ∧ ∀ i, i < 120 → ∃ v, v < 256 ∧ μ.1 65 i = nI v ∧ μ.1 44 i = (nI v).toInt8.toInt32
def InvH (μ : sM) : Prop := ∀ s, s < 4 → (∃ w z, (w = 0 ∨ w = 8 ∨ w = 16 ∨ w = 64) ∧ z ≤ 40 ∧ (w = 0 → z = 0) ∧ μ.1 (46 + 2 * s) 0 = nI w ∧ μ.1 68 s = nI w ∧ μ.1 (46 + 2 * s) 1 = nI z ∧ μ.1 69 s = nI z) ∧ ∀ i, i < 40 → μ.2 (47 + 2 * s) i = μ.2 70 (40 * s + i)
def InvN (L : Nat) (xs : Nat → Int32) (μ : sM) : Prop := (∀ j, j < 85 → μ.1 66 j = namesT.getD j 0) ∧ (∀ j, j < 18 → μ.1 67 j = nameAtT.getD j 0) ∧ μ.1 99 = xs ∧ μ.1 98 0 = nI L
def InvR (L : Nat) (xs : Nat → Int32) (μ : sM) : Prop := InvK μ ∧ InvT μ ∧ InvP μ ∧ InvH μ ∧ InvN L xs μ
def Inv (L : Nat) (xs : Nat → Int32) (μ : sM) : Prop := InvS μ ∧ InvR L xs μ
section
variable {μ μ' : sM} {k L : Nat} {f : Nat → Int32} {xs : Nat → Int32}
theorem InvS.fr (h : InvS μ) (hk : (k = 0 ∨ 11 < k) ∧ k ≠ 56) : InvS (up k f μ) := by
  unfold InvS
  rw [up_ne (Ne.symm hk.2)]
  exact ⟨h.1.up (by omega), h.2⟩
theorem InvK.fr (h : InvK μ) (hk : k ≠ 0 ∧ (k < 12 ∨ 22 < k) ∧ k ≠ 55 ∧ k ≠ 57) : InvK (up k f μ) := by
  unfold InvK
  rw [up_ne (a := 55) (by omega), up_ne (a := 0) (by omega), up_ne (a := 57) (by omega)]
  refine ⟨h.1, h.2.imp id (fun q => ⟨q.1, q.2.1.up (by omega), q.2.2⟩)⟩
theorem InvK.fr55 (h : InvK μ) (hf : f 3 = μ.1 55 3) : InvK (up 55 f μ) := by
  unfold InvK
  rw [up_eq, up_ne (a := 0) (by decide), up_ne (a := 57) (by decide), hf]
  refine ⟨h.1, h.2.imp id (fun q => ⟨q.1, q.2.1.up (by decide), q.2.2⟩)⟩
theorem InvT.fr (h : InvT μ) (hk : k ≠ 54 ∧ k ≠ 59 ∧ k ≠ 55) : InvT (up k f μ) := by
  unfold InvT
  rw [up_ne (a := 54) (by omega), up_ne (a := 59) (by omega), up_ne (a := 55) (by omega)]
  exact h
theorem InvT.fr55 (h : InvT μ) (hf : f 5 = μ.1 55 5) : InvT (up 55 f μ) := by
  unfold InvT
  rw [up_ne (a := 54) (by decide), up_ne (a := 59) (by decide), up_eq, hf]
  exact h
theorem InvP.fr (h : InvP μ) (hk : k ≠ 43 ∧ k ≠ 55 ∧ k ≠ 65 ∧ k ≠ 44) : InvP (up k f μ) := by
  unfold InvP
  rw [up_ne (a := 43) (by omega), up_ne (a := 55) (by omega), up_ne (a := 65) (by omega), up_ne (a := 44) (by omega)]
  exact h
theorem InvP.fr55 (h : InvP μ) (hf : f 14 = μ.1 55 14) : InvP (up 55 f μ) := by
  unfold InvP
  rw [up_ne (a := 43) (by decide), up_eq, up_ne (a := 65) (by decide), up_ne (a := 44) (by decide), hf]
  exact h
theorem InvP.fr43 (h : InvP μ) (hf : f 1 = μ.1 43 1) : InvP (up 43 f μ) := by
  unfold InvP
  rw [up_eq, up_ne (a := 55) (by decide), up_ne (a := 65) (by decide), up_ne (a := 44) (by decide), hf]
  exact h
theorem InvH.fr (h : InvH μ) (hk : (k < 46 ∨ 52 < k) ∧ k ≠ 68 ∧ k ≠ 69) : InvH (up k f μ) := by
  intro s hs
  rw [up_ne (a := 46 + 2 * s) (by omega), up_ne (a := 68) (by omega), up_ne (a := 69) (by omega), up_2]
  exact h s hs
theorem InvN.fr (h : InvN L xs μ) (hk : k ≠ 66 ∧ k ≠ 67 ∧ k ≠ 98 ∧ k ≠ 99) : InvN L xs (up k f μ) := by
  unfold InvN
  rw [up_ne (a := 66) (by omega), up_ne (a := 67) (by omega), up_ne (a := 98) (by omega), up_ne (a := 99) (by omega)]
  exact h
def okR (k : Nat) : Prop := (1 ≤ k ∧ k ≤ 11) ∨ (23 ≤ k ∧ k ≤ 42) ∨ k = 56 ∨ k = 58 ∨ (60 ≤ k ∧ k ≤ 64)
theorem InvR.fr (h : InvR L xs μ) (hk : okR k) : InvR L xs (up k f μ) := by
  unfold okR at hk
  exact ⟨h.1.fr (by omega), h.2.1.fr (by omega), h.2.2.1.fr (by omega), h.2.2.2.1.fr (by omega), h.2.2.2.2.fr (by omega)⟩
theorem InvR.fr55 (h : InvR L xs μ) (h3 : f 3 = μ.1 55 3) (h5 : f 5 = μ.1 55 5) (h14 : f 14 = μ.1 55 14) : InvR L xs (up 55 f μ) := ⟨h.1.fr55 h3, h.2.1.fr55 h5, h.2.2.1.fr55 h14, h.2.2.2.1.fr (by decide), h.2.2.2.2.fr (by decide)⟩
theorem InvR.fr43 (h : InvR L xs μ) (h1 : f 1 = μ.1 43 1) : InvR L xs (up 43 f μ) := ⟨h.1.fr (by decide), h.2.1.fr (by decide), h.2.2.1.fr43 h1, h.2.2.2.1.fr (by decide), h.2.2.2.2.fr (by decide)⟩
theorem Inv.find (h : Inv L xs μ) {j : Nat} (hj : j < 7) : Inv L xs (fnd j (tel j μ)) := by
  obtain ⟨hS, hK, hT, hP, hH, hN⟩ := h
  have e55 : (tel j μ).1 55 = μ.1 55 := up_ne (by decide)
  have e59 : (tel j μ).1 59 = μ.1 59 := up_ne (by decide)
  unfold fnd
  rw [e55, e59]
  unfold tel
  refine ⟨((hS.fr (by decide)).fr (by decide)).fr (by decide), (((hK.fr (by decide)).fr (by decide)).fr55 ?_), ?_, (((hP.fr (by decide)).fr (by decide)).fr55 ?_), ((hH.fr (by decide)).fr (by decide)).fr (by decide), ((hN.fr (by decide)).fr (by decide)).fr (by decide)⟩
  · rw [ud_ne (by decide), up_ne (by decide), up_ne (by decide)]
  · unfold InvT
    rw [up_ne (a := 54) (by decide), up_ne (a := 54) (by decide), up_eq, up_ne (a := 59) (by decide), up_eq, up_eq, ud_eq]
    refine ⟨fun i hi => ?_, ?_⟩
    · by_cases q : i = j
      · subst q; rw [ud_eq, ud_eq, hT.1 i hi]
      · rw [ud_ne q, ud_ne q]; exact hT.1 i hi
    · rw [hT.2]
      have h7 : j = 0 ∨ j = 1 ∨ j = 2 ∨ j = 3 ∨ j = 4 ∨ j = 5 ∨ j = 6 := by omega
      rcases h7 with rfl | rfl | rfl | rfl | rfl | rfl | rfl <;> simp [upd, Int32.add_comm, i32_lc, Int32.add_assoc]
  · rw [ud_ne (by decide), up_ne (by decide), up_ne (by decide)]
end
def Ok1 (L : Nat) (xs : Nat → Int32) (v : Int32) (q : sR) : Prop := ∃ μ2, q = some (some (.int v), μ2) ∧ Inv L xs μ2
def Ok2 (L : Nat) (xs : Nat → Int32) (x : sR) (f : sM → sR) : Prop := ∃ v μ1, x = some (some (.int v), μ1) ∧ Ok1 L xs v (f μ1)
theorem Ok1_i {L : Nat} {xs : Nat → Int32} {v v' : Int32} {μ : sM} (h : v' = v) (hI : Inv L xs μ) : Ok1 L xs v (some (some (.int v'), μ)) := ⟨μ, by rw [h], hI⟩
theorem Ok2_i {L : Nat} {xs : Nat → Int32} {v : Int32} {μ : sM} {f : sM → sR} (h : Ok1 L xs v (f μ)) : Ok2 L xs (some (some (.int v), μ)) f := ⟨v, μ, rfl, h⟩
theorem Inv.n {L : Nat} {xs : Nat → Int32} {μ : sM} (h : Inv L xs μ) : ∃ n m, n ≤ 12 ∧ m ≤ 12 ∧ μ.1 56 4 = nI n ∧ μ.1 56 5 = nI m ∧ μ.1 1 0 = nI n ∧ μ.1 1 6 = nI m := by
  obtain ⟨n, hn, en⟩ := h.1.2.nn
  obtain ⟨m, hm, em⟩ := h.1.2.mm
  exact ⟨n, m, hn, hm, en, em, h.1.1.f4.trans en, h.1.1.f5.trans em⟩

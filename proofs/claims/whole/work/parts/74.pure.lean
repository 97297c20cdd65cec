/-! 74.pure: an item, pure -/
abbrev pR : Type := Nat ⊕ ((Nat → Int32) × Nat)
section
variable (B : Nat → Nat) (T : Nat)
def pLine (s : Nat → Int32) (m e : Nat) : pR :=
  if nmR B T e 0 6 = true ∧ m < 12 then
    if nmR B T (tkE B T e) 7 10 = true then
      if okN B T (tkE B T (tkE B T e)) 0 10 = true then
        if okN B T (tkE B T (tkE B T (tkE B T e))) (tkV B T (tkE B T (tkE B T e))) 10 = true then
          if isNm B T (tkE B T (tkE B T (tkE B T (tkE B T e)))) 11 = true then
            if okN B T (tkE B T (tkE B T (tkE B T (tkE B T (tkE B T e))))) 1 41 = true then
              .inr (newl s m (nI (nmN B T e)) (nI (nmN B T (tkE B T e) - 7)) (nI (tkV B T (tkE B T (tkE B T e)))) (nI (tkV B T (tkE B T (tkE B T (tkE B T e))))) (nI (tkV B T (tkE B T (tkE B T (tkE B T (tkE B T (tkE B T e))))))), tkE B T (tkE B T (tkE B T (tkE B T (tkE B T (tkE B T e))))))
            else .inl (tkE B T (tkE B T (tkE B T (tkE B T (tkE B T e)))))
          else .inr (newl s m (nI (nmN B T e)) (nI (nmN B T (tkE B T e) - 7)) (nI (tkV B T (tkE B T (tkE B T e)))) (nI (tkV B T (tkE B T (tkE B T (tkE B T e))))) (nI 8), tkE B T (tkE B T (tkE B T (tkE B T e))))
        else .inl (tkE B T (tkE B T (tkE B T e)))
      else .inl (tkE B T (tkE B T e))
    else .inl (tkE B T e)
  else .inl e
def pOf (s : Nat → Int32) (n t0 t1 t2 t3 sn sx e : Nat) : pR :=
  if isNm B T e 14 = true then
    if okN B T (tkE B T e) 0 n = true then .inr (newc s n (nI t0) (nI t1) (nI t2) (nI t3) (nI sn) (nI sx) (nI (tkV B T (tkE B T e))) (nI 0), tkE B T (tkE B T e))
    else .inl (tkE B T e)
  else .inr (newc s n (nI t0) (nI t1) (nI t2) (nI t3) (nI sn) (nI sx) (mI 1) (nI 0), e)
def pGirl (s : Nat → Int32) (n t0 t1 t2 t3 sn e : Nat) : pR :=
  if isNm B T e 13 = true then pOf B T s n t0 t1 t2 t3 sn 1 (tkE B T e) else pOf B T s n t0 t1 t2 t3 sn 0 e
def pSeen (s : Nat → Int32) (n t0 t1 t2 t3 e : Nat) : pR :=
  if isNm B T e 1 = true then
    if okN B T (tkE B T e) 0 10 = true then pGirl B T s n t0 t1 t2 t3 (tkV B T (tkE B T e)) (tkE B T (tkE B T e)) else .inl (tkE B T e)
  else pGirl B T s n t0 t1 t2 t3 5 e
def pChild (s : Nat → Int32) (n e : Nat) : pR :=
  if n < 12 then
    if okN B T (tkE B T e) 0 10 = true then
      if okN B T (tkE B T (tkE B T e)) 0 10 = true then
        if okN B T (tkE B T (tkE B T (tkE B T e))) 0 10 = true then
          if okN B T (tkE B T (tkE B T (tkE B T (tkE B T e)))) 0 10 = true then
            pSeen B T s n (tkV B T (tkE B T e)) (tkV B T (tkE B T (tkE B T e))) (tkV B T (tkE B T (tkE B T (tkE B T e)))) (tkV B T (tkE B T (tkE B T (tkE B T (tkE B T e))))) (tkE B T (tkE B T (tkE B T (tkE B T (tkE B T e)))))
          else .inl (tkE B T (tkE B T (tkE B T (tkE B T e))))
        else .inl (tkE B T (tkE B T (tkE B T e)))
      else .inl (tkE B T (tkE B T e))
    else .inl (tkE B T e)
  else .inl e
def pSet (s : Nat → Int32) (i e : Nat) : pR := if okN B T (tkE B T e) 1 100 = true then .inr (upd s i (nI (tkV B T (tkE B T e))), tkE B T (tkE B T e)) else .inl (tkE B T e)
def pItem (s : Nat → Int32) (n m e : Nat) : pR :=
  if isNm B T e 12 = true then pChild B T s n e
  else if isNm B T e 15 = true then pSet B T s 1 e
  else if isNm B T e 16 = true then pSet B T s 2 e
  else pLine B T s m e
/-- what is true of a result -/
def pG (s : Nat → Int32) (e : Nat) (r : pR) : Prop := match r with
  | .inl e' => e' ≤ T
  | .inr q => Gd q.1 ∧ (∀ i, 162 ≤ i → q.1 i = s i) ∧ e < q.2 ∧ q.2 ≤ T
end
section
variable {B : Nat → Nat} {T : Nat}
theorem tkE_gt {e : Nat} (he : e ≤ T) (hk : tkK B T e ≠ 0) : e < tkE B T e := by
  obtain ⟨s1, s2, s3, s4⟩ := tkS_spec (B := B) he
  rcases tkK_cases (B := B) he with ⟨k0, -⟩ | ⟨k0, k1, k2, k3⟩ | ⟨k0, k1, k2, k3, k4⟩ | ⟨k0, k1, k2, k3, k4, k5⟩ | ⟨k0, k1, k2, k3, k4, k5⟩
  · exact absurd k0 hk
  · have h := rnp_spec (p := fun j => isLt (B j)) (T := T) (i := tkS B T e) s2
    rw [← k3] at h
    rcases Nat.lt_or_ge (tkS B T e) (tkE B T e) with q | q
    · omega
    · have e0 : tkE B T e = tkS B T e := by omega
      have := h.2.2.2 (by omega)
      rw [e0] at this
      rw [k2] at this
      cases this
  · have h := rnp_spec (p := fun j => isDg (B j)) (T := T) (i := tkS B T e) s2
    rw [← k4] at h
    rcases Nat.lt_or_ge (tkS B T e) (tkE B T e) with q | q
    · omega
    · have e0 : tkE B T e = tkS B T e := by omega
      have := h.2.2.2 (by omega)
      rw [e0] at this
      rw [k3] at this
      cases this
  · omega
  · omega
theorem tkE_ge {e : Nat} (he : e ≤ T) : e ≤ tkE B T e ∧ tkE B T e ≤ T := by
  obtain ⟨s1, -⟩ := tkS_spec (B := B) he
  obtain ⟨l1, l2⟩ := tkE_le (B := B) he
  omega
theorem newl_hi {s : Nat → Int32} {m i : Nat} {k t lo hi w : Int32} (hm : m < 12) (h : 162 ≤ i) : newl s m k t lo hi w i = s i := by
  unfold newl
  rw [ud_ne (by omega), ud_ne (by omega), ud_ne (by omega), ud_ne (by omega), ud_ne (by omega), ud_ne (by omega)]
theorem newc_hi {s : Nat → Int32} {n i : Nat} {a b c e f g h k : Int32} (hn : n < 12) (hi : 162 ≤ i) : newc s n a b c e f g h k i = s i := by
  unfold newc
  rw [ud_ne (by omega), ud_ne (by omega), ud_ne (by omega), ud_ne (by omega), ud_ne (by omega), ud_ne (by omega), ud_ne (by omega), ud_ne (by omega), ud_ne (by omega)]
theorem okN_lt {e lo h : Nat} (hok : okN B T e lo h = true) : lo ≤ tkV B T e ∧ tkV B T e < h := by
  unfold okN at hok
  rw [Bool.and_eq_true, Bool.and_eq_true, decide_eq_true_eq, decide_eq_true_eq] at hok
  exact ⟨hok.1.2, hok.2⟩
theorem nmR_lt {e a b : Nat} (h : nmR B T e a b = true) : tkK B T e = 1 ∧ a ≤ nmN B T e ∧ nmN B T e ≤ b := by
  unfold nmR at h
  rw [Bool.and_eq_true, Bool.and_eq_true, beq_iff_eq, decide_eq_true_eq, decide_eq_true_eq] at h
  exact ⟨h.1.1, h.1.2, h.2⟩
theorem isNm_k {e k : Nat} (h : isNm B T e k = true) : tkK B T e = 1 ∧ nmN B T e = k := by
  unfold isNm at h
  rw [Bool.and_eq_true, beq_iff_eq, beq_iff_eq] at h
  exact h
theorem pLine_ok {s : Nat → Int32} {m e : Nat} (hG : Gd s) (he : e ≤ T) : pG T s e (pLine B T s m e) := by
  obtain ⟨a1, a2⟩ := tkE_ge (B := B) he
  obtain ⟨b1, b2⟩ := tkE_ge (B := B) a2
  obtain ⟨c1, c2⟩ := tkE_ge (B := B) b2
  obtain ⟨d1, d2⟩ := tkE_ge (B := B) c2
  obtain ⟨f1, f2⟩ := tkE_ge (B := B) d2
  obtain ⟨g1, g2⟩ := tkE_ge (B := B) f2
  unfold pLine
  by_cases h1 : nmR B T e 0 6 = true ∧ m < 12
  · rw [if_pos h1]
    obtain ⟨h1, hm⟩ := h1
    obtain ⟨k1, k2, k3⟩ := nmR_lt h1
    have hgt := tkE_gt (B := B) he (by omega)
    by_cases h2 : nmR B T (tkE B T e) 7 10 = true
    · rw [if_pos h2]
      obtain ⟨l1, l2, l3⟩ := nmR_lt h2
      by_cases h3 : okN B T (tkE B T (tkE B T e)) 0 10 = true
      · rw [if_pos h3]
        have o3 := okN_lt h3
        by_cases h4 : okN B T (tkE B T (tkE B T (tkE B T e))) (tkV B T (tkE B T (tkE B T e))) 10 = true
        · rw [if_pos h4]
          have o4 := okN_lt h4
          by_cases h5 : isNm B T (tkE B T (tkE B T (tkE B T (tkE B T e)))) 11 = true
          · rw [if_pos h5]
            by_cases h6 : okN B T (tkE B T (tkE B T (tkE B T (tkE B T (tkE B T e))))) 1 41 = true
            · rw [if_pos h6]
              have o6 := okN_lt h6
              exact ⟨newl_ok hG hm k3 (by omega) (by omega) (by omega) (by omega), fun i hi => newl_hi hm hi, by dsimp only; omega, g2⟩
            · rw [if_neg h6]; exact f2
          · rw [if_neg h5]
            exact ⟨newl_ok hG hm k3 (by omega) (by omega) (by omega) (by decide), fun i hi => newl_hi hm hi, by dsimp only; omega, d2⟩
        · rw [if_neg h4]; exact c2
      · rw [if_neg h3]; exact b2
    · rw [if_neg h2]; exact a2
  · rw [if_neg h1]; exact he
theorem pOf_ok {s : Nat → Int32} {n t0 t1 t2 t3 sn sx e e0 : Nat} (hG : Gd s) (hn : n < 12) (h0 : t0 ≤ 9) (h1 : t1 ≤ 9) (h2 : t2 ≤ 9) (h3 : t3 ≤ 9) (h4 : sn ≤ 9) (h5 : sx ≤ 1) (he : e ≤ T) (hlt : e0 < e) : pG T s e0 (pOf B T s n t0 t1 t2 t3 sn sx e) := by
  obtain ⟨a1, a2⟩ := tkE_ge (B := B) he
  obtain ⟨b1, b2⟩ := tkE_ge (B := B) a2
  unfold pOf
  by_cases q : isNm B T e 14 = true
  · rw [if_pos q]
    by_cases q2 : okN B T (tkE B T e) 0 n = true
    · rw [if_pos q2]
      have o := okN_lt q2
      exact ⟨newc_ok hG hn h0 h1 h2 h3 h4 h5 (Or.inr ⟨_, by omega, rfl⟩), fun i hi => newc_hi hn hi, by dsimp only; omega, b2⟩
    · rw [if_neg q2]; exact a2
  · rw [if_neg q]
    exact ⟨newc_ok hG hn h0 h1 h2 h3 h4 h5 (Or.inl rfl), fun i hi => newc_hi hn hi, hlt, he⟩
theorem pGirl_ok {s : Nat → Int32} {n t0 t1 t2 t3 sn e e0 : Nat} (hG : Gd s) (hn : n < 12) (h0 : t0 ≤ 9) (h1 : t1 ≤ 9) (h2 : t2 ≤ 9) (h3 : t3 ≤ 9) (h4 : sn ≤ 9) (he : e ≤ T) (hlt : e0 < e) : pG T s e0 (pGirl B T s n t0 t1 t2 t3 sn e) := by
  obtain ⟨a1, a2⟩ := tkE_ge (B := B) he
  unfold pGirl
  by_cases q : isNm B T e 13 = true
  · rw [if_pos q]; exact pOf_ok hG hn h0 h1 h2 h3 h4 (by decide) a2 (by omega)
  · rw [if_neg q]; exact pOf_ok hG hn h0 h1 h2 h3 h4 (by decide) he hlt
theorem pSeen_ok {s : Nat → Int32} {n t0 t1 t2 t3 e e0 : Nat} (hG : Gd s) (hn : n < 12) (h0 : t0 ≤ 9) (h1 : t1 ≤ 9) (h2 : t2 ≤ 9) (h3 : t3 ≤ 9) (he : e ≤ T) (hlt : e0 < e) : pG T s e0 (pSeen B T s n t0 t1 t2 t3 e) := by
  obtain ⟨a1, a2⟩ := tkE_ge (B := B) he
  obtain ⟨b1, b2⟩ := tkE_ge (B := B) a2
  unfold pSeen
  by_cases q : isNm B T e 1 = true
  · rw [if_pos q]
    by_cases q2 : okN B T (tkE B T e) 0 10 = true
    · rw [if_pos q2]
      have o := okN_lt q2
      exact pGirl_ok hG hn h0 h1 h2 h3 (by omega) b2 (by omega)
    · rw [if_neg q2]; exact a2
  · rw [if_neg q]; exact pGirl_ok hG hn h0 h1 h2 h3 (by decide) he hlt
theorem pChild_ok {s : Nat → Int32} {n e : Nat} (hG : Gd s) (he : e ≤ T) (hk : tkK B T e = 1) : pG T s e (pChild B T s n e) := by
  obtain ⟨a1, a2⟩ := tkE_ge (B := B) he
  obtain ⟨b1, b2⟩ := tkE_ge (B := B) a2
  obtain ⟨c1, c2⟩ := tkE_ge (B := B) b2
  obtain ⟨d1, d2⟩ := tkE_ge (B := B) c2
  obtain ⟨f1, f2⟩ := tkE_ge (B := B) d2
  have hgt := tkE_gt (B := B) he (by omega)
  unfold pChild
  by_cases hn : n < 12
  · rw [if_pos hn]
    by_cases h1 : okN B T (tkE B T e) 0 10 = true
    · rw [if_pos h1]
      have o1 := okN_lt h1
      by_cases h2 : okN B T (tkE B T (tkE B T e)) 0 10 = true
      · rw [if_pos h2]
        have o2 := okN_lt h2
        by_cases h3 : okN B T (tkE B T (tkE B T (tkE B T e))) 0 10 = true
        · rw [if_pos h3]
          have o3 := okN_lt h3
          by_cases h4 : okN B T (tkE B T (tkE B T (tkE B T (tkE B T e)))) 0 10 = true
          · rw [if_pos h4]
            have o4 := okN_lt h4
            exact pSeen_ok hG hn (by omega) (by omega) (by omega) (by omega) f2 (by omega)
          · rw [if_neg h4]; exact d2
        · rw [if_neg h3]; exact c2
      · rw [if_neg h2]; exact b2
    · rw [if_neg h1]; exact a2
  · rw [if_neg hn]; exact he
theorem pSet_ok {s : Nat → Int32} {i e : Nat} (hG : Gd s) (hi : i = 1 ∨ i = 2) (he : e ≤ T) (hk : tkK B T e = 1) : pG T s e (pSet B T s i e) := by
  obtain ⟨a1, a2⟩ := tkE_ge (B := B) he
  obtain ⟨b1, b2⟩ := tkE_ge (B := B) a2
  have hgt := tkE_gt (B := B) he (by omega)
  unfold pSet
  by_cases h : okN B T (tkE B T e) 1 100 = true
  · rw [if_pos h]
    have o := okN_lt h
    refine ⟨hG.put (okV_f (by omega) ?_), fun j hj => ud_ne (by omega), by dsimp only; omega, b2⟩
    rw [if_pos (by omega)]
    omega
  · rw [if_neg h]; exact a2
theorem pItem_ok {s : Nat → Int32} {n m e : Nat} (hG : Gd s) (he : e ≤ T) : pG T s e (pItem B T s n m e) := by
  unfold pItem
  by_cases h1 : isNm B T e 12 = true
  · rw [if_pos h1]; exact pChild_ok hG he (isNm_k h1).1
  · rw [if_neg h1]
    by_cases h2 : isNm B T e 15 = true
    · rw [if_pos h2]; exact pSet_ok hG (Or.inl rfl) he (isNm_k h2).1
    · rw [if_neg h2]
      by_cases h3 : isNm B T e 16 = true
      · rw [if_pos h3]; exact pSet_ok hG (Or.inr rfl) he (isNm_k h3).1
      · rw [if_neg h3]; exact pLine_ok hG he
end

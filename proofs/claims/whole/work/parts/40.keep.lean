/-! 40.keep: no run writes the script -/
theorem act_keep {d nx k : Nat} {ls st : List Value} {μ : sM} {i : Instr} {q : Nat × List Value × List Value × sM} (hk : cKd k ≠ 1 ∧ cKd k ≠ 2 ∧ cKd k ≠ 3) (h : act nx ls st μ d i = some (.inl q)) : q.2.2.2.1 k = μ.1 k := by
  unfold act at h
  split at h
  all_goals (try unfold a1 at h)
  all_goals (try unfold a2 at h)
  all_goals (try unfold a2z at h)
  all_goals (try unfold l2 at h)
  all_goals (try unfold l2s at h)
  all_goals (try unfold aLd at h)
  all_goals (try unfold aSt at h)
  all_goals (repeat' split at h)
  all_goals first
    | cases h; done
    | (cases h; rfl)
    | (cases h
       rename_i hc
       refine congrFun ?_ k ▸ rfl)
    | (cases h
       rename_i hc
       simp only [Bool.and_eq_true, beq_iff_eq] at hc
       exact wI_ne (fun e => by subst e; omega))
    | (cases h
       rename_i hc
       simp only [Bool.and_eq_true, beq_iff_eq] at hc
       exact cpI_ne (fun e => by subst e; omega))
theorem run_keep {k : Nat} (hk : cKd k ≠ 1 ∧ cKd k ≠ 2 ∧ cKd k ≠ 3) (n : Nat) : ∀ (d m pc : Nat) (ls st : List Value) (μ : sM) (x : Option Value × sM), run d n m pc ls st μ = some x → x.2.1 k = μ.1 k := by
  induction n with
  | zero => intro d m pc ls st μ x h; simp [run] at h
  | succ n ih =>
    intro d m pc ls st μ x h
    rw [run] at h
    dsimp only at h
    unfold stepK at h
    generalize ha : act (smc m pc).2.1 ls st μ d (smc m pc).1 = a at h
    match a, h with
    | none, h => simp [goK] at h
    | some (.inl q), h =>
      have := ih _ _ _ _ _ _ _ h
      rw [this]
      exact act_keep hk ha
    | some (.inr (.inl q)), h =>
      simp only [goK, Option.bind_eq_some_iff] at h
      obtain ⟨u, h1, h2⟩ := h
      match d, h1 with
      | d + 1, h1 =>
        dsimp only at h1
        split at h1
        · have e1 := ih _ _ _ _ _ _ _ h1
          have e2 := ih _ _ _ _ _ _ _ h2
          rw [e2, e1]
        · cases h1
    | some (.inr (.inr r)), h =>
      simp only [goK, Option.some.injEq] at h
      rw [← h]
theorem callD_keep {k d y : Nat} {a : List Value} {μ : sM} {x : Option Value × sM} (hk : cKd k ≠ 1 ∧ cKd k ≠ 2 ∧ cKd k ≠ 3) (h : callD d y a μ = some x) : x.2.1 k = μ.1 k := by
  match d, h with
  | d + 1, h =>
    rw [callD_s] at h
    split at h
    · obtain ⟨n, h⟩ := runD_to h
      exact run_keep hk n _ _ _ _ _ _ _ h
    · cases h

/-! THE STEPS: what only tells -/
section PU
variable {m m' : SM} {M : MM} {nb nq pl tu b q k how ls n t : Nat} {B B2 Q Q2 : BK} {v : Nat → Nat}
theorem n5 (h : n < 5) : n = 0 ∨ n = 1 ∨ n = 2 ∨ n = 3 ∨ n = 4 := by omega
theorem ftO {y : Nat} (p : Int32) (hy : y < 2 ^ 31) : (f_X5_isFromTo p (nI 0) (nI y) = some (nI 0) ∧ ∀ k, k ≤ y → ¬ p = nI k) ∨ ∃ n, p = nI n ∧ n ≤ y ∧ f_X5_isFromTo p (nI 0) (nI y) = some (nI 1) := by
  rcases nI_ex p with ⟨n, hn, rfl⟩ | hp
  · rw [isFT hn (by decide) hy]
    by_cases c : n ≤ y
    · rw [if_pos ⟨Nat.zero_le _, c⟩]
      exact Or.inr ⟨n, rfl, c, rfl⟩
    · rw [if_neg (fun z => c z.2)]
      refine Or.inl ⟨rfl, fun k hk e => ?_⟩
      have := (nI_eq hn (by omega)).mp e
      omega
  · left
    refine ⟨?_, fun k hk => neg_ne hp (by omega)⟩
    unfold f_X5_isFromTo
    rw [if_pos (lt_nI_neg hp (by decide))]
end PU

/-! THE STEPS: drop, setPlan, readFrom -/
section SDd
variable {m m' : SM} {M : MM} {nb nq pl tu b q k how ls n v t : Nat} {B B2 Q Q2 : BK} {f : Nat → Nat}
theorem CQ.cg (h : CQ m nq Q) (hQ : ∀ x, x < nq → Q2 x = Q x) : CQ m nq Q2 := ⟨h.1, fun x hx => by rw [hQ x hx]; exact h.2 x hx⟩
/-- the questions when q is taken away, the last row empty -/
def drQ (Q : BK) (nq q : Nat) : BK := fun x k => if x = nq - 1 then 0 else if q ≤ x ∧ x < nq - 1 then Q (x + 1) k else Q x k
theorem drQ_rm {x : Nat} (hx : x < nq - 1) : drQ Q nq q x = rmQ Q q x := by
  funext k
  unfold drQ rmQ
  rw [if_neg (by omega)]
  by_cases c : x < q
  · rw [if_neg (by omega), if_pos c]
  · rw [if_pos (by omega), if_neg c]
end SDd

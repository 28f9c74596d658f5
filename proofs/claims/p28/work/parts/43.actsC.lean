/-! THE STEPS: ask, setTolerance, stop -/
section SC
variable {m m' : SM} {M : MM} {nb nq pl tu b q k how ls n v t : Nat} {B B2 Q Q2 : BK} {f : Nat → Nat}
theorem ZQ.cnt (h : ZQ (m 1) nq Q) : ZQ (up m 1 1 (nI n) 1) n Q := ⟨up_same, fun q k hq hk => by rw [up_o (Or.inr (by omega))]; exact h.2 q k hq hk⟩
theorem ZB.k1 {x : Int32} (h : ZB (m 1) nb B) : ZB (up m 1 1 x 1) nb B := ⟨by rw [up_o (Or.inr (by decide))]; exact h.1, fun b k hb hk => by rw [up_o (Or.inr (by omega))]; exact h.2 b k hb hk⟩
theorem ZH.k1 {x : Int32} (h : ZH (m 1) pl tu) : ZH (up m 1 1 x 1) pl tu := ⟨by rw [up_o (Or.inr (by decide))]; exact h.1, by rw [up_o (Or.inr (by decide))]; exact h.2⟩
theorem ZB.pq {x : Int32} (h : ZB (m 1) nb B) : ZB (up m 1 (172 + 8 * q + k) x 1) nb B := by
  rw [Nat.add_assoc]
  exact h.putQ
theorem ZH.pq {x : Int32} (h : ZH (m 1) pl tu) : ZH (up m 1 (172 + 8 * q + k) x 1) pl tu := h.put (by omega)
theorem setR_upB5 {k l li t : Nat} : upB (upB (upB (upB (upB Q q 0 k) q 1 l) q 2 li) q 3 t) q 4 0 = setR Q q (upB (upB (upB (upB (upB Q q 0 k) q 1 l) q 2 li) q 3 t) q 4 0 q) := by
  funext x
  unfold setR
  by_cases c : x = q
  · rw [if_pos c, c]
  · rw [if_neg c, upB_x c, upB_x c, upB_x c, upB_x c, upB_x c]
theorem QQ_one (h : QQ nq Q) (ho : ∀ x, x ≠ q → Q2 x = Q x) (hb : Q2 q 0 ≤ 4 ∧ 1 ≤ Q2 q 1 ∧ Q2 q 1 ≤ 15 ∧ Q2 q 2 ≤ 999 ∧ Q2 q 3 ≤ 99999 ∧ Q2 q 4 ≤ 1) : QQ nq Q2 := by
  refine ⟨h.1, fun x hx => ?_⟩
  by_cases c : x = q
  · subst c; exact hb
  · rw [ho x c]; exact h.2 x hx
theorem SD_setq (h : SD nb B nq Q) : SD nb B nq (setR Q q (setq nb B (Q q))) := by
  intro x hx
  unfold setR
  by_cases c : x = q
  · rw [if_pos c]
    unfold stB
    have e : setq nb B (Q q) 4 = 1 := rfl
    rw [e]
    rfl
  · rw [if_neg c]
    exact h x hx
end SC

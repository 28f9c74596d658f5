/-! THE STEPS: addBlock -/
def wB (B : BK) (b : Nat) (v : Nat → Nat) (i : Nat) : BK := fun x k => if x = b ∧ 5 ≤ k ∧ k < 5 + i then v (k - 5) else B x k
section AB
variable {m m' : SM} {M : MM} {nb nq pl tu b q k how ls n t : Nat} {B B2 Q Q2 : BK} {v : Nat → Nat}
theorem wB_0 : wB B b v 0 = B := by
  funext x k
  unfold wB
  rw [if_neg (by omega)]
theorem wB_s {i : Nat} : upB (wB B b v i) b (5 + i) (v i) = wB B b v (i + 1) := by
  funext x k
  unfold upB wB
  by_cases c : x = b ∧ k = 5 + i
  · obtain ⟨rfl, rfl⟩ := c
    rw [if_pos ⟨rfl, rfl⟩, if_pos ⟨rfl, by omega, by omega⟩, Nat.add_sub_cancel_left]
  · rw [if_neg c]
    by_cases d : x = b ∧ 5 ≤ k ∧ k < 5 + i
    · rw [if_pos d, if_pos (by omega)]
    · rw [if_neg d, if_neg (by omega)]
theorem ZB.cnt (h : ZB (m 1) nb B) : ZB (up m 1 0 (nI n) 1) n B := ⟨up_same, fun b k hb hk => by rw [up_o (Or.inr (by omega))]; exact h.2 b k hb hk⟩
theorem ZQ.k0 {x : Int32} (h : ZQ (m 1) nq Q) : ZQ (up m 1 0 x 1) nq Q := ⟨by rw [up_o (Or.inr (by decide))]; exact h.1, fun b k hb hk => by rw [up_o (Or.inr (by omega))]; exact h.2 b k hb hk⟩
theorem ZH.k0 {x : Int32} (h : ZH (m 1) pl tu) : ZH (up m 1 0 x 1) pl tu := ⟨by rw [up_o (Or.inr (by decide))]; exact h.1, by rw [up_o (Or.inr (by decide))]; exact h.2⟩
theorem CLS.tx {S K : AS} {hn ks tl : Nat} {Hs : Nat → AS} {tx : Nat → Int32} (h : CLS M S hn Hs ks K tl tx) (ht : TC m tl tx) : CLS (gs M 7 m) S hn Hs ks K tl tx := by
  obtain ⟨a1, ⟨od, b1, b2, b3, b4⟩, a3, a4, a5⟩ := h
  refine ⟨by rw [gs_ne (by decide)]; exact a1, ⟨od, by rw [gs_ne (by decide)]; exact b1, by rw [gs_ne (by decide)]; exact b2, b3, fun h hh => ?_⟩, by rw [gs_ne (by decide)]; exact a3, by rw [gs_ne (by decide)]; exact a4, by rw [gs_at]; exact ht⟩
  have hm : (od + h) % 4 < 4 := Nat.mod_lt _ (by decide)
  rw [gs_ne (by omega)]
  exact b4 h hh
/-- the row that the reference writes for a new block -/
def nB (B : BK) (b la bo to n : Nat) : BK := upB (upB (upB (upB (upB B b 0 la) b 1 bo) b 2 to) b 3 n) b 4 0
end AB

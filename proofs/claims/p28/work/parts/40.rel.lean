/-! THE RELATION: class and reference hold the same state -/
def CLS (M : MM) (S : AS) (hn : Nat) (Hs : Nat → AS) (ks : Nat) (K : AS) (tl : Nat) (tx : Nat → Int32) : Prop := RC (M 0) S ∧ (∃ od, HC M hn od Hs) ∧ M 8 0 5 = nI ks ∧ (ks = 1 → RC (M 2) K) ∧ TC (M 7) tl tx
def INV (S : AS) (hn : Nat) (Hs : Nat → AS) (ks : Nat) (K : AS) (tl : Nat) : Prop := SI S ∧ hn ≤ 4 ∧ (∀ h, h < hn → SI (Hs h)) ∧ ks ≤ 1 ∧ (ks = 1 → SI K) ∧ tl ≤ 80
section RL
variable {M M2 : MM} {m m2 mc : SM} {S S2 K : AS} {hn ks tl nb nq pl tu b q k how ls n : Nat} {Hs : Nat → AS} {tx : Nat → Int32} {B Q : BK}
theorem CLS.fr (h : CLS M S hn Hs ks K tl tx) (hg : ∀ g, g ≠ 1 → g ≠ 9 → M2 g = M g) : CLS M2 S hn Hs ks K tl tx := by
  obtain ⟨a1, ⟨od, b1, b2, b3, b4⟩, a3, a4, a5⟩ := h
  refine ⟨by rw [hg 0 (by decide) (by decide)]; exact a1, ⟨od, by rw [hg 8 (by decide) (by decide)]; exact b1, by rw [hg 8 (by decide) (by decide)]; exact b2, b3, fun h hh => ?_⟩, by rw [hg 8 (by decide) (by decide)]; exact a3, by rw [hg 2 (by decide) (by decide)]; exact a4, by rw [hg 7 (by decide) (by decide)]; exact a5⟩
  have hm : (od + h) % 4 < 4 := Nat.mod_lt _ (by decide)
  rw [hg _ (by omega) (by omega)]
  exact b4 h hh
/-! arguments: which block, which question, from .. to -/
theorem ftN {x y : Nat} (p : Int32) (hx : x < 2 ^ 31) (hy : y < 2 ^ 31) : f_X5_isFromTo p (nI x) (nI y) = some (nI 0) ∨ ∃ n, p = nI n ∧ x ≤ n ∧ n ≤ y ∧ f_X5_isFromTo p (nI x) (nI y) = some (nI 1) := by
  rcases nI_ex p with ⟨n, hn, rfl⟩ | hp
  · rw [isFT hn hx hy]
    by_cases c : x ≤ n ∧ n ≤ y
    · rw [if_pos c]
      exact Or.inr ⟨n, rfl, c.1, c.2, rfl⟩
    · rw [if_neg c]
      exact Or.inl rfl
  · left
    unfold f_X5_isFromTo
    rw [if_pos (lt_nI_neg hp hx)]
/-! settled states -/
theorem SD_stl : SD nb B nq (stl nb B nq Q) := by
  intro q hq
  unfold stl
  by_cases c : q < nq ∧ stB nb B (Q q) = true
  · rw [if_pos c]
    unfold stB
    have e : setq nb B (Q q) 4 = 1 := rfl
    rw [e]
    rfl
  · rw [if_neg c]
    cases e : stB nb B (Q q) with
    | false => rfl
    | true => exact absurd ⟨hq, e⟩ c
theorem stl_SD (h : SD nb B nq Q) : stl nb B nq Q = Q := by
  funext q
  unfold stl
  by_cases c : q < nq ∧ stB nb B (Q q) = true
  · have := h q c.1
    rw [c.2] at this
    exact absurd this (by decide)
  · rw [if_neg c]
theorem SI_mk (h1 : BI nb B) (h2 : QQ nq Q) (h3 : pl ≤ 2) (h4 : tu < 8) : SI (nb, nq, pl, tu, B, stl nb B nq Q) := ⟨h1, QQ_stl h2, h3, h4, SD_stl⟩
/-- the class settles -/
theorem setC {M : MM} (hI : BI nb B) (hQQ : QQ nq Q) (hB : CB (M 0) nb B) (hQ : CQ (M 0) nq Q) (hH : CH (M 0) pl tu) : ∃ m', f_X4_settle (M 0) = some (0, m') ∧ RC (gs M 0 m' 0) (nb, nq, pl, tu, B, stl nb B nq Q) ∧ (∀ g, g ≠ 0 → gs M 0 m' g = M g) ∧ ∀ c, c < 19 → m' c = M 0 c := by
  obtain ⟨m', p1, p2, p3, p4⟩ := settleC_s hI hQQ hB hQ
  refine ⟨m', p1, ?_, fun g hg => gs_ne hg, p2⟩
  rw [gs_at]
  exact ⟨hB.fr hI.1 p2, p3, hH.fr p2, p4⟩
end RL

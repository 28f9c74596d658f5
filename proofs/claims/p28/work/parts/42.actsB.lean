/-! THE STEPS: narrow, forget -/
section SB
variable {m m' : SM} {nb nq pl tu b q k how ls n v t : Nat} {B B2 Q : BK} {f : Nat → Nat}
theorem minB_top (h1 : 1 ≤ n) (ht : t ≤ 999) (hf : ∀ i, i < n → f i ≤ t) : minB t f n = minB 999 f n := by
  have e : minB (min t 999) f n = min t (minB 999 f n) := minB_min n
  rw [Nat.min_eq_left ht] at e
  have h2 := (minB_le (f := f) (a := 999) n).2 0 (by omega)
  have h3 := hf 0 (by omega)
  omega
theorem maxB_max {a : Nat} : ∀ n : Nat, maxB a f n = max a (maxB 0 f n)
  | 0 => by show a = max a 0; omega
  | n + 1 => by
    have e := maxB_max (a := a) n
    show max (maxB a f n) (f n) = max a (max (maxB 0 f n) (f n))
    omega
theorem maxB_bot (h1 : 1 ≤ n) (hf : ∀ i, i < n → t ≤ f i) : maxB t f n = maxB 0 f n := by
  have e := maxB_max (f := f) (a := t) n
  have h2 := (maxB_le (f := f) (a := 0) n).2 0 (by omega)
  have h3 := hf 0 (by omega)
  omega
theorem tb15 : ∀ l, l < 4 → (15 : Nat).testBit l = true := by decide
theorem rQ15 (hI : BI nb B) : rQ nb B 15 k = sumTo (fun b => B b k) nb := by
  unfold rQ
  exact sumTo_congr _ (fun i hi => by rw [if_pos (tb15 _ (hI.2 i hi).1)])
theorem fgB_s {i : Nat} : upB (fgB B i) i 4 0 = fgB B (i + 1) := by
  funext b k
  unfold upB fgB
  by_cases c : b = i
  · subst c
    by_cases d : k = 4
    · subst d; simp
    · simp [d]
  · by_cases d : b < i
    · simp [c, d, show b < i + 1 by omega]
    · simp [c, d, show ¬ b < i + 1 by omega]
theorem BI_fg (hI : BI nb B) {i : Nat} : BI nb (fgB B i) := by
  refine ⟨hI.1, fun b hb => ?_⟩
  have hbi := hI.2 b hb
  have a4 : fgB B i b 4 ≤ B b 4 := by unfold fgB; split <;> omega
  have ao : ∀ k, k ≠ 4 → fgB B i b k = B b k := fun k hk => by unfold fgB; rw [if_neg (fun z => hk z.2)]
  rw [ao 0 (by decide), ao 1 (by decide), ao 2 (by decide), ao 3 (by decide)]
  refine ⟨hbi.1, hbi.2.1, hbi.2.2.1, hbi.2.2.2.1, hbi.2.2.2.2.1, by omega, fun r hr => ?_⟩
  rw [ao _ (by omega)]
  exact hbi.2.2.2.2.2.2 r hr
theorem s4_le (hI : BI nb B) : sumTo (fun b => B b 4) nb ≤ 128 := by
  have h8 := hI.1
  have := sumTo_le (f := fun b => B b 4) (c := 16) nb (fun i hi => by have := hI.2 i hi; show B i 4 ≤ 16; omega)
  omega
end SB

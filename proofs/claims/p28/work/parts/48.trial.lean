/-! THE STEPS: stopsIn, best: a trial run, then what was is again -/
section TR
variable {m m' : SM} {M : MM} {nb nq pl tu b q k how ls n t : Nat} {B B2 Q Q2 : BK} {T : T3} {S K : AS} {hn ks tl : Nat} {Hs : Nat → AS} {tx : Nat → Int32}
/-- has question q stopped -/
def hs (q : Nat) : BK → Bool := fun Q => decide (Q q 4 ≠ 0)
theorem hs_t (h : Q q 4 = 0) : hs q Q = false := by unfold hs; simp [h]
theorem hs_f (h : Q q 4 ≠ 0) : hs q Q = true := by unfold hs; simp [h]
theorem run_s {P : BK → Bool} (h : P T.2.2 = true) : run pl nb nq P n T = (0, T) := by
  cases n with
  | zero => rfl
  | succ n => unfold run; rw [if_pos (Or.inl h)]
theorem run_u {P : BK → Bool} (h : ua nb T.2.1 = 0) : run pl nb nq P n T = (0, T) := by
  cases n with
  | zero => rfl
  | succ n => unfold run; rw [if_pos (Or.inr h)]
theorem run_1 {P : BK → Bool} (hp : P T.2.2 = false) (hu : ua nb T.2.1 ≠ 0) : run pl nb nq P (n + 1) T = ((run pl nb nq P n (stp pl nb nq T)).1 + 1, (run pl nb nq P n (stp pl nb nq T)).2) := by
  conv => lhs; unfold run
  rw [if_neg (by
    rintro (h | h)
    · rw [hp] at h; exact absurd h (by decide)
    · exact hu h)]
/-- in how many reads it stops -/
def siR (x : Nat × T3) (c q : Nat) : Int32 := if x.2.2.2 q 4 = 0 then -5 else nI (c + x.1)
theorem stopC_L {p0 : Int32} (hpl : pl ≤ 2) (hq : q < nq) : ∀ n k (M : MM) (T : T3), k ≤ 128 → k < n → TI nb nq T → CT (M 1) pl nb nq T → T.2.2 q 4 = 0 → ∃ m', f_X5_stopsIn_L54 p0 n M q (nI (129 - k)) = some (siR (run pl nb nq (hs q) k T) (128 - k) q, gs M 1 m') := by
  intro n
  induction n with
  | zero => intro k M T h1 h2; omega
  | succ n ih =>
    intro k M T h1 h2 hT hC h4
    rw [f_X5_stopsIn_L54.eq_2]
    cases k with
    | zero =>
      rw [ilt_t (by decide) (by decide)]
      refine ⟨M 1, ?_⟩
      have e : siR (run pl nb nq (hs q) 0 T) (128 - 0) q = -5 := by unfold siR run; rw [if_pos h4]
      rw [e, gs_self]
    | succ k =>
      obtain ⟨m1, g1, g2⟩ := planC_s hpl hT hC
      rw [ilt_f (by omega) (by omega), g1, bd_some, lt1_eq]
      by_cases d : ua nb T.2.1 = 0
      · have e : siR (run pl nb nq (hs q) (k + 1) T) (128 - (k + 1)) q = -5 := by rw [run_u d]; unfold siR; rw [if_pos h4]
        rw [if_pos d, ieq_t rfl, e]
        exact ⟨m1, rfl⟩
      · have hT1 := TI_stp (pl := pl) hT
        have c4 := (g2.2.1.2 q hq).2.2.2.2.1
        have q1 := (hT1.2.2.2 q hq).2.2.2.2.2
        rw [if_neg d, ieq_f (by decide) (by decide) (by decide), gs_at, run_1 (hs_t h4) d]
        by_cases f : (stp pl nb nq T).2.2 q 4 = 0
        · rw [f] at c4
          rw [c4, ieq_t rfl, nI_add]
          obtain ⟨m', p1⟩ := ih k (gs M 1 m1) (stp pl nb nq T) (by omega) (by omega) hT1 (by rw [gs_at]; exact g2) f
          refine ⟨m', ?_⟩
          rw [gs_gs] at p1
          rw [show 129 - (k + 1) + 1 = 129 - k by omega, p1]
          unfold siR
          by_cases w : (run pl nb nq (hs q) k (stp pl nb nq T)).2.2.2 q 4 = 0
          · rw [if_pos w, if_pos w]
          · rw [if_neg w, if_neg w, show 128 - k + (run pl nb nq (hs q) k (stp pl nb nq T)).1 = 128 - (k + 1) + ((run pl nb nq (hs q) k (stp pl nb nq T)).1 + 1) by omega]
        · have f1 : (stp pl nb nq T).2.2 q 4 = 1 := by omega
          rw [f1] at c4
          rw [c4, ieq_f (by decide) (by decide) (by decide)]
          refine ⟨m1, ?_⟩
          rw [run_s (hs_f f)]
          unfold siR
          rw [if_neg f, show 128 - (k + 1) + (0 + 1) = 129 - (k + 1) by omega]
/-! best -/
def rn (nb nq : Nat) (T : T3) (p : Nat) : Nat × T3 := run p nb nq (fun Q => decide (opn nq Q = 0)) 128 T
def bs (nb nq : Nat) (T : T3) : Nat → Option (Nat × Nat)
  | 0 => none
  | p + 1 => if opn nq (rn nb nq T p).2.2.2 = 0 then (match bs nb nq T p with
      | none => some (p, (rn nb nq T p).1)
      | some x => if x.2 ≤ (rn nb nq T p).1 then some x else some (p, (rn nb nq T p).1)) else bs nb nq T p
def bsC (o : Option (Nat × Nat)) : Int32 := match o with
  | none => nI 129
  | some x => nI x.2
def bsR (o : Option (Nat × Nat)) : Int32 := match o with
  | none => -5
  | some x => nI x.2
def bsV (o : Option (Nat × Nat)) (a0 : Int32) : Int32 := if a0 = nI 0 then mpI o else bsR o
theorem rn_le {p : Nat} : (rn nb nq T p).1 ≤ 128 := run_le 128 T
theorem bs_b : ∀ n : Nat, n ≤ 3 → ∀ x, bs nb nq T n = some x → x.1 < 3 ∧ x.2 ≤ 128
  | 0, _, x, h => by cases h
  | n + 1, hn, x, h => by
    have hr := rn_le (nb := nb) (nq := nq) (T := T) (p := n)
    unfold bs at h
    by_cases c : opn nq (rn nb nq T n).2.2.2 = 0
    · rw [if_pos c] at h
      cases e : bs nb nq T n with
      | none =>
        rw [e] at h
        cases h
        exact ⟨by omega, hr⟩
      | some y =>
        rw [e] at h
        have ih := bs_b n (by omega) y e
        by_cases d : y.2 ≤ (rn nb nq T n).1
        · simp only [d, if_true] at h
          cases h
          exact ih
        · simp only [d, if_false] at h
          cases h
          exact ⟨by omega, hr⟩
    · rw [if_neg c] at h
      exact bs_b n (by omega) x h
theorem bestC_L {a0 : Int32} (hS : SI (nb, nq, pl, tu, B, Q)) : ∀ n p (M : MM), p ≤ 3 → 3 < p + n → RC (M 0) (nb, nq, pl, tu, B, Q) → ∃ m', f_X5_best_L35 a0 n M (mpI (bs nb nq (tu, B, Q) p)) (bsC (bs nb nq (tu, B, Q) p)) (nI p) = some (bsV (bs nb nq (tu, B, Q) 3) a0, gs M 1 m') := by
  have hT : TI nb nq (tu, B, Q) := ⟨hS.2.2.2.1, hS.1, hS.2.1⟩
  intro n
  induction n with
  | zero => intro p M h1 h2; omega
  | succ n ih =>
    intro p M h1 h2 hR
    rw [f_X5_best_L35.eq_2]
    by_cases c : p = 3
    · subst c
      rw [ilt_t (by decide) (by decide)]
      refine ⟨M 1, ?_⟩
      rw [gs_self]
      unfold f_X5_best_L98 bsV
      have hb := bs_b (nb := nb) (nq := nq) (T := (tu, B, Q)) 3 (Nat.le_refl _)
      cases e : bs nb nq (tu, B, Q) 3 with
      | none =>
        show (if (-5 : Int32) = -5 then _ else _) = _
        rw [i5_t]
        by_cases f : a0 = nI 0
        · rw [if_pos f]; rfl
        · rw [if_neg f]; rfl
      | some x =>
        have hx := hb x e
        show (if nI x.1 = -5 then _ else _) = _
        rw [i5_f (by omega)]
        by_cases f : a0 = nI 0
        · rw [if_pos f, if_pos f]
        · rw [if_neg f, if_neg f]; rfl
    · rw [ilt_f (by omega) (by decide)]
      obtain ⟨m1, g1, g2⟩ := copyC_s (m := M 1) hS hR
      rw [g1, bd_some, lt1_eq, lt1_eq, gs_at, gs_gs]
      have hC : CT (up m1 0 4 (nI p)) p nb nq (tu, B, Q) := ⟨CB.cp g2.1 hS.1.1 (up_o (Or.inr (by decide))) (fun c h1 _ => up_c (by omega)), CQ.fr g2.2.1 (up_o (Or.inr (by decide))) (fun x _ => up_c (by omega)), ⟨up_same, by rw [up_o (Or.inr (by decide))]; exact g2.2.2.1.2⟩, fun x hx h4 hr => by rw [up_c (by omega)]; exact g2.2.2.2 x hx h4 hr⟩
      obtain ⟨m2, p1, p2⟩ := whileC_s (by omega) hT hC
      have hT2 := TI_run (pl := p) (P := fun Q => decide (opn nq Q = 0)) 128 (tu, B, Q) hT
      have e1 := openC_s hT2.2.2 p2.2.1
      have hol := opn_le hT2.2.2
      have hr := rn_le (nb := nb) (nq := nq) (T := (tu, B, Q)) (p := p)
      have hes : bs nb nq (tu, B, Q) (p + 1) = if opn nq (rn nb nq (tu, B, Q) p).2.2.2 = 0 then (match bs nb nq (tu, B, Q) p with
        | none => some (p, (rn nb nq (tu, B, Q) p).1)
        | some x => if x.2 ≤ (rn nb nq (tu, B, Q) p).1 then some x else some (p, (rn nb nq (tu, B, Q) p).1)) else bs nb nq (tu, B, Q) p := rfl
      have hrn : run p nb nq (fun Q => decide (opn nq Q = 0)) 128 (tu, B, Q) = rn nb nq (tu, B, Q) p := rfl
      rw [hrn] at p1 e1 hol
      obtain ⟨m', w⟩ := ih (p + 1) (gs M 1 m2) (by omega) (by omega) (by rw [gs_ne (by decide)]; exact hR)
      rw [gs_gs] at w
      rw [gs_at, p1, bd_some, lt1_eq, gs_gs, gs_at, e1, b1_some, nI_add]
      refine ⟨m', ?_⟩
      by_cases f : opn nq (rn nb nq (tu, B, Q) p).2.2.2 = 0
      · rw [if_pos f] at hes
        rw [f, ieq_t rfl]
        cases e : bs nb nq (tu, B, Q) p with
        | none =>
          rw [e] at hes
          rw [hes] at w
          show (if nI 129 ≤ nI (rn nb nq (tu, B, Q) p).1 then _ else _) = _
          rw [ile_f (by omega) (by omega)]
          exact w
        | some x =>
          rw [e] at hes
          have hx := bs_b (nb := nb) (nq := nq) (T := (tu, B, Q)) p (by omega) x e
          show (if nI x.2 ≤ nI (rn nb nq (tu, B, Q) p).1 then _ else _) = _
          by_cases d : x.2 ≤ (rn nb nq (tu, B, Q) p).1
          · simp only [d, if_true] at hes
            rw [hes] at w
            rw [ile_t d (by omega)]
            exact w
          · simp only [d, if_false] at hes
            rw [hes] at w
            rw [ile_f (by omega) (by omega)]
            exact w
      · rw [if_neg f] at hes
        rw [hes] at w
        rw [ieq_f f (by omega) (by decide)]
        exact w
end TR

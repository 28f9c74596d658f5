/-! THE REFERENCE: which block is next, reading -/
def ffi (P : Nat → Bool) : Nat → Nat → Option Nat
  | 0, _ => none
  | n + 1, i => if P i = true then some i else ffi P n (i + 1)
def urd (B : BK) (b : Nat) : Bool := decide (B b 4 < B b 3)
def bt (nb tu : Nat) (B : BK) : Option Nat := (ffi (fun k => urd B ((tu + k) % nb)) nb 0).map (fun k => (tu + k) % nb)
def mp (pl nb : Nat) (B : BK) (nq : Nat) (Q : BK) : Nat → Option (Nat × Nat)
  | 0 => none
  | n + 1 => if urd B n = true then (match mp pl nb B nq Q n with
      | none => some (n, wo pl nb B nq Q n)
      | some x => if x.2 < wo pl nb B nq Q n then some (n, wo pl nb B nq Q n) else some x) else mp pl nb B nq Q n
def nx (pl tu nb : Nat) (B : BK) (nq : Nat) (Q : BK) : Option Nat := if pl = 0 then bt nb tu B else (mp pl nb B nq Q nb).map (fun x => x.1)
def nxI (o : Option Nat) : Int32 := match o with
  | none => -5
  | some b => nI b
def mpI (o : Option (Nat × Nat)) : Int32 := match o with
  | none => -5
  | some x => nI x.1
def mpW (o : Option (Nat × Nat)) : Int32 := match o with
  | none => nI 0
  | some x => nI x.2
/-- a row of b read -/
def rdB (B : BK) (b : Nat) : BK := upB B b 4 (B b 4 + 1)
/-- how many rows are not read -/
def ua (nb : Nat) (B : BK) : Nat := sumTo (fun b => B b 3 - B b 4) nb
section MD
variable {m : SM} {nb nq pl tu b q k how ls n : Nat} {B Q : BK}
theorem nI_mod {a b : Nat} (ha : a < 2 ^ 31) (hb : b < 2 ^ 31) : nI a - nI a / nI b * nI b = nI (a % b) := by
  have h1 : a / b * b ≤ a := Nat.div_mul_le_self a b
  rw [nI_div ha hb, nI_mul, nI_sub h1]
  congr 1
  have h2 := Nat.div_add_mod a b
  rw [Nat.mul_comm] at h2
  omega
theorem nI_ne5 {a : Nat} (ha : a < 2 ^ 31) : ¬ nI a = -5 := by
  intro h
  have h1 := congrArg Int32.toInt h
  rw [nI_toInt ha] at h1
  have h2 : (-5 : Int32).toInt = -5 := rfl
  omega
theorem i5_f {α : Type} {a : Nat} {x y : α} (ha : a < 2 ^ 31) : (if nI a = -5 then x else y) = y := if_neg (nI_ne5 ha)
theorem i5_t {α : Type} {x y : α} : (if (-5 : Int32) = -5 then x else y) = x := if_pos rfl
theorem mp_lt : ∀ n : Nat, ∀ x, mp pl nb B nq Q n = some x → x.1 < n ∧ urd B x.1 = true ∧ x.2 = wo pl nb B nq Q x.1
  | 0, x, h => by cases h
  | n + 1, x, h => by
    unfold mp at h
    by_cases c : urd B n = true
    · rw [if_pos c] at h
      cases e : mp pl nb B nq Q n with
      | none =>
        rw [e] at h
        cases h
        exact ⟨Nat.lt_succ_self n, c, rfl⟩
      | some y =>
        rw [e] at h
        obtain ⟨h1, h2, h3⟩ := mp_lt n y e
        by_cases d : y.2 < wo pl nb B nq Q n
        · simp only [d, if_true] at h
          cases h
          exact ⟨Nat.lt_succ_self n, c, rfl⟩
        · simp only [d, if_false] at h
          cases h
          exact ⟨Nat.lt_succ_of_lt h1, h2, h3⟩
    · rw [if_neg c] at h
      obtain ⟨h1, h2, h3⟩ := mp_lt n x h
      exact ⟨Nat.lt_succ_of_lt h1, h2, h3⟩
theorem mp_none : ∀ n : Nat, mp pl nb B nq Q n = none → ∀ i, i < n → urd B i = false
  | 0, _, i, hi => by omega
  | n + 1, h, i, hi => by
    unfold mp at h
    by_cases c : urd B n = true
    · rw [if_pos c] at h
      cases e : mp pl nb B nq Q n with
      | none => rw [e] at h; cases h
      | some y =>
        rw [e] at h
        by_cases d : y.2 < wo pl nb B nq Q n
        · simp only [d, if_true] at h
          cases h
        · simp only [d, if_false] at h
          cases h
    · rw [if_neg c] at h
      by_cases hn : i = n
      · subst hn
        cases hu : urd B i with
        | true => exact absurd hu c
        | false => rfl
      · exact mp_none n h i (by omega)
theorem ffi_some {P : Nat → Bool} : ∀ n i k : Nat, ffi P n i = some k → i ≤ k ∧ k < i + n ∧ P k = true
  | 0, i, k, h => by cases h
  | n + 1, i, k, h => by
    unfold ffi at h
    by_cases c : P i = true
    · rw [if_pos c] at h
      cases h
      exact ⟨Nat.le_refl _, by omega, c⟩
    · rw [if_neg c] at h
      obtain ⟨h1, h2, h3⟩ := ffi_some n (i + 1) k h
      exact ⟨by omega, by omega, h3⟩
theorem ffi_none {P : Nat → Bool} : ∀ n i : Nat, ffi P n i = none → ∀ k, i ≤ k → k < i + n → P k = false
  | 0, i, h, k, h1, h2 => by omega
  | n + 1, i, h, k, h1, h2 => by
    unfold ffi at h
    by_cases c : P i = true
    · rw [if_pos c] at h; cases h
    · rw [if_neg c] at h
      by_cases hk : k = i
      · subst hk
        cases hu : P k with
        | true => exact absurd hu c
        | false => rfl
      · exact ffi_none n (i + 1) h k (by omega) (by omega)
theorem nx_some (h : nx pl tu nb B nq Q = some b) : b < nb ∧ urd B b = true := by
  unfold nx at h
  by_cases c : pl = 0
  · rw [if_pos c] at h
    unfold bt at h
    cases e : ffi (fun k => urd B ((tu + k) % nb)) nb 0 with
    | none => rw [e] at h; cases h
    | some k =>
      rw [e] at h
      cases h
      obtain ⟨h1, h2, h3⟩ := ffi_some _ _ _ e
      exact ⟨Nat.mod_lt _ (by omega), h3⟩
  · rw [if_neg c] at h
    cases e : mp pl nb B nq Q nb with
    | none => rw [e] at h; cases h
    | some x =>
      rw [e] at h
      cases h
      obtain ⟨h1, h2, h3⟩ := mp_lt _ _ e
      exact ⟨h1, h2⟩
theorem nx_none (h : nx pl tu nb B nq Q = none) : ∀ i, i < nb → urd B i = false := by
  intro i hi
  unfold nx at h
  by_cases c : pl = 0
  · rw [if_pos c] at h
    unfold bt at h
    cases e : ffi (fun k => urd B ((tu + k) % nb)) nb 0 with
    | none =>
      have h1 := ffi_none _ _ e ((i + nb - tu % nb) % nb) (Nat.zero_le _) (by have := Nat.mod_lt (i + nb - tu % nb) (show nb > 0 by omega); omega)
      have h2 : (tu + (i + nb - tu % nb) % nb) % nb = i := by
        have hlt := Nat.mod_lt tu (show nb > 0 by omega)
        rw [Nat.add_mod_mod, ← Nat.mod_add_mod, show tu % nb + (i + nb - tu % nb) = i + nb by omega, Nat.add_mod_right, Nat.mod_eq_of_lt hi]
      rw [h2] at h1
      exact h1
    | some k => rw [e] at h; cases h
  · rw [if_neg c] at h
    cases e : mp pl nb B nq Q nb with
    | none => exact mp_none _ e i hi
    | some x => rw [e] at h; cases h
theorem byTurn_L (hI : BI nb B) (hB : ZB (m 1) nb B) (hH : ZH (m 1) pl tu) (ht : tu < 8) : ∀ n i, i ≤ nb → nb < i + n → f_X6_byTurn_L2 m n (nI i) = some (nxI ((ffi (fun k => urd B ((tu + k) % nb)) (nb - i) i).map (fun k => (tu + k) % nb))) := by
  have hn := hI.1
  intro n
  induction n with
  | zero => intro i h2 h3; omega
  | succ n ih =>
    intro i h2 h3
    rw [f_X6_byTurn_L2.eq_2]
    by_cases c : i = nb
    · subst c
      rw [Nat.sub_self]
      simp (disch := omega) only [ile_t, ile_f, ilt_t, ilt_f, ieq_t, ieq_f, gd_nI, gn_nI, gz_nI, b1_some, bd_some, lt1_eq, nI_add, nI_mul, nI_clamp, if_true, if_false, hB.1]
      rfl
    · have hlt : (tu + i) % nb < nb := Nat.mod_lt _ (by omega)
      have e1 := unread_s hI hB hlt
      have hbi := hI.2 _ hlt
      rw [show nb - i = (nb - (i + 1)) + 1 by omega]
      unfold ffi
      simp (disch := omega) only [ile_t, ile_f, ilt_t, ilt_f, ieq_t, ieq_f, gd_nI, gn_nI, gz_nI, b1_some, bd_some, lt1_eq, nI_add, nI_mul, nI_clamp, if_true, if_false, hB.1, hH.2, nI_mod, e1]
      by_cases d : B ((tu + i) % nb) 4 < B ((tu + i) % nb) 3
      · rw [ile_f (by omega) (by omega)]
        have hu : urd B ((tu + i) % nb) = true := by unfold urd; exact decide_eq_true d
        rw [if_pos hu]
        rfl
      · rw [ile_t (by omega) (by omega)]
        have hu : ¬ urd B ((tu + i) % nb) = true := by unfold urd; simp [d]
        rw [if_neg hu]
        exact ih (i + 1) (by omega) (by omega)
theorem byTurn_s (hI : BI nb B) (hB : ZB (m 1) nb B) (hH : ZH (m 1) pl tu) (ht : tu < 8) : f_X6_byTurn m = some (nxI (bt nb tu B)) :=
  byTurn_L hI hB hH ht FU 0 (by omega) (by rw [FU_eq]; have := hI.1; omega)
theorem next_L (hI : BI nb B) (hQQ : QQ nq Q) (hpl : pl ≤ 2) : ∀ n i m, i ≤ nb → nb < i + n → ZB (m 1) nb B → ZQ (m 1) nq Q → ZH (m 1) pl tu → ∃ m', f_X6_nextBlock_L21 n m (mpI (mp pl nb B nq Q i)) (mpW (mp pl nb B nq Q i)) (nI i) = some (mpI (mp pl nb B nq Q nb), m') ∧ SE m m' := by
  have hn := hI.1
  have hq6 := hQQ.1
  intro n
  induction n with
  | zero => intro i m h2 h3; omega
  | succ n ih =>
    intro i m h2 h3 hB hQ hH
    rw [f_X6_nextBlock_L21.eq_2]
    by_cases c : i = nb
    · subst c
      simp (disch := omega) only [ile_t, ile_f, ilt_t, ilt_f, ieq_t, ieq_f, gd_nI, gn_nI, gz_nI, b1_some, bd_some, lt1_eq, nI_add, nI_mul, nI_clamp, if_true, if_false, hB.1]
      exact ⟨m, rfl, SE.rf⟩
    · have e1 := unread_s hI hB (b := i) (by omega)
      have hbi := hI.2 i (by omega)
      have hes : mp pl nb B nq Q (i + 1) = if urd B i = true then (match mp pl nb B nq Q i with
          | none => some (i, wo pl nb B nq Q i)
          | some x => if x.2 < wo pl nb B nq Q i then some (i, wo pl nb B nq Q i) else some x) else mp pl nb B nq Q i := rfl
      by_cases d : B i 4 < B i 3
      · have hu : urd B i = true := by unfold urd; exact decide_eq_true d
        rw [if_pos hu] at hes
        obtain ⟨m1, g1, g2⟩ := worth_s hI hQQ hB hQ hH hpl (b := i) (by omega)
        have hB1 : ZB (m1 1) nb B := by rw [g2.2]; exact hB
        have hQ1 : ZQ (m1 1) nq Q := by rw [g2.2]; exact hQ
        have hH1 : ZH (m1 1) pl tu := by rw [g2.2]; exact hH
        simp (disch := omega) only [ile_t, ile_f, ilt_t, ilt_f, ieq_t, ieq_f, gd_nI, gn_nI, gz_nI, b1_some, bd_some, lt1_eq, nI_add, nI_mul, nI_clamp, if_true, if_false, hB.1, e1]
        cases e : mp pl nb B nq Q i with
        | none =>
          rw [e] at hes
          obtain ⟨m', p1, p2⟩ := ih (i + 1) m1 (by omega) (by omega) hB1 hQ1 hH1
          rw [hes] at p1
          show ∃ m', (if (-5 : Int32) = -5 then _ else _) = _ ∧ _
          rw [i5_t]
          unfold f_X6_nextBlock_L54
          simp only [g1, bd_some, nI_add]
          exact ⟨m', p1, g2.tr p2⟩
        | some x =>
          rw [e] at hes
          obtain ⟨x1, x2, x3⟩ := mp_lt _ _ e
          have hwx := wo_le (pl := pl) (Q := Q) hI (b := x.1) (by omega) hq6
          have hwi := wo_le (pl := pl) (Q := Q) hI (b := i) (by omega) hq6
          show ∃ m', (if nI x.1 = -5 then _ else bd (f_X6_worth m (nI i)) fun r8 m9 => if r8 ≤ nI x.2 then f_X6_nextBlock_L21 n m9 (nI x.1) (nI x.2) (nI (i + 1)) else _) = _ ∧ _
          rw [i5_f (by omega), g1, bd_some]
          by_cases f : x.2 < wo pl nb B nq Q i
          · simp only [f, if_true] at hes
            obtain ⟨m2, r1, r2⟩ := worth_s hI hQQ hB1 hQ1 hH1 hpl (b := i) (by omega)
            obtain ⟨m', p1, p2⟩ := ih (i + 1) m2 (by omega) (by omega) (by rw [r2.2]; exact hB1) (by rw [r2.2]; exact hQ1) (by rw [r2.2]; exact hH1)
            rw [hes] at p1
            rw [ile_f f (by omega)]
            unfold f_X6_nextBlock_L54
            simp only [r1, bd_some, nI_add]
            exact ⟨m', p1, (g2.tr r2).tr p2⟩
          · simp only [f, if_false] at hes
            obtain ⟨m', p1, p2⟩ := ih (i + 1) m1 (by omega) (by omega) hB1 hQ1 hH1
            rw [hes] at p1
            rw [ile_t (by omega) (by omega)]
            exact ⟨m', p1, g2.tr p2⟩
      · have hu : ¬ urd B i = true := by unfold urd; simp [d]
        rw [if_neg hu] at hes
        obtain ⟨m', p1, p2⟩ := ih (i + 1) m (by omega) (by omega) hB hQ hH
        rw [hes] at p1
        simp (disch := omega) only [ile_t, ile_f, ilt_t, ilt_f, ieq_t, ieq_f, gd_nI, gn_nI, gz_nI, b1_some, bd_some, lt1_eq, nI_add, nI_mul, nI_clamp, if_true, if_false, hB.1, e1]
        exact ⟨m', p1, p2⟩
theorem nextBlock_s (hI : BI nb B) (hQQ : QQ nq Q) (hpl : pl ≤ 2) (ht : tu < 8) (hB : ZB (m 1) nb B) (hQ : ZQ (m 1) nq Q) (hH : ZH (m 1) pl tu) : ∃ m', f_X6_nextBlock m = some (nxI (nx pl tu nb B nq Q), m') ∧ SE m m' := by
  unfold f_X6_nextBlock nx
  by_cases c : pl = 0
  · subst c
    have e1 := byTurn_s hI hB hH ht
    simp (disch := omega) only [ile_t, ile_f, ilt_t, ilt_f, ieq_t, ieq_f, gd_nI, gn_nI, gz_nI, b1_some, bd_some, lt1_eq, nI_add, nI_mul, nI_clamp, if_true, if_false, hH.1, e1]
    exact ⟨m, rfl, SE.rf⟩
  · obtain ⟨m', p1, p2⟩ := next_L hI hQQ hpl FU 0 m (by omega) (by rw [FU_eq]; have := hI.1; omega) hB hQ hH
    refine ⟨m', ?_, p2⟩
    simp (disch := omega) only [ile_t, ile_f, ilt_t, ilt_f, ieq_t, ieq_f, gd_nI, gn_nI, gz_nI, b1_some, bd_some, lt1_eq, nI_add, nI_mul, nI_clamp, if_true, if_false, hH.1, c]
    rw [show nxI (Option.map (fun x => x.1) (mp pl nb B nq Q nb)) = mpI (mp pl nb B nq Q nb) by cases mp pl nb B nq Q nb <;> rfl]
    exact p1
theorem BI_rdB (h : BI nb B) (hu : urd B b = true) : BI nb (rdB B b) := by
  have hu : B b 4 < B b 3 := of_decide_eq_true hu
  refine ⟨h.1, fun b' hb' => ?_⟩
  have hh := h.2 b' hb'
  unfold rdB upB
  by_cases c : b' = b
  · subst c
    simp only [true_and]
    refine ⟨by simpa using hh.1, by simpa using hh.2.1, by simpa using hh.2.2.1, by simpa using hh.2.2.2.1, by simpa using hh.2.2.2.2.1, by simp; omega, fun r hr => ?_⟩
    have h5 : ¬ 5 + r = 4 := by omega
    have hr : r < B b' 3 := by simpa using hr
    have := hh.2.2.2.2.2.2 r hr
    simpa [h5] using this
  · simp only [c, false_and, if_false]
    exact hh
theorem readOne_s (hI : BI nb B) (hQQ : QQ nq Q) (hB : ZB (m 1) nb B) (hQ : ZQ (m 1) nq Q) (hH : ZH (m 1) pl tu) (hb : b < nb) (hu : urd B b = true) : ∃ m', f_X6_readOne m (nI b) = some (0, m') ∧ SX m m' ∧ ZB (m' 1) nb (rdB B b) ∧ ZQ (m' 1) nq (stl nb (rdB B b) nq Q) ∧ ZH (m' 1) pl tu := by
  have hn := hI.1
  have e1 := of_s (k := 4) hB (b := b) (by omega) (by decide)
  have e2 := put_s (m := m) (b := b) (k := 4) (v := nI (B b 4 + 1)) (by omega) (by decide)
  unfold f_X6_readOne
  simp (disch := omega) only [ile_t, ile_f, ilt_t, ilt_f, ieq_t, ieq_f, gd_nI, gn_nI, gz_nI, b1_some, bd_some, lt1_eq, nI_add, nI_mul, nI_clamp, if_true, if_false, e1, e2]
  obtain ⟨m', p1, p2, p3⟩ := settle_s (m := up m 1 (4 + 21 * b + 4) (nI (B b 4 + 1))) (BI_rdB hI hu) hQQ (hB.put (by decide)) (hQ.putB (by omega) (by decide)) (hH.put (k := 4 + 21 * b + 4) (by omega))
  simp only [p1, bd_some]
  exact ⟨m', rfl, SX.up1.tr p2, p3⟩
theorem readNext_s (hI : BI nb B) (hQQ : QQ nq Q) (hpl : pl ≤ 2) (ht : tu < 8) (hB : ZB (m 1) nb B) (hQ : ZQ (m 1) nq Q) (hH : ZH (m 1) pl tu) (hx : nx pl tu nb B nq Q = some b) : ∃ m', f_X6_readNext m = some (0, m') ∧ SX m m' ∧ ZB (m' 1) nb (rdB B b) ∧ ZQ (m' 1) nq (stl nb (rdB B b) nq Q) ∧ ZH (m' 1) pl (if pl = 0 then (b + 1) % nb else tu) := by
  have hn := hI.1
  obtain ⟨hb, hu⟩ := nx_some hx
  obtain ⟨m1, g1, g2⟩ := nextBlock_s hI hQQ hpl ht hB hQ hH
  have hB1 : ZB (m1 1) nb B := by rw [g2.2]; exact hB
  have hQ1 : ZQ (m1 1) nq Q := by rw [g2.2]; exact hQ
  have hH1 : ZH (m1 1) pl tu := by rw [g2.2]; exact hH
  rw [hx] at g1
  have g1 : f_X6_nextBlock m = some (nI b, m1) := g1
  unfold f_X6_readNext
  by_cases c : pl = 0
  · subst c
    simp (disch := omega) only [ile_t, ile_f, ilt_t, ilt_f, ieq_t, ieq_f, gd_nI, gn_nI, gz_nI, b1_some, bd_some, lt1_eq, nI_add, nI_mul, nI_clamp, if_true, if_false, g1, hH1.1, hB1.1, nI_mod]
    obtain ⟨m', p1, p2, p3⟩ := readOne_s (m := up m1 1 3 (nI ((b + 1) % nb))) (pl := 0) (tu := (b + 1) % nb) hI hQQ (by refine ⟨by rw [up_o (Or.inr (by decide))]; exact hB1.1, fun b' k' h1 h2 => by rw [up_o (Or.inr (by omega))]; exact hB1.2 b' k' h1 h2⟩) (by refine ⟨by rw [up_o (Or.inr (by decide))]; exact hQ1.1, fun b' k' h1 h2 => by rw [up_o (Or.inr (by omega))]; exact hQ1.2 b' k' h1 h2⟩) ⟨by rw [up_o (Or.inr (by decide))]; exact hH1.1, by rw [up_same]⟩ hb hu
    simp only [p1, bd_some]
    exact ⟨m', rfl, (g2.1.tr SX.up1).tr p2, p3⟩
  · obtain ⟨m', p1, p2, p3⟩ := readOne_s hI hQQ hB1 hQ1 hH1 hb hu
    simp (disch := omega) only [ile_t, ile_f, ilt_t, ilt_f, ieq_t, ieq_f, gd_nI, gn_nI, gz_nI, b1_some, bd_some, lt1_eq, nI_add, nI_mul, nI_clamp, if_true, if_false, g1, hH1.1, p1, c]
    exact ⟨m', rfl, g2.1.tr p2, p3⟩
theorem ua_split (hI : BI nb B) : ∀ n : Nat, n ≤ nb → sumTo (fun b => B b 3) n = sumTo (fun b => B b 4) n + sumTo (fun b => B b 3 - B b 4) n
  | 0, _ => rfl
  | n + 1, hn => by
    have e := ua_split hI n (by omega)
    have hb := hI.2 n (by omega)
    show sumTo (fun b => B b 3) n + B n 3 = (sumTo (fun b => B b 4) n + B n 4) + (sumTo (fun b => B b 3 - B b 4) n + (B n 3 - B n 4))
    omega
theorem s3_le (hI : BI nb B) : sumTo (fun b => B b 3) nb ≤ 128 := by
  have h8 := hI.1
  have := sumTo_le (f := fun b => B b 3) (c := 16) nb (fun i hi => (hI.2 i hi).2.2.2.2.1)
  omega
theorem unreadAll_s (hI : BI nb B) (hB : ZB (m 1) nb B) : f_X6_unreadAll m = some (nI (ua nb B)) := by
  have e1 := allOf_s (k := 3) hB hI.1 (by decide)
  have e2 := allOf_s (k := 4) hB hI.1 (by decide)
  have e3 := ua_split hI nb (Nat.le_refl _)
  have e4 := s3_le hI
  unfold f_X6_unreadAll
  simp only [e1, e2, b1_some]
  rw [nI_sub (by omega), e3]
  unfold ua
  congr 2
  omega
theorem ua_rdB (hb : b < nb) (hu : urd B b = true) : ua nb (rdB B b) + 1 = ua nb B := by
  have hu : B b 4 < B b 3 := of_decide_eq_true hu
  have key : ∀ n : Nat, sumTo (fun x => rdB B b x 3 - rdB B b x 4) n + (if b < n then 1 else 0) = sumTo (fun x => B x 3 - B x 4) n := by
    intro n
    induction n with
    | zero => rfl
    | succ n ih =>
      show (sumTo _ n + (rdB B b n 3 - rdB B b n 4)) + _ = sumTo _ n + (B n 3 - B n 4)
      by_cases c : n = b
      · subst c
        rw [if_neg (Nat.lt_irrefl n)] at ih
        rw [if_pos (Nat.lt_succ_self n)]
        have h1 : rdB B n n 3 = B n 3 := by unfold rdB upB; simp
        have h2 : rdB B n n 4 = B n 4 + 1 := by unfold rdB upB; simp
        rw [h1, h2]
        omega
      · have h1 : rdB B b n 3 = B n 3 := by unfold rdB upB; simp
        have h2 : rdB B b n 4 = B n 4 := by unfold rdB upB; simp [c]
        rw [h1, h2]
        by_cases d : b < n
        · rw [if_pos d] at ih
          rw [if_pos (by omega)]
          omega
        · rw [if_neg d] at ih
          rw [if_neg (by omega)]
          omega
  have := key nb
  rw [if_pos hb] at this
  exact this
theorem ua_0 (h : ua nb B = 0) : ∀ i, i < nb → urd B i = false := by
  intro i hi
  have h1 := sumTo_zero nb h i hi
  unfold urd
  simp
  have h1 : B i 3 - B i 4 = 0 := h1
  omega
theorem ua_0' (hI : BI nb B) (h : ∀ i, i < nb → urd B i = false) : ua nb B = 0 := by
  have : ∀ n : Nat, n ≤ nb → sumTo (fun b => B b 3 - B b 4) n = 0 := by
    intro n
    induction n with
    | zero => intro _; rfl
    | succ n ih =>
      intro hn
      have h1 := h n (by omega)
      unfold urd at h1
      simp at h1
      show sumTo _ n + (B n 3 - B n 4) = 0
      rw [ih (by omega)]
      omega
  exact this nb (Nat.le_refl _)
theorem nx_ex (hI : BI nb B) (h : ua nb B ≠ 0) : ∃ b, nx pl tu nb B nq Q = some b := by
  cases e : nx pl tu nb B nq Q with
  | some b => exact ⟨b, rfl⟩
  | none => exact absurd (ua_0' hI (nx_none e)) h
end MD
/-! runs of reads -/
abbrev T3 : Type := Nat × BK × BK
def stp (pl nb nq : Nat) (T : T3) : T3 := match nx pl T.1 nb T.2.1 nq T.2.2 with
  | none => T
  | some b => (if pl = 0 then (b + 1) % nb else T.1, rdB T.2.1 b, stl nb (rdB T.2.1 b) nq T.2.2)
/-- reads until the questions are so, or all is read, or n rows are read: how many, and what is then -/
def run (pl nb nq : Nat) (P : BK → Bool) : Nat → T3 → Nat × T3
  | 0, T => (0, T)
  | n + 1, T => if P T.2.2 = true ∨ ua nb T.2.1 = 0 then (0, T) else ((run pl nb nq P n (stp pl nb nq T)).1 + 1, (run pl nb nq P n (stp pl nb nq T)).2)
/-- a reading state is as it may be -/
def TI (nb nq : Nat) (T : T3) : Prop := T.1 < 8 ∧ BI nb T.2.1 ∧ QQ nq T.2.2
theorem TI_stp {pl nb nq : Nat} {T : T3} (h : TI nb nq T) : TI nb nq (stp pl nb nq T) := by
  unfold stp
  cases e : nx pl T.1 nb T.2.1 nq T.2.2 with
  | none => exact h
  | some b =>
    obtain ⟨h1, h2⟩ := nx_some e
    have h8 := h.2.1.1
    refine ⟨?_, BI_rdB h.2.1 h2, QQ_stl h.2.2⟩
    show (if pl = 0 then (b + 1) % nb else T.1) < 8
    split
    · have := Nat.mod_lt (b + 1) (show nb > 0 by omega)
      omega
    · exact h.1
theorem TI_run {pl nb nq : Nat} {P : BK → Bool} : ∀ (n : Nat) (T : T3), TI nb nq T → TI nb nq (run pl nb nq P n T).2
  | 0, T, h => h
  | n + 1, T, h => by
    unfold run
    by_cases c : P T.2.2 = true ∨ ua nb T.2.1 = 0
    · rw [if_pos c]; exact h
    · rw [if_neg c]; exact TI_run n _ (TI_stp h)
theorem ua_stp {pl nb nq : Nat} {T : T3} (h : TI nb nq T) (hu : ua nb T.2.1 ≠ 0) : ua nb (stp pl nb nq T).2.1 + 1 = ua nb T.2.1 := by
  obtain ⟨b, e⟩ := nx_ex (pl := pl) (tu := T.1) (nq := nq) (Q := T.2.2) h.2.1 hu
  obtain ⟨h1, h2⟩ := nx_some e
  unfold stp
  rw [e]
  exact ua_rdB h1 h2
theorem run_le {pl nb nq : Nat} {P : BK → Bool} : ∀ (n : Nat) (T : T3), (run pl nb nq P n T).1 ≤ n
  | 0, T => Nat.le_refl _
  | n + 1, T => by
    unfold run
    by_cases c : P T.2.2 = true ∨ ua nb T.2.1 = 0
    · rw [if_pos c]; exact Nat.zero_le _
    · rw [if_neg c]; have := run_le (pl := pl) (nb := nb) (nq := nq) (P := P) n (stp pl nb nq T); show _ + 1 ≤ _; omega
/-- more than all there are changes nothing -/
theorem run_fuel {pl nb nq : Nat} {P : BK → Bool} : ∀ (n k : Nat) (T : T3), TI nb nq T → ua nb T.2.1 ≤ n → ua nb T.2.1 ≤ k → run pl nb nq P n T = run pl nb nq P k T
  | 0, 0, T, _, _, _ => rfl
  | 0, k + 1, T, h, h1, h2 => by
    unfold run
    rw [if_pos (Or.inr (by omega))]
  | n + 1, 0, T, h, h1, h2 => by
    unfold run
    rw [if_pos (Or.inr (by omega))]
  | n + 1, k + 1, T, h, h1, h2 => by
    unfold run
    by_cases c : P T.2.2 = true ∨ ua nb T.2.1 = 0
    · rw [if_pos c, if_pos c]
    · rw [if_neg c, if_neg c]
      have hu : ua nb T.2.1 ≠ 0 := fun z => c (Or.inr z)
      have := ua_stp (pl := pl) h hu
      rw [run_fuel n k _ (TI_stp h) (by omega) (by omega)]

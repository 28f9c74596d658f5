/-! THE REFERENCE: which block is next, reading -/
def ffi (P : Nat → Bool) : Nat → Nat → Option Nat
  | 0, _ => none
  | n + 1, i => if P i = true then some i else ffi P n (i + 1)
def urd (B : BK) (b : Nat) : Bool := decide (B b 4 < B b 3)
def bt (nb tu : Nat) (B : BK) : Option Nat := (ffi (fun k => urd B ((tu + k) % nb)) nb 0).map (fun k => (tu + k) % nb)
def mp (pl nb : Nat) (B : BK) (nq : Nat) (Q : BK) : Nat → Option (Nat × Nat)
  | 0 => none
  | n + 1 => if urd B n = true then (match mp pl nb B nq Q n with
      | none => some (n, wo pl nb B nq Q n)
      | some x => if x.2 < wo pl nb B nq Q n then some (n, wo pl nb B nq Q n) else some x) else mp pl nb B nq Q n
def nx (pl tu nb : Nat) (B : BK) (nq : Nat) (Q : BK) : Option Nat := if pl = 0 then bt nb tu B else (mp pl nb B nq Q nb).map (fun x => x.1)
def nxI (o : Option Nat) : Int32 := match o with
  | none => -5
  | some b => nI b
def mpI (o : Option (Nat × Nat)) : Int32 := match o with
  | none => -5
  | some x => nI x.1
def mpW (o : Option (Nat × Nat)) : Int32 := match o with
  | none => nI 0
  | some x => nI x.2
/-- a row of b read -/
def rdB (B : BK) (b : Nat) : BK := upB B b 4 (B b 4 + 1)
/-- how many rows are not read -/
def ua (nb : Nat) (B : BK) : Nat := sumTo (fun b => B b 3 - B b 4) nb
section MD
variable {m : SM} {nb nq pl tu b q k how ls n : Nat} {B Q : BK}
theorem nI_mod {a b : Nat} (ha : a < 2 ^ 31) (hb : b < 2 ^ 31) : nI a - nI a / nI b * nI b = nI (a % b) := by
  have h1 : a / b * b ≤ a := Nat.div_mul_le_self a b
  rw [nI_div ha hb, nI_mul, nI_sub h1]
  congr 1
  have h2 := Nat.div_add_mod a b
  rw [Nat.mul_comm] at h2
  omega
theorem nI_ne5 {a : Nat} (ha : a < 2 ^ 31) : ¬ nI a = -5 := by
  intro h
  have h1 := congrArg Int32.toInt h
  rw [nI_toInt ha] at h1
  have h2 : (-5 : Int32).toInt = -5 := rfl
  omega
theorem i5_f {α : Type} {a : Nat} {x y : α} (ha : a < 2 ^ 31) : (if nI a = -5 then x else y) = y := if_neg (nI_ne5 ha)
theorem i5_t {α : Type} {x y : α} : (if (-5 : Int32) = -5 then x else y) = x := if_pos rfl
theorem mp_lt : ∀ n : Nat, ∀ x, mp pl nb B nq Q n = some x → x.1 < n ∧ urd B x.1 = true ∧ x.2 = wo pl nb B nq Q x.1
  | 0, x, h => by cases h
  | n + 1, x, h => by
    unfold mp at h
    by_cases c : urd B n = true
    · rw [if_pos c] at h
      cases e : mp pl nb B nq Q n with
      | none =>
        rw [e] at h
        cases h
        exact ⟨Nat.lt_succ_self n, c, rfl⟩
      | some y =>
        rw [e] at h
        obtain ⟨h1, h2, h3⟩ := mp_lt n y e
        by_cases d : y.2 < wo pl nb B nq Q n
        · simp only [d, if_true] at h
          cases h
          exact ⟨Nat.lt_succ_self n, c, rfl⟩
        · simp only [d, if_false] at h
          cases h
          exact ⟨Nat.lt_succ_of_lt h1, h2, h3⟩
    · rw [if_neg c] at h
      obtain ⟨h1, h2, h3⟩ := mp_lt n x h
      exact ⟨Nat.lt_succ_of_lt h1, h2, h3⟩
theorem mp_none : ∀ n : Nat, mp pl nb B nq Q n = none → ∀ i, i < n → urd B i = false
  | 0, _, i, hi => by omega
  | n + 1, h, i, hi => by
    unfold mp at h
    by_cases c : urd B n = true
    · rw [if_pos c] at h
      cases e : mp pl nb B nq Q n with
      | none => rw [e] at h; cases h
      | some y =>
        rw [e] at h
        by_cases d : y.2 < wo pl nb B nq Q n
        · simp only [d, if_true] at h
          cases h
        · simp only [d, if_false] at h
          cases h
    · rw [if_neg c] at h
      by_cases hn : i = n
      · subst hn
        cases hu : urd B i with
        | true => exact absurd hu c
        | false => rfl
      · exact mp_none n h i (by omega)
theorem ffi_some {P : Nat → Bool} : ∀ n i k : Nat, ffi P n i = some k → i ≤ k ∧ k < i + n ∧ P k = true
  | 0, i, k, h => by cases h
  | n + 1, i, k, h => by
    unfold ffi at h
    by_cases c : P i = true
    · rw [if_pos c] at h
      cases h
      exact ⟨Nat.le_refl _, by omega, c⟩
    · rw [if_neg c] at h
      obtain ⟨h1, h2, h3⟩ := ffi_some n (i + 1) k h
      exact ⟨by omega, by omega, h3⟩
theorem ffi_none {P : Nat → Bool} : ∀ n i : Nat, ffi P n i = none → ∀ k, i ≤ k → k < i + n → P k = false
  | 0, i, h, k, h1, h2 => by omega
  | n + 1, i, h, k, h1, h2 => by
    unfold ffi at h
    by_cases c : P i = true
    · rw [if_pos c] at h; cases h
    · rw [if_neg c] at h
      by_cases hk : k = i
      · subst hk
        cases hu : P k with
        | true => exact absurd hu c
        | false => rfl
      · exact ffi_none n (i + 1) h k (by omega) (by omega)
theorem nx_some (h : nx pl tu nb B nq Q = some b) : b < nb ∧ urd B b = true := by
  unfold nx at h
  by_cases c : pl = 0
  · rw [if_pos c] at h
    unfold bt at h
    cases e : ffi (fun k => urd B ((tu + k) % nb)) nb 0 with
    | none => rw [e] at h; cases h
    | some k =>
      rw [e] at h
      cases h
      obtain ⟨h1, h2, h3⟩ := ffi_some _ _ _ e
      exact ⟨Nat.mod_lt _ (by omega), h3⟩
  · rw [if_neg c] at h
    cases e : mp pl nb B nq Q nb with
    | none => rw [e] at h; cases h
    | some x =>
      rw [e] at h
      cases h
      obtain ⟨h1, h2, h3⟩ := mp_lt _ _ e
      exact ⟨h1, h2⟩
theorem nx_none (h : nx pl tu nb B nq Q = none) : ∀ i, i < nb → urd B i = false := by
  intro i hi
  unfold nx at h
  by_cases c : pl = 0
  · rw [if_pos c] at h
    unfold bt at h
    cases e : ffi (fun k => urd B ((tu + k) % nb)) nb 0 with
    | none =>
      have h1 := ffi_none _ _ e ((i + nb - tu % nb) % nb) (Nat.zero_le _) (by have := Nat.mod_lt (i + nb - tu % nb) (show nb > 0 by omega); omega)
      have h2 : (tu + (i + nb - tu % nb) % nb) % nb = i := by
        have hlt := Nat.mod_lt tu (show nb > 0 by omega)
        rw [Nat.add_mod_mod, ← Nat.mod_add_mod, show tu % nb + (i + nb - tu % nb) = i + nb by omega, Nat.add_mod_right, Nat.mod_eq_of_lt hi]
      rw [h2] at h1
      exact h1
    | some k => rw [e] at h; cases h
  · rw [if_neg c] at h
    cases e : mp pl nb B nq Q nb with
    | none => exact mp_none _ e i hi
    | some x => rw [e] at h; cases h
theorem BI_rdB (h : BI nb B) (hu : urd B b = true) : BI nb (rdB B b) := by
  have hu : B b 4 < B b 3 := of_decide_eq_true hu
  refine ⟨h.1, fun b' hb' => ?_⟩
  have hh := h.2 b' hb'
  unfold rdB upB
  by_cases c : b' = b
  · subst c
    simp only [true_and]
    refine ⟨by simpa using hh.1, by simpa using hh.2.1, by simpa using hh.2.2.1, by simpa using hh.2.2.2.1, by simpa using hh.2.2.2.2.1, by simp; omega, fun r hr => ?_⟩
    have h5 : ¬ 5 + r = 4 := by omega
    have hr : r < B b' 3 := by simpa using hr
    have := hh.2.2.2.2.2.2 r hr
    simpa [h5] using this
  · simp only [c, false_and, if_false]
    exact hh
theorem ua_split (hI : BI nb B) : ∀ n : Nat, n ≤ nb → sumTo (fun b => B b 3) n = sumTo (fun b => B b 4) n + sumTo (fun b => B b 3 - B b 4) n
  | 0, _ => rfl
  | n + 1, hn => by
    have e := ua_split hI n (by omega)
    have hb := hI.2 n (by omega)
    show sumTo (fun b => B b 3) n + B n 3 = (sumTo (fun b => B b 4) n + B n 4) + (sumTo (fun b => B b 3 - B b 4) n + (B n 3 - B n 4))
    omega
theorem s3_le (hI : BI nb B) : sumTo (fun b => B b 3) nb ≤ 128 := by
  have h8 := hI.1
  have := sumTo_le (f := fun b => B b 3) (c := 16) nb (fun i hi => (hI.2 i hi).2.2.2.2.1)
  omega
theorem ua_rdB (hb : b < nb) (hu : urd B b = true) : ua nb (rdB B b) + 1 = ua nb B := by
  have hu : B b 4 < B b 3 := of_decide_eq_true hu
  have key : ∀ n : Nat, sumTo (fun x => rdB B b x 3 - rdB B b x 4) n + (if b < n then 1 else 0) = sumTo (fun x => B x 3 - B x 4) n := by
    intro n
    induction n with
    | zero => rfl
    | succ n ih =>
      show (sumTo _ n + (rdB B b n 3 - rdB B b n 4)) + _ = sumTo _ n + (B n 3 - B n 4)
      by_cases c : n = b
      · subst c
        rw [if_neg (Nat.lt_irrefl n)] at ih
        rw [if_pos (Nat.lt_succ_self n)]
        have h1 : rdB B n n 3 = B n 3 := by unfold rdB upB; simp
        have h2 : rdB B n n 4 = B n 4 + 1 := by unfold rdB upB; simp
        rw [h1, h2]
        omega
      · have h1 : rdB B b n 3 = B n 3 := by unfold rdB upB; simp
        have h2 : rdB B b n 4 = B n 4 := by unfold rdB upB; simp [c]
        rw [h1, h2]
        by_cases d : b < n
        · rw [if_pos d] at ih
          rw [if_pos (by omega)]
          omega
        · rw [if_neg d] at ih
          rw [if_neg (by omega)]
          omega
  have := key nb
  rw [if_pos hb] at this
  exact this
theorem ua_0 (h : ua nb B = 0) : ∀ i, i < nb → urd B i = false := by
  intro i hi
  have h1 := sumTo_zero nb h i hi
  unfold urd
  simp
  have h1 : B i 3 - B i 4 = 0 := h1
  omega
theorem ua_0' (hI : BI nb B) (h : ∀ i, i < nb → urd B i = false) : ua nb B = 0 := by
  have : ∀ n : Nat, n ≤ nb → sumTo (fun b => B b 3 - B b 4) n = 0 := by
    intro n
    induction n with
    | zero => intro _; rfl
    | succ n ih =>
      intro hn
      have h1 := h n (by omega)
      unfold urd at h1
      simp at h1
      show sumTo _ n + (B n 3 - B n 4) = 0
      rw [ih (by omega)]
      omega
  exact this nb (Nat.le_refl _)
theorem nx_ex (hI : BI nb B) (h : ua nb B ≠ 0) : ∃ b, nx pl tu nb B nq Q = some b := by
  cases e : nx pl tu nb B nq Q with
  | some b => exact ⟨b, rfl⟩
  | none => exact absurd (ua_0' hI (nx_none e)) h
end MD
/-! runs of reads -/
abbrev T3 : Type := Nat × BK × BK
def stp (pl nb nq : Nat) (T : T3) : T3 := match nx pl T.1 nb T.2.1 nq T.2.2 with
  | none => T
  | some b => (if pl = 0 then (b + 1) % nb else T.1, rdB T.2.1 b, stl nb (rdB T.2.1 b) nq T.2.2)
/-- reads until the questions are so, or all is read, or n rows are read: how many, and what is then -/
def run (pl nb nq : Nat) (P : BK → Bool) : Nat → T3 → Nat × T3
  | 0, T => (0, T)
  | n + 1, T => if P T.2.2 = true ∨ ua nb T.2.1 = 0 then (0, T) else ((run pl nb nq P n (stp pl nb nq T)).1 + 1, (run pl nb nq P n (stp pl nb nq T)).2)
/-- a reading state is as it may be -/
def TI (nb nq : Nat) (T : T3) : Prop := T.1 < 8 ∧ BI nb T.2.1 ∧ QQ nq T.2.2
theorem TI_stp {pl nb nq : Nat} {T : T3} (h : TI nb nq T) : TI nb nq (stp pl nb nq T) := by
  unfold stp
  cases e : nx pl T.1 nb T.2.1 nq T.2.2 with
  | none => exact h
  | some b =>
    obtain ⟨h1, h2⟩ := nx_some e
    have h8 := h.2.1.1
    refine ⟨?_, BI_rdB h.2.1 h2, QQ_stl h.2.2⟩
    show (if pl = 0 then (b + 1) % nb else T.1) < 8
    split
    · have := Nat.mod_lt (b + 1) (show nb > 0 by omega)
      omega
    · exact h.1
theorem TI_run {pl nb nq : Nat} {P : BK → Bool} : ∀ (n : Nat) (T : T3), TI nb nq T → TI nb nq (run pl nb nq P n T).2
  | 0, T, h => h
  | n + 1, T, h => by
    unfold run
    by_cases c : P T.2.2 = true ∨ ua nb T.2.1 = 0
    · rw [if_pos c]; exact h
    · rw [if_neg c]; exact TI_run n _ (TI_stp h)
theorem ua_stp {pl nb nq : Nat} {T : T3} (h : TI nb nq T) (hu : ua nb T.2.1 ≠ 0) : ua nb (stp pl nb nq T).2.1 + 1 = ua nb T.2.1 := by
  obtain ⟨b, e⟩ := nx_ex (pl := pl) (tu := T.1) (nq := nq) (Q := T.2.2) h.2.1 hu
  obtain ⟨h1, h2⟩ := nx_some e
  unfold stp
  rw [e]
  exact ua_rdB h1 h2
theorem run_le {pl nb nq : Nat} {P : BK → Bool} : ∀ (n : Nat) (T : T3), (run pl nb nq P n T).1 ≤ n
  | 0, T => Nat.le_refl _
  | n + 1, T => by
    unfold run
    by_cases c : P T.2.2 = true ∨ ua nb T.2.1 = 0
    · rw [if_pos c]; exact Nat.zero_le _
    · rw [if_neg c]; have := run_le (pl := pl) (nb := nb) (nq := nq) (P := P) n (stp pl nb nq T); show _ + 1 ≤ _; omega
/-- more than all there are changes nothing -/
theorem run_fuel {pl nb nq : Nat} {P : BK → Bool} : ∀ (n k : Nat) (T : T3), TI nb nq T → ua nb T.2.1 ≤ n → ua nb T.2.1 ≤ k → run pl nb nq P n T = run pl nb nq P k T
  | 0, 0, T, _, _, _ => rfl
  | 0, k + 1, T, h, h1, h2 => by
    unfold run
    rw [if_pos (Or.inr (by omega))]
  | n + 1, 0, T, h, h1, h2 => by
    unfold run
    rw [if_pos (Or.inr (by omega))]
  | n + 1, k + 1, T, h, h1, h2 => by
    unfold run
    by_cases c : P T.2.2 = true ∨ ua nb T.2.1 = 0
    · rw [if_pos c, if_pos c]
    · rw [if_neg c, if_neg c]
      have hu : ua nb T.2.1 ≠ 0 := fun z => c (Or.inr z)
      have := ua_stp (pl := pl) h hu
      rw [run_fuel n k _ (TI_stp h) (by omega) (by omega)]

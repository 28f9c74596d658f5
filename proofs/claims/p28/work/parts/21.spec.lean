/-! WHAT A STATE IS: nb blocks (B b: 0 layer, 1 bottom, 2 top, 3 rows, 4 read, 5.. values), nq questions (Q q: 0 kind, 1 layers, 2 limit, 3 tolerance, 4 stopped, 5.. kept) -/
abbrev BK : Type := Nat → Nat → Nat
def sRd (B : BK) (b : Nat) : Nat := sumTo (fun r => B b (5 + r)) (B b 4)
def mRd (B : BK) (b : Nat) : Nat := minB 999 (fun r => B b (5 + r)) (B b 4)
def gRd (B : BK) (b : Nat) : Nat := maxB 0 (fun r => B b (5 + r)) (B b 4)
def cRd (B : BK) (b lim : Nat) : Nat := sumTo (fun r => if lim ≤ B b (5 + r) then 1 else 0) (B b 4)
def lS (nb : Nat) (B : BK) (l : Nat) : Nat := sumTo (fun b => if B b 0 = l then sRd B b else 0) nb
def lM (nb : Nat) (B : BK) (l : Nat) : Nat := sumTo (fun b => if B b 0 = l then B b 4 else 0) nb
def tk (nb : Nat) (B : BK) (b how : Nat) : Nat := if how = 0 then B b 1 else if how = 1 then B b 2 else if lM nb B (B b 0) = 0 then (B b 1 + B b 2) / 2 else max (B b 1) (min (B b 2) (lS nb B (B b 0) / lM nb B (B b 0)))
def vl (nb : Nat) (B : BK) (b how r : Nat) : Nat := if r < B b 4 then B b (5 + r) else tk nb B b how
def rQ (nb : Nat) (B : BK) (ls k : Nat) : Nat := sumTo (fun b => if ls.testBit (B b 0) then B b k else 0) nb
def aS (nb : Nat) (B : BK) (ls how n : Nat) : Nat := sumTo (fun b => if ls.testBit (B b 0) then sumTo (vl nb B b how) (B b 3) else 0) n
def aC (nb : Nat) (B : BK) (ls lim how n : Nat) : Nat := sumTo (fun b => if ls.testBit (B b 0) then sumTo (fun r => if lim ≤ vl nb B b how r then 1 else 0) (B b 3) else 0) n
def aL (nb : Nat) (B : BK) (ls how : Nat) : Nat → Nat
  | 0 => 1000
  | n + 1 => if ls.testBit (B n 0) then minB (aL nb B ls how n) (vl nb B n how) (B n 3) else aL nb B ls how n
def aG (nb : Nat) (B : BK) (ls how : Nat) : Nat → Nat
  | 0 => 0
  | n + 1 => if ls.testBit (B n 0) then maxB (aG nb B ls how n) (fun r => vl nb B n how r + 1) (B n 3) else aG nb B ls how n
def ans (nb : Nat) (B : BK) (qr : Nat → Nat) (how : Nat) : Nat :=
  if qr 0 = 0 then aS nb B (qr 1) how nb
  else if qr 0 = 1 then aC nb B (qr 1) (qr 2) how nb
  else if qr 0 = 2 then aL nb B (qr 1) how nb
  else if qr 0 = 3 then aG nb B (qr 1) how nb - 1
  else 100 * aS nb B (qr 1) how nb / rQ nb B (qr 1) 3
/-- does it stop by its tolerance -/
def stB (nb : Nat) (B : BK) (qr : Nat → Nat) : Bool := decide (qr 4 = 0) && (decide (rQ nb B (qr 1) 3 ≠ 0) && decide (nI (ans nb B qr 1) - nI (ans nb B qr 0) ≤ nI (qr 3)))
def setq (nb : Nat) (B : BK) (qr : Nat → Nat) : Nat → Nat := fun j => if j = 4 then 1 else if j = 5 then ans nb B qr 0 else if j = 6 then ans nb B qr 1 else if j = 7 then ans nb B qr 2 else qr j
/-- the questions behind a settling of the first i ones -/
def stl (nb : Nat) (B : BK) (i : Nat) (Q : BK) : BK := fun q => if q < i ∧ stB nb B (Q q) = true then setq nb B (Q q) else Q q
/-- the blocks are as they may be -/
def BI (nb : Nat) (B : BK) : Prop := nb ≤ 8 ∧ ∀ b, b < nb → B b 0 < 4 ∧ B b 1 ≤ B b 2 ∧ B b 2 ≤ 999 ∧ 1 ≤ B b 3 ∧ B b 3 ≤ 16 ∧ B b 4 ≤ B b 3 ∧ ∀ r, r < B b 3 → B b 1 ≤ B b (5 + r) ∧ B b (5 + r) ≤ B b 2
def QQ (nq : Nat) (Q : BK) : Prop := nq ≤ 6 ∧ ∀ q, q < nq → Q q 0 ≤ 4 ∧ 1 ≤ Q q 1 ∧ Q q 1 ≤ 15 ∧ Q q 2 ≤ 999 ∧ Q q 3 ≤ 99999 ∧ Q q 4 ≤ 1
/-- no open question is sure enough -/
def SD (nb : Nat) (B : BK) (nq : Nat) (Q : BK) : Prop := ∀ q, q < nq → stB nb B (Q q) = false
section SP
variable {nb nq b how r ls lim n : Nat} {B Q : BK} {qr : Nat → Nat}
theorem tk_le (h : BI nb B) (hb : b < nb) : tk nb B b how ≤ 999 := by
  obtain ⟨-, h⟩ := h
  obtain ⟨h0, h1, h2, -⟩ := h b hb
  unfold tk
  by_cases c1 : how = 0
  · rw [if_pos c1]; omega
  · rw [if_neg c1]
    by_cases c2 : how = 1
    · rw [if_pos c2]; omega
    · rw [if_neg c2]
      by_cases c3 : lM nb B (B b 0) = 0
      · rw [if_pos c3]; omega
      · rw [if_neg c3]; omega
theorem vl_le (h : BI nb B) (hb : b < nb) (hr : r < B b 3) : vl nb B b how r ≤ 999 := by
  unfold vl
  by_cases c : r < B b 4
  · rw [if_pos c]
    obtain ⟨-, h⟩ := h
    obtain ⟨h0, h1, h2, h3, h4, h5, h6⟩ := h b hb
    have := h6 r hr
    omega
  · rw [if_neg c]
    exact tk_le h hb
theorem sRd_le (h : BI nb B) (hb : b < nb) : sRd B b ≤ 15984 := by
  obtain ⟨-, h⟩ := h
  obtain ⟨h0, h1, h2, h3, h4, h5, h6⟩ := h b hb
  have := sumTo_le (f := fun r => B b (5 + r)) (c := 999) (B b 4) (fun i hi => by have := h6 i (by omega); show B b (5 + i) ≤ 999; omega)
  unfold sRd
  omega
theorem cRd_le (h : BI nb B) (hb : b < nb) : cRd B b lim ≤ 16 := by
  obtain ⟨-, h⟩ := h
  obtain ⟨h0, h1, h2, h3, h4, h5, h6⟩ := h b hb
  have := sumTo_le (f := fun r => if lim ≤ B b (5 + r) then 1 else 0) (c := 1) (B b 4) (fun i hi => by show (if _ then 1 else 0) ≤ 1; split <;> omega)
  unfold cRd
  omega
theorem mRd_le : mRd B b ≤ 999 := (minB_le _).1
theorem gRd_le (h : BI nb B) (hb : b < nb) : gRd B b ≤ 999 := by
  obtain ⟨-, h⟩ := h
  obtain ⟨h0, h1, h2, h3, h4, h5, h6⟩ := h b hb
  exact maxB_bound (by omega) _ (fun i hi => by have := h6 i (by omega); show B b (5 + i) ≤ 999; omega)
theorem lS_le {l : Nat} (h : BI nb B) (hn : n ≤ nb) : sumTo (fun b => if B b 0 = l then sRd B b else 0) n ≤ 127872 := by
  have h8 := h.1
  have := sumTo_le (f := fun b => if B b 0 = l then sRd B b else 0) (c := 15984) n (fun i hi => by
    show (if _ then _ else 0) ≤ 15984
    split
    · exact sRd_le h (by omega)
    · omega)
  omega
theorem lM_le {l : Nat} (h : BI nb B) (hn : n ≤ nb) : sumTo (fun b => if B b 0 = l then B b 4 else 0) n ≤ 128 := by
  have h8 := h.1
  have := sumTo_le (f := fun b => if B b 0 = l then B b 4 else 0) (c := 16) n (fun i hi => by
    have := h.2 i (by omega)
    show (if _ then _ else 0) ≤ 16
    split <;> omega)
  omega
theorem rQ_le {k : Nat} (h : BI nb B) (hk : k = 3 ∨ k = 4) (hn : n ≤ nb) : sumTo (fun b => if ls.testBit (B b 0) then B b k else 0) n ≤ 128 := by
  have h8 := h.1
  have := sumTo_le (f := fun b => if ls.testBit (B b 0) then B b k else 0) (c := 16) n (fun i hi => by
    have := h.2 i (by omega)
    show (if _ then _ else 0) ≤ 16
    rcases hk with rfl | rfl <;> split <;> omega)
  omega
theorem vS_le (h : BI nb B) (hb : b < nb) (hn : n ≤ B b 3) : sumTo (vl nb B b how) n ≤ 15984 := by
  have h16 := (h.2 b hb).2.2.2.2.1
  have := sumTo_le (f := vl nb B b how) (c := 999) n (fun i hi => vl_le h hb (by omega))
  omega
theorem aS_le (h : BI nb B) (hn : n ≤ nb) : aS nb B ls how n ≤ 127872 := by
  have h8 := h.1
  have := sumTo_le (f := fun b => if ls.testBit (B b 0) then sumTo (vl nb B b how) (B b 3) else 0) (c := 15984) n (fun i hi => by
    show (if _ then _ else 0) ≤ 15984
    split
    · exact vS_le h (by omega) (Nat.le_refl _)
    · omega)
  unfold aS
  omega
theorem aC_le (h : BI nb B) (hn : n ≤ nb) : aC nb B ls lim how n ≤ 128 := by
  have h8 := h.1
  have := sumTo_le (f := fun b => if ls.testBit (B b 0) then sumTo (fun r => if lim ≤ vl nb B b how r then 1 else 0) (B b 3) else 0) (c := 16) n (fun i hi => by
    have h16 := (h.2 i (by omega)).2.2.2.2.1
    have h2 := sumTo_le (f := fun r => if lim ≤ vl nb B i how r then 1 else 0) (c := 1) (B i 3) (fun j hj => by show (if _ then 1 else 0) ≤ 1; split <;> omega)
    show (if _ then _ else 0) ≤ 16
    split <;> omega)
  unfold aC
  omega
theorem aL_le : ∀ n : Nat, aL nb B ls how n ≤ 1000
  | 0 => Nat.le_refl _
  | n + 1 => by
    have h := aL_le n
    unfold aL
    split
    · exact Nat.le_trans (minB_le _).1 h
    · exact h
theorem aG_le (h : BI nb B) : ∀ n : Nat, n ≤ nb → aG nb B ls how n ≤ 1000
  | 0, _ => by unfold aG; omega
  | n + 1, hn => by
    have h1 := aG_le h n (by omega)
    unfold aG
    split
    · exact maxB_bound h1 _ (fun i hi => by have := vl_le (how := how) h (b := n) (by omega) hi; show vl nb B n how i + 1 ≤ 1000; omega)
    · exact h1
theorem ans_le (h : BI nb B) : ans nb B qr how ≤ 12787200 := by
  have h1 := aS_le (ls := qr 1) (how := how) h (Nat.le_refl nb)
  have h2 := aC_le (ls := qr 1) (lim := qr 2) (how := how) h (Nat.le_refl nb)
  have h3 := aL_le (nb := nb) (B := B) (ls := qr 1) (how := how) nb
  have h4 := aG_le (ls := qr 1) (how := how) h nb (Nat.le_refl nb)
  have h5 : 100 * aS nb B (qr 1) how nb / rQ nb B (qr 1) 3 ≤ 100 * aS nb B (qr 1) how nb := Nat.div_le_self _ _
  unfold ans
  repeat' split
  all_goals omega
/-! what a block gives to an answer -/
def sh (nb : Nat) (B : BK) (kind lim b how : Nat) : Nat :=
  if kind = 1 then cRd B b lim + (if lim ≤ tk nb B b how then B b 3 - B b 4 else 0)
  else if kind = 2 then (if B b 4 < B b 3 then min (mRd B b) (tk nb B b how) else mRd B b)
  else if kind = 3 then (if B b 4 < B b 3 then max (gRd B b) (tk nb B b how) else gRd B b)
  else sRd B b + (B b 3 - B b 4) * tk nb B b how
theorem sh_S (h : B b 4 ≤ B b 3) : sumTo (vl nb B b how) (B b 3) = sRd B b + (B b 3 - B b 4) * tk nb B b how :=
  sumTo_split (f := fun r => B b (5 + r)) (fun r => rfl) _ h
theorem sh_C (h : B b 4 ≤ B b 3) : sumTo (fun r => if lim ≤ vl nb B b how r then 1 else 0) (B b 3) = cRd B b lim + (if lim ≤ tk nb B b how then B b 3 - B b 4 else 0) := by
  rw [sumTo_split (f := fun r => if lim ≤ B b (5 + r) then 1 else 0) (a := B b 4) (t := if lim ≤ tk nb B b how then 1 else 0) (fun r => ?_) _ h]
  · unfold cRd
    by_cases c : lim ≤ tk nb B b how
    · rw [if_pos c, if_pos c, Nat.mul_one]
    · rw [if_neg c, if_neg c, Nat.mul_zero]
  · unfold vl
    by_cases c : r < B b 4
    · rw [if_pos c, if_pos c]
    · rw [if_neg c, if_neg c]
theorem sh_L (h : B b 4 ≤ B b 3) : minB 999 (vl nb B b how) (B b 3) = if B b 4 < B b 3 then min (mRd B b) (tk nb B b how) else mRd B b :=
  minB_split (f := fun r => B b (5 + r)) (fun r => rfl) _ h
theorem sh_G (h : B b 4 ≤ B b 3) : maxB 0 (vl nb B b how) (B b 3) = if B b 4 < B b 3 then max (gRd B b) (tk nb B b how) else gRd B b :=
  maxB_split (f := fun r => B b (5 + r)) (fun r => rfl) _ h
theorem sh_le {kind : Nat} (h : BI nb B) (hb : b < nb) : sh nb B kind lim b how ≤ 15984 := by
  have h2 := h.2 b hb
  have e1 := vS_le (how := how) h hb (Nat.le_refl _)
  rw [sh_S (by omega)] at e1
  have e2 := cRd_le (lim := lim) h hb
  have e3 := tk_le (how := how) h hb
  have e4 := mRd_le (B := B) (b := b)
  have e5 := gRd_le h hb
  unfold sh
  repeat' split
  all_goals omega
/-! the class's folds, a block at a time -/
def cS (nb : Nat) (B : BK) (ls kind lim how n : Nat) : Nat := sumTo (fun b => if ls.testBit (B b 0) then sh nb B kind lim b how else 0) n
def cL (nb : Nat) (B : BK) (ls kind lim how : Nat) : Nat → Nat
  | 0 => 999
  | n + 1 => if ls.testBit (B n 0) then min (cL nb B ls kind lim how n) (sh nb B kind lim n how) else cL nb B ls kind lim how n
def cG (nb : Nat) (B : BK) (ls kind lim how : Nat) : Nat → Nat
  | 0 => 0
  | n + 1 => if ls.testBit (B n 0) then max (cG nb B ls kind lim how n) (sh nb B kind lim n how) else cG nb B ls kind lim how n
theorem cS_le {kind : Nat} (h : BI nb B) (hn : n ≤ nb) : cS nb B ls kind lim how n ≤ 127872 := by
  have h8 := h.1
  have := sumTo_le (f := fun b => if ls.testBit (B b 0) then sh nb B kind lim b how else 0) (c := 15984) n (fun i hi => by
    show (if _ then _ else 0) ≤ 15984
    split
    · exact sh_le h (by omega)
    · omega)
  unfold cS
  omega
theorem cL_le {kind : Nat} : ∀ n : Nat, cL nb B ls kind lim how n ≤ 999
  | 0 => Nat.le_refl _
  | n + 1 => by
    have h1 := cL_le (kind := kind) n
    unfold cL
    split <;> omega
theorem cG_le {kind : Nat} (h : BI nb B) : ∀ n : Nat, n ≤ nb → cG nb B ls kind lim how n ≤ 15984
  | 0, _ => by unfold cG; omega
  | n + 1, hn => by
    have h1 := cG_le (kind := kind) h n (by omega)
    have h2 := sh_le (kind := kind) (lim := lim) (how := how) h (b := n) (by omega)
    unfold cG
    split <;> omega
theorem cS_S {kind : Nat} (h : BI nb B) (h1 : kind ≠ 1) (h2 : kind ≠ 2) (h3 : kind ≠ 3) : cS nb B ls kind lim how nb = aS nb B ls how nb := by
  unfold cS aS
  refine sumTo_congr _ (fun i hi => ?_)
  have h4 := h.2 i hi
  rw [sh_S (by omega)]
  unfold sh
  rw [if_neg h1, if_neg h2, if_neg h3]
theorem cS_C (h : BI nb B) : cS nb B ls 1 lim how nb = aC nb B ls lim how nb := by
  unfold cS aC
  refine sumTo_congr _ (fun i hi => ?_)
  have h4 := h.2 i hi
  rw [sh_C (by omega)]
  rfl
theorem cL_L (h : BI nb B) : ∀ n : Nat, n ≤ nb → cL nb B ls 2 lim how n = min 999 (aL nb B ls how n)
  | 0, _ => rfl
  | n + 1, hn => by
    have e := cL_L h n (by omega)
    have h4 := h.2 n (by omega)
    unfold cL aL
    by_cases c : ls.testBit (B n 0) = true
    · rw [if_pos c, if_pos c, e]
      have e2 : sh nb B 2 lim n how = minB 999 (vl nb B n how) (B n 3) := by rw [sh_L (by omega)]; rfl
      rw [e2]
      have p1 : minB (min 999 (aL nb B ls how n)) (vl nb B n how) (B n 3) = min 999 (minB (aL nb B ls how n) (vl nb B n how) (B n 3)) := minB_min _
      have p2 : minB (min (aL nb B ls how n) 999) (vl nb B n how) (B n 3) = min (aL nb B ls how n) (minB 999 (vl nb B n how) (B n 3)) := minB_min _
      rw [Nat.min_comm (aL nb B ls how n) 999] at p2
      have h1 : minB 999 (vl nb B n how) (B n 3) ≤ 999 := (minB_le _).1
      omega
    · rw [if_neg c, if_neg c, e]
theorem aL_999 (h : BI nb B) : ∀ n : Nat, n ≤ nb → sumTo (fun b => if ls.testBit (B b 0) then B b 3 else 0) n ≠ 0 → aL nb B ls how n ≤ 999
  | 0, _, hne => absurd rfl hne
  | n + 1, hn, hne => by
    have h4 := h.2 n (by omega)
    unfold aL
    by_cases c : ls.testBit (B n 0) = true
    · rw [if_pos c]
      have h1 := (minB_le (f := vl nb B n how) (a := aL nb B ls how n) (B n 3)).2 0 (by omega)
      have h2 := vl_le (how := how) h (b := n) (r := 0) (by omega) (by omega)
      omega
    · rw [if_neg c]
      refine aL_999 h n (by omega) (fun q => hne ?_)
      show sumTo _ n + (if _ then _ else 0) = 0
      rw [q, if_neg c]
theorem cL_ans (h : BI nb B) (hr : rQ nb B ls 3 ≠ 0) : cL nb B ls 2 lim how nb = aL nb B ls how nb := by
  have h1 := aL_999 (ls := ls) (how := how) h nb (Nat.le_refl _) hr
  rw [cL_L h nb (Nat.le_refl _)]
  omega
theorem cG_G (h : BI nb B) : ∀ n : Nat, n ≤ nb → cG nb B ls 3 lim how n = aG nb B ls how n - 1
  | 0, _ => rfl
  | n + 1, hn => by
    have e := cG_G h n (by omega)
    have h4 := h.2 n (by omega)
    unfold cG aG
    by_cases c : ls.testBit (B n 0) = true
    · rw [if_pos c, if_pos c, e, maxB_up]
      have e2 : sh nb B 3 lim n how = maxB 0 (vl nb B n how) (B n 3) := by rw [sh_G (by omega)]; rfl
      rw [e2]
    · rw [if_neg c, if_neg c, e]
theorem cov_nI : ∀ a, a < 16 → ∀ l, l < 4 → ((nI a >>> (nI l &&& 31)) &&& nI 1) = if a.testBit l then nI 1 else nI 0 := by decide
end SP

/-! THE LAW'S NUMBERS: what a cell of the script is read as -/
def lo (v : Int32) (n : Nat) : Nat := (v &&& nI 2147483647).toNatClampNeg % n
def hL (h : Int32) : Nat := lo h 4
def hB (h : Int32) : Nat := lo (h >>> (nI 2 &&& 31)) 500
def hT (h : Int32) : Nat := hB h + lo (h >>> (nI 11 &&& 31)) (if lo (h >>> (nI 20 &&& 31)) 4 = 0 then 2 else 400)
def hR (h : Int32) : Nat := 1 + lo (h >>> (nI 21 &&& 31)) 9
def hV (h g : Int32) (r : Nat) : Nat := hB h + lo (g >>> (nI r &&& 31)) (hT h - hB h + 1)
def ce (L : Nat) (xs : Nat → Int32) (k : Nat) : Int32 := if L ≤ k then nI 32452867 * nI k + nI 67867967 else xs k
theorem and_nn (v : Int32) : ¬ (v &&& nI 2147483647) < 0 := by
  intro h
  rw [Int32.lt_iff_toInt_lt] at h
  have h0 : (0 : Int32).toInt = 0 := rfl
  rw [h0] at h
  have h1 : (v &&& nI 2147483647).toBitVec.msb = false := by
    rw [Int32.toBitVec_and, BitVec.msb_and]
    have : (nI 2147483647).toBitVec.msb = false := by decide
    rw [this, Bool.and_false]
  have h2 := BitVec.msb_eq_toInt (x := (v &&& nI 2147483647).toBitVec)
  rw [h1] at h2
  have h3 : ¬ (v &&& nI 2147483647).toBitVec.toInt < 0 := of_decide_eq_false h2.symm
  exact h3 h
theorem lo_lt {v : Int32} {n : Nat} (h : 0 < n) : lo v n < n := Nat.mod_lt _ h
theorem low_s {v : Int32} {n : Nat} (h : 0 < n) (hn : n < 2 ^ 31) : f_L_low v (nI n) = some (nI (lo v n)) := by
  obtain ⟨a, ha, e⟩ := nI_of (and_nn v)
  unfold f_L_low lo
  rw [gn_nI h hn, e, nI_mod ha hn, nI_clamp ha]
theorem layer_s {h : Int32} : f_L_layer h = some (nI (hL h)) := by
  unfold f_L_layer
  rw [low_s (by decide) (by decide), b1_some]
  rfl
theorem bottom_s {h : Int32} : f_L_bottom h = some (nI (hB h)) := by
  unfold f_L_bottom
  rw [low_s (by decide) (by decide), b1_some]
  rfl
theorem hB_lt {h : Int32} : hB h < 500 := lo_lt (by decide)
theorem hT_lt {h : Int32} : hT h ≤ 898 := by
  have h1 := hB_lt (h := h)
  unfold hT
  by_cases c : lo (h >>> (nI 20 &&& 31)) 4 = 0
  · rw [if_pos c]
    have := lo_lt (v := h >>> (nI 11 &&& 31)) (n := 2) (by decide)
    omega
  · rw [if_neg c]
    have := lo_lt (v := h >>> (nI 11 &&& 31)) (n := 400) (by decide)
    omega
theorem hBT {h : Int32} : hB h ≤ hT h := Nat.le_add_right _ _
theorem hL_lt {h : Int32} : hL h < 4 := lo_lt (by decide)
theorem hR_b {h : Int32} : 1 ≤ hR h ∧ hR h ≤ 9 := by
  have := lo_lt (v := h >>> (nI 21 &&& 31)) (n := 9) (by decide)
  unfold hR
  omega
theorem hV_b {h g : Int32} {r : Nat} : hB h ≤ hV h g r ∧ hV h g r ≤ hT h := by
  have h1 := hBT (h := h)
  have := lo_lt (v := g >>> (nI r &&& 31)) (n := hT h - hB h + 1) (by omega)
  unfold hV
  omega
theorem top_s {h : Int32} : f_L_top h = some (nI (hT h)) := by
  have e : lo (h >>> (nI 20 &&& 31)) 4 < 4 := lo_lt (by decide)
  unfold f_L_top hT
  rw [bottom_s, b1_some, low_s (by decide) (by decide), b1_some]
  by_cases c : lo (h >>> (nI 20 &&& 31)) 4 = 0
  · rw [if_pos c, c, ieq_t rfl, low_s (by decide) (by decide), b1_some, nI_add]
  · rw [if_neg c, ieq_f c (by omega) (by decide), low_s (by decide) (by decide), b1_some, nI_add]
theorem rows_s {h : Int32} : f_L_rows h = some (nI (hR h)) := by
  unfold f_L_rows hR
  rw [low_s (by decide) (by decide), b1_some, nI_add]
theorem valueOf_s {h g : Int32} {r : Nat} : f_L_valueOf h g (nI r) = some (nI (hV h g r)) := by
  have h1 := hBT (h := h)
  have h2 := hT_lt (h := h)
  unfold f_L_valueOf hV
  rw [bottom_s, b1_some, top_s, b1_some, b1_some, nI_sub h1, nI_add, low_s (by omega) (by omega), b1_some, nI_add]
theorem cell_s {L k : Nat} {xs : Nat → Int32} (hL : L < 2 ^ 31) (hk : k < 2 ^ 31) : f_L_cell L xs (nI k) = some (ce L xs k) := by
  unfold f_L_cell ce
  by_cases c : L ≤ k
  · rw [if_pos c, ile_t c hk]
  · rw [if_neg c, ile_f (by omega) hL, gd_nI (by omega) hL, nI_clamp hk]
/-! digits -/
def nd (v : Nat) : Nat := if v ≤ 9 then 1 else if v ≤ 99 then 2 else 3
def dgs (tx : Nat → Int32) (s v : Nat) : Prop := if v ≤ 9 then tx s = nI (48 + v) else if v ≤ 99 then tx s = nI (48 + v / 10) ∧ tx (s + 1) = nI (48 + v % 10) else tx s = nI (48 + v / 100) ∧ tx (s + 1) = nI (48 + v / 10 % 10) ∧ tx (s + 2) = nI (48 + v % 10)
theorem nd_b {v : Nat} : 1 ≤ nd v ∧ nd v ≤ 3 := by
  unfold nd
  repeat' split
  all_goals omega
theorem dgs_fr {tx tx2 : Nat → Int32} {s v : Nat} (h : dgs tx s v) (e : ∀ i, i < s + nd v → tx2 i = tx i) : dgs tx2 s v := by
  unfold dgs at h ⊢
  unfold nd at e
  by_cases c : v ≤ 9
  · rw [if_pos c] at h e ⊢
    rw [e s (by omega)]
    exact h
  · rw [if_neg c] at h e ⊢
    by_cases d : v ≤ 99
    · rw [if_pos d] at h e ⊢
      rw [e s (by omega), e (s + 1) (by omega)]
      exact h
    · rw [if_neg d] at h e ⊢
      rw [e s (by omega), e (s + 1) (by omega), e (s + 2) (by omega)]
      exact h
theorem isD_t {tl i d : Nat} {tx : Nat → Int32} (hi : i < tl) (e : tx i = nI (48 + d)) (hd : d ≤ 9) : isD tl tx i = true ∧ dg tx i = d := by
  unfold isD dg
  rw [e, nI_clamp (by omega)]
  refine ⟨?_, by omega⟩
  rw [Bool.and_eq_true, Bool.and_eq_true, decide_eq_true_eq, decide_eq_true_eq, decide_eq_true_eq]
  exact ⟨hi, nI_le (by omega) (by omega), nI_le (by omega) (by omega)⟩
theorem isD_n {tl i c : Nat} {tx : Nat → Int32} (h : tl ≤ i ∨ (tx i = nI c ∧ (c < 48 ∨ 57 < c) ∧ c < 2 ^ 31)) : ¬ isD tl tx i = true := by
  intro q
  unfold isD at q
  rw [Bool.and_eq_true, Bool.and_eq_true, decide_eq_true_eq, decide_eq_true_eq, decide_eq_true_eq] at q
  obtain ⟨q1, q2, q3⟩ := q
  rcases h with h | ⟨h1, h2, h3⟩
  · omega
  · rw [h1] at q2 q3
    have q2 := (nI_leI (by decide) h3).mp q2
    have q3 := (nI_leI h3 (by decide)).mp q3
    omega
/-- a number that stands in a text is read -/
theorem num_w {tl s v c : Nat} {tx : Nat → Int32} (hv : v ≤ 999) (h : dgs tx s v) (ht : s + nd v ≤ tl) (hn : tl ≤ s + nd v ∨ (tx (s + nd v) = nI c ∧ (c < 48 ∨ 57 < c) ∧ c < 2 ^ 31)) : num tl tx s = some (v, s + nd v) := by
  have hx := isD_n hn
  unfold dgs at h
  unfold nd at ht hx ⊢
  unfold num
  by_cases c1 : v ≤ 9
  · rw [if_pos c1] at h ht hx ⊢
    obtain ⟨e1, e2⟩ := isD_t (tl := tl) (by omega) h c1
    rw [if_pos e1, e2]
    by_cases z : v = 0
    · rw [if_pos z, z]
    · rw [if_neg z, if_neg hx]
  · rw [if_neg c1] at h ht hx ⊢
    by_cases c2 : v ≤ 99
    · rw [if_pos c2] at h ht hx ⊢
      obtain ⟨e1, e2⟩ := isD_t (tl := tl) (by omega) h.1 (by omega)
      obtain ⟨e3, e4⟩ := isD_t (tl := tl) (by omega) h.2 (by omega)
      rw [if_pos e1, e2, if_neg (by omega), if_pos e3, e4, if_neg hx]
      congr 2
      omega
    · rw [if_neg c2] at h ht hx ⊢
      obtain ⟨e1, e2⟩ := isD_t (tl := tl) (by omega) h.1 (by omega)
      obtain ⟨e3, e4⟩ := isD_t (tl := tl) (by omega) h.2.1 (by omega)
      obtain ⟨e5, e6⟩ := isD_t (tl := tl) (by omega) h.2.2 (by omega)
      rw [if_pos e1, e2, if_neg (by omega), if_pos e3, e4, if_pos e5, e6]
      congr 2
      omega
/-! the law types -/
theorem chr_nI : ∀ k, k < 64 → vp_nar .char (((nI k).toUInt32 % 65536).toInt32) = nI k := by decide
section TY
variable {M : MM} {S : AS} {tl k v at_ : Nat} {tx : Nat → Int32}
theorem ltype_s (h : CI M S tl tx) (ht : tl < 80) (hk : k < 64) : ∃ M' tx', f_L_type M (nI tl) (nI k) = some (nI (tl + 1), M') ∧ M' 9 = M 9 ∧ CI M' S (tl + 1) tx' ∧ tx' tl = nI k ∧ ∀ i, i < tl → tx' i = tx i := by
  obtain ⟨M', p1, p2, p3⟩ := o_type (a0 := ((nI k).toUInt32 % 65536).toInt32) h ht
  rw [chr_nI k hk] at p3
  refine ⟨M', _, ?_, p2, p3, if_pos rfl, fun i hi => if_neg (by omega)⟩
  unfold f_L_type
  rw [p1, bd_some, nI_add, ieq_t rfl]
theorem num48_s {x0 : Int32} (h : CI M S tl tx) (ht : tl < 80) (hv : v ≤ 999) : ∃ M' tx', f_L_number_L48 x0 (nI v) M (nI tl) = some (nI (tl + 1), M') ∧ M' 9 = M 9 ∧ CI M' S (tl + 1) tx' ∧ tx' tl = nI (48 + v % 10) ∧ ∀ i, i < tl → tx' i = tx i := by
  obtain ⟨M', tx', p1, p2⟩ := ltype_s (k := 48 + v % 10) h ht (by omega)
  refine ⟨M', tx', ?_, p2⟩
  unfold f_L_number_L48
  rw [gn_nI (by decide) (by decide), nI_mod (by omega) (by decide), nI_add, p1, bd_some]
theorem number_s (h : CI M S tl tx) (ht : tl + nd v ≤ 80) (hv : v ≤ 999) : ∃ M' tx', f_L_number M (nI tl) (nI v) = some (nI (tl + nd v), M') ∧ M' 9 = M 9 ∧ CI M' S (tl + nd v) tx' ∧ dgs tx' tl v ∧ ∀ i, i < tl → tx' i = tx i := by
  unfold dgs
  unfold nd at ht ⊢
  unfold f_L_number
  by_cases c1 : v ≤ 9
  · rw [if_pos c1] at ht
    simp only [if_pos c1]
    rw [ile_t (by omega) (by decide)]
    unfold f_L_number_L22
    rw [ile_t (by omega) (by decide)]
    obtain ⟨M1, t1, p1, p2, p3, p4, p5⟩ := num48_s (v := v) (x0 := nI tl) h (by omega) hv
    rw [show v % 10 = v by omega] at p4
    exact ⟨M1, t1, p1, p2, p3, p4, p5⟩
  · rw [if_neg c1] at ht
    simp only [if_neg c1]
    by_cases c2 : v ≤ 99
    · rw [if_pos c2] at ht
      simp only [if_pos c2]
      rw [ile_t c2 (by decide)]
      unfold f_L_number_L22
      rw [ile_f (by omega) (by omega), gn_nI (by decide) (by decide), gn_nI (by decide) (by decide), nI_div (by omega) (by decide), nI_mod (by omega) (by decide), nI_add]
      obtain ⟨M1, t1, p1, p2, p3, p4, p5⟩ := ltype_s (k := 48 + v / 10 % 10) h (by omega) (by omega)
      rw [p1, bd_some]
      obtain ⟨M2, t2, q1, q2, q3, q4, q5⟩ := num48_s (v := v) (x0 := nI tl) p3 (by omega) hv
      refine ⟨M2, t2, q1, q2.trans p2, q3, ⟨?_, q4⟩, fun i hi => by rw [q5 i (by omega), p5 i hi]⟩
      rw [q5 tl (by omega), p4, show v / 10 % 10 = v / 10 by omega]
    · rw [if_neg c2] at ht
      simp only [if_neg c2]
      rw [ile_f (by omega) (by omega), gn_nI (by decide) (by decide), nI_div (by omega) (by decide), nI_add]
      obtain ⟨M0, t0, o1, o2, o3, o4, o5⟩ := ltype_s (k := 48 + v / 100) h (by omega) (by omega)
      rw [o1, bd_some]
      unfold f_L_number_L22
      rw [ile_f (by omega) (by omega), gn_nI (by decide) (by decide), gn_nI (by decide) (by decide), nI_div (by omega) (by decide), nI_mod (by omega) (by decide), nI_add]
      obtain ⟨M1, t1, p1, p2, p3, p4, p5⟩ := ltype_s (k := 48 + v / 10 % 10) o3 (by omega) (by omega)
      rw [p1, bd_some]
      obtain ⟨M2, t2, q1, q2, q3, q4, q5⟩ := num48_s (v := v) (x0 := nI tl) p3 (by omega) hv
      refine ⟨M2, t2, q1, (q2.trans p2).trans o2, q3, ⟨?_, ?_, q4⟩, fun i hi => by rw [q5 i (by omega), p5 i (by omega), o5 i hi]⟩
      · rw [q5 tl (by omega), p5 tl (by omega), o4]
      · rw [q5 (tl + 1) (by omega), p4]
end TY

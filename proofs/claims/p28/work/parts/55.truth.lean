/-! WHAT IS SO, as the law reckons it out of the script -/
/-- the blocks are the script's -/
def BS (L : Nat) (xs : Nat → Int32) (nb : Nat) (B : BK) : Prop := ∀ b, b < nb → B b 0 = hL (ce L xs (1 + 2 * b)) ∧ B b 1 = hB (ce L xs (1 + 2 * b)) ∧ B b 2 = hT (ce L xs (1 + 2 * b)) ∧ B b 3 = hR (ce L xs (1 + 2 * b)) ∧ ∀ r, r < hR (ce L xs (1 + 2 * b)) → B b (5 + r) = hV (ce L xs (1 + 2 * b)) (ce L xs (2 + 2 * b)) r
section TH
variable {M : MM} {nb nq pl tu b q r how ls lim n tl L : Nat} {B Q : BK} {tx xs : Nat → Int32} {S : AS}
theorem BS.sb {B2 : BK} (h : BS L xs nb B) (hS : SB nb B B2) : BS L xs nb B2 := fun b hb => by
  obtain ⟨a0, a1, a2, a3, a5⟩ := h b hb
  have e := hS b hb
  exact ⟨by rw [e 0 (by decide)]; exact a0, by rw [e 1 (by decide)]; exact a1, by rw [e 2 (by decide)]; exact a2, by rw [e 3 (by decide)]; exact a3, fun r hr => by rw [e _ (by omega)]; exact a5 r hr⟩
theorem aG_1 (hI : BI nb B) : ∀ n : Nat, n ≤ nb → sumTo (fun b => if ls.testBit (B b 0) then B b 3 else 0) n ≠ 0 → 1 ≤ aG nb B ls how n
  | 0, _, hne => absurd rfl hne
  | n + 1, hn, hne => by
    have h4 := hI.2 n (by omega)
    unfold aG
    by_cases c : ls.testBit (B n 0) = true
    · rw [if_pos c]
      have h1 := (maxB_le (f := fun r => vl nb B n how r + 1) (a := aG nb B ls how n) (B n 3)).2 0 (by omega)
      have h1 : vl nb B n how 0 + 1 ≤ maxB (aG nb B ls how n) (fun r => vl nb B n how r + 1) (B n 3) := h1
      omega
    · rw [if_neg c]
      refine aG_1 hI n (by omega) (fun q => hne ?_)
      show sumTo _ n + (if _ then _ else 0) = 0
      rw [q, if_neg c]
theorem g_le {v g : Nat} (hv : v < 2 ^ 30) (hg : g < 2 ^ 30) : (nI v ≤ nI g - nI 1) ↔ v + 1 ≤ g := by
  by_cases c : g = 0
  · subst c
    have h1 : (nI 0 - nI 1).toInt = -1 := by decide
    rw [Int32.le_iff_toInt_le, h1, nI_toInt (by omega)]
    omega
  · rw [nI_sub (by omega), nI_leI (by omega) (by omega)]
    omega
theorem truth44 {k19 : Int32 → Int32 → Int32 → Int32 → Int32 → Int32 → Option Int32} (h : CI M (nb, nq, pl, tu, B, Q) tl tx) (hL31 : L < 2 ^ 31) (hS : BS L xs nb B) (hq : q < nq) (hb : b < nb) (hc : (Q q 1).testBit (B b 0) = true) {s c le ge w : Nat} (hle : le ≤ 1000) (hge : ge ≤ 1000) : ∀ n r, r ≤ B b 3 → B b 3 < r + n → f_L_truth_L44 k19 M L xs (nI q) n (nI (s + sumTo (vl nb (rdA B) b 0) r)) (nI (c + sumTo (fun r => if Q q 2 ≤ vl nb (rdA B) b 0 r then 1 else 0) r)) (nI (minB le (vl nb (rdA B) b 0) r)) (nI (maxB ge (fun r => vl nb (rdA B) b 0 r + 1) r) - nI 1) (nI (w + r)) (nI b) (ce L xs (1 + 2 * b)) (nI r) = k19 (nI (s + sumTo (vl nb (rdA B) b 0) (B b 3))) (nI (c + sumTo (fun r => if Q q 2 ≤ vl nb (rdA B) b 0 r then 1 else 0) (B b 3))) (nI (minB le (vl nb (rdA B) b 0) (B b 3))) (nI (maxB ge (fun r => vl nb (rdA B) b 0 r + 1) (B b 3)) - nI 1) (nI (w + B b 3)) (nI (b + 1)) := by
  obtain ⟨a0, a1, a2, a3, a5⟩ := hS b hb
  have hqq := h.qq.2 q hq
  have h8 := h.bi.1
  have hbi := h.bi.2 b hb
  have e1 := o_quest (k := 1) h hq (by decide)
  have e2 := o_quest (k := 2) h hq (by decide)
  have ec := cov_nI (Q q 1) (by omega) (B b 0) hbi.1
  rw [if_pos hc, a0] at ec
  intro n
  induction n with
  | zero => intro r h1 h2; omega
  | succ n ih =>
    intro r h1 h2
    rw [f_L_truth_L44.eq_2, rows_s, b1_some, ← a3]
    by_cases d : r = B b 3
    · subst d
      rw [ile_t (Nat.le_refl _) (by omega)]
      unfold f_L_truth_L158
      rw [nI_add]
    · have hv : vl nb (rdA B) b 0 r = hV (ce L xs (1 + 2 * b)) (ce L xs (2 + 2 * b)) r := by
        rw [vl_rdA (by omega)]
        exact a5 r (by omega)
      have hv9 : vl nb (rdA B) b 0 r ≤ 999 := by rw [hv]; have := hV_b (h := ce L xs (1 + 2 * b)) (g := ce L xs (2 + 2 * b)) (r := r); have := hT_lt (h := ce L xs (1 + 2 * b)); omega
      have hm1 := (minB_le (f := vl nb (rdA B) b 0) (a := le) r).1
      have hm2 := maxB_bound (f := fun r => vl nb (rdA B) b 0 r + 1) (c := 1000) hge r (fun i hi => by
        have := vl_le (how := 0) (BI_rdA h.bi) hb (r := i) (by rw [rdA_k (by decide)]; omega)
        show vl nb (rdA B) b 0 i + 1 ≤ 1000
        omega)
      have ih2 := ih (r + 1) (by omega) (by omega)
      have es : sumTo (vl nb (rdA B) b 0) (r + 1) = sumTo (vl nb (rdA B) b 0) r + vl nb (rdA B) b 0 r := rfl
      have ec2 : sumTo (fun r => if Q q 2 ≤ vl nb (rdA B) b 0 r then 1 else 0) (r + 1) = sumTo (fun r => if Q q 2 ≤ vl nb (rdA B) b 0 r then 1 else 0) r + (if Q q 2 ≤ vl nb (rdA B) b 0 r then 1 else 0) := rfl
      have em : minB le (vl nb (rdA B) b 0) (r + 1) = min (minB le (vl nb (rdA B) b 0) r) (vl nb (rdA B) b 0 r) := rfl
      have eg : maxB ge (fun r => vl nb (rdA B) b 0 r + 1) (r + 1) = max (maxB ge (fun r => vl nb (rdA B) b 0 r + 1) r) (vl nb (rdA B) b 0 r + 1) := rfl
      rw [es, ec2, em, eg] at ih2
      have key : ∀ y : Nat, (if Q q 2 ≤ vl nb (rdA B) b 0 r then 1 else 0) = y → f_L_truth_L114 k19 (f_L_truth_L44 k19 M L xs (nI q) n) M L xs (nI q) (nI (s + sumTo (vl nb (rdA B) b 0) r) + nI (vl nb (rdA B) b 0 r)) (nI (minB le (vl nb (rdA B) b 0) r)) (nI (maxB ge (fun r => vl nb (rdA B) b 0 r + 1) r) - nI 1) (nI (w + r)) (nI b) (ce L xs (1 + 2 * b)) (nI r) (nI (vl nb (rdA B) b 0 r)) (nI (c + sumTo (fun r => if Q q 2 ≤ vl nb (rdA B) b 0 r then 1 else 0) r)) (nI y) = k19 (nI (s + sumTo (vl nb (rdA B) b 0) (B b 3))) (nI (c + sumTo (fun r => if Q q 2 ≤ vl nb (rdA B) b 0 r then 1 else 0) (B b 3))) (nI (minB le (vl nb (rdA B) b 0) (B b 3))) (nI (maxB ge (fun r => vl nb (rdA B) b 0 r + 1) (B b 3)) - nI 1) (nI (w + B b 3)) (nI (b + 1)) := by
        intro y hy
        rw [hy] at ih2
        have key2 : ∀ z : Nat, min (minB le (vl nb (rdA B) b 0) r) (vl nb (rdA B) b 0 r) = z → f_L_truth_L131 k19 (f_L_truth_L44 k19 M L xs (nI q) n) M L xs (nI q) (nI (s + sumTo (vl nb (rdA B) b 0) r) + nI (vl nb (rdA B) b 0 r)) (nI (c + sumTo (fun r => if Q q 2 ≤ vl nb (rdA B) b 0 r then 1 else 0) r) + nI y) (nI (maxB ge (fun r => vl nb (rdA B) b 0 r + 1) r) - nI 1) (nI (w + r)) (nI b) (ce L xs (1 + 2 * b)) (nI r) (nI (vl nb (rdA B) b 0 r)) (nI z) = k19 (nI (s + sumTo (vl nb (rdA B) b 0) (B b 3))) (nI (c + sumTo (fun r => if Q q 2 ≤ vl nb (rdA B) b 0 r then 1 else 0) (B b 3))) (nI (minB le (vl nb (rdA B) b 0) (B b 3))) (nI (maxB ge (fun r => vl nb (rdA B) b 0 r + 1) (B b 3)) - nI 1) (nI (w + B b 3)) (nI (b + 1)) := by
          intro z hz
          rw [hz] at ih2
          unfold f_L_truth_L131
          rw [nI_add, nI_add, nI_add, nI_add, Nat.add_assoc s, Nat.add_assoc c, Nat.add_assoc w]
          by_cases f : vl nb (rdA B) b 0 r + 1 ≤ maxB ge (fun r => vl nb (rdA B) b 0 r + 1) r
          · rw [if_pos ((g_le (by omega) (by omega)).mpr f)]
            rw [Nat.max_eq_left f] at ih2
            exact ih2
          · rw [if_neg (fun z => f ((g_le (by omega) (by omega)).mp z))]
            rw [Nat.max_eq_right (by omega), nI_sub (by omega), Nat.add_sub_cancel] at ih2
            exact ih2
        unfold f_L_truth_L114
        by_cases f : minB le (vl nb (rdA B) b 0) r ≤ vl nb (rdA B) b 0 r
        · rw [ile_t f (by omega)]
          exact key2 _ (Nat.min_eq_left f)
        · rw [ile_f (by omega) (by omega)]
          exact key2 _ (Nat.min_eq_right (by omega))
      rw [ile_f (by omega) (by omega), e1, b1_some, layer_s, b1_some, ec, ieq_t rfl, nI_mul, nI_add, cell_s hL31 (by omega), b1_some, valueOf_s, b1_some, e2, b1_some, ← hv]
      by_cases f : Q q 2 ≤ vl nb (rdA B) b 0 r
      · rw [ilt_f f (by omega)]
        exact key 1 (if_pos f)
      · rw [ilt_t (by omega) (by omega)]
        exact key 0 (if_neg f)
theorem truth19 (h : CI M (nb, nq, pl, tu, B, Q) tl tx) (hL31 : L < 2 ^ 31) (hS : BS L xs nb B) (hq : q < nq) : ∀ n i, i ≤ nb → nb < i + n → f_L_truth_L19 M L xs (nI q) n (nI (aS nb (rdA B) (Q q 1) 0 i)) (nI (aC nb (rdA B) (Q q 1) (Q q 2) 0 i)) (nI (aL nb (rdA B) (Q q 1) 0 i)) (nI (aG nb (rdA B) (Q q 1) 0 i) - nI 1) (nI (sumTo (fun b => if (Q q 1).testBit (rdA B b 0) then rdA B b 3 else 0) i)) (nI i) = some (if rQ nb B (Q q 1) 3 = 0 then -5 else nI (tr nb B (Q q))) := by
  have hqq := h.qq.2 q hq
  have h8 := h.bi.1
  have hIA := BI_rdA h.bi
  intro n
  induction n with
  | zero => intro i h1 h2; omega
  | succ n ih =>
    intro i h1 h2
    rw [f_L_truth_L19.eq_2, o_count0 h, b1_some]
    by_cases c : i = nb
    · subst c
      rw [ile_t (Nat.le_refl _) (by omega)]
      have e0 := o_quest (k := 0) h hq (by decide)
      have er : sumTo (fun b => if (Q q 1).testBit (rdA B b 0) then rdA B b 3 else 0) i = rQ i B (Q q 1) 3 := rQ_rdA
      have hrl : rQ i B (Q q 1) 3 ≤ 128 := rQ_le h.bi (Or.inl rfl) (Nat.le_refl _)
      have hSl := aS_le (ls := Q q 1) (how := 0) hIA (Nat.le_refl i)
      unfold f_L_truth_L164
      rw [e0, b1_some, er]
      by_cases d : rQ i B (Q q 1) 3 = 0
      · rw [if_pos d, d, ieq_t rfl]
      · rw [if_neg d, ieq_f d (by omega) (by decide)]
        have hk : Q q 0 = 0 ∨ Q q 0 = 1 ∨ Q q 0 = 2 ∨ Q q 0 = 3 ∨ Q q 0 = 4 := by omega
        have er2 : rQ i (rdA B) (Q q 1) 3 = rQ i B (Q q 1) 3 := rQ_rdA
        unfold tr ans
        rcases hk with hk | hk | hk | hk | hk
        · rw [hk, ieq_t rfl, if_pos rfl]
        · rw [hk, ieq_f (by decide) (by decide) (by decide), ieq_t rfl, if_neg (by decide), if_pos rfl]
        · rw [hk, ieq_f (by decide) (by decide) (by decide), ieq_f (by decide) (by decide) (by decide), ieq_t rfl, if_neg (by decide), if_neg (by decide), if_pos rfl]
        · have hg := aG_1 (ls := Q q 1) (how := 0) hIA i (Nat.le_refl _) (by rw [er]; exact d)
          rw [hk, ieq_f (by decide) (by decide) (by decide), ieq_f (by decide) (by decide) (by decide), ieq_f (by decide) (by decide) (by decide), ieq_t rfl, if_neg (by decide), if_neg (by decide), if_neg (by decide), if_pos rfl, nI_sub hg]
        · rw [hk, ieq_f (by decide) (by decide) (by decide), ieq_f (by decide) (by decide) (by decide), ieq_f (by decide) (by decide) (by decide), ieq_f (by decide) (by decide) (by decide), if_neg (by decide), if_neg (by decide), if_neg (by decide), if_neg (by decide), gn_nI (by omega) (by omega), nI_mul, nI_div (by omega) (by omega), er2]
    · have hi : i < nb := by omega
      obtain ⟨a0, a1, a2, a3, a5⟩ := hS i hi
      have hbi := h.bi.2 i hi
      have ih2 := ih (i + 1) (by omega) (by omega)
      have x0 : rdA B i 0 = B i 0 := rdA_k (by decide)
      have x3 : rdA B i 3 = B i 3 := rdA_k (by decide)
      have s1 : aS nb (rdA B) (Q q 1) 0 (i + 1) = aS nb (rdA B) (Q q 1) 0 i + (if (Q q 1).testBit (rdA B i 0) then sumTo (vl nb (rdA B) i 0) (rdA B i 3) else 0) := rfl
      have s2 : aC nb (rdA B) (Q q 1) (Q q 2) 0 (i + 1) = aC nb (rdA B) (Q q 1) (Q q 2) 0 i + (if (Q q 1).testBit (rdA B i 0) then sumTo (fun r => if Q q 2 ≤ vl nb (rdA B) i 0 r then 1 else 0) (rdA B i 3) else 0) := rfl
      have s3 : aL nb (rdA B) (Q q 1) 0 (i + 1) = if (Q q 1).testBit (rdA B i 0) then minB (aL nb (rdA B) (Q q 1) 0 i) (vl nb (rdA B) i 0) (rdA B i 3) else aL nb (rdA B) (Q q 1) 0 i := rfl
      have s4 : aG nb (rdA B) (Q q 1) 0 (i + 1) = if (Q q 1).testBit (rdA B i 0) then maxB (aG nb (rdA B) (Q q 1) 0 i) (fun r => vl nb (rdA B) i 0 r + 1) (rdA B i 3) else aG nb (rdA B) (Q q 1) 0 i := rfl
      have s5 : sumTo (fun b => if (Q q 1).testBit (rdA B b 0) then rdA B b 3 else 0) (i + 1) = sumTo (fun b => if (Q q 1).testBit (rdA B b 0) then rdA B b 3 else 0) i + (if (Q q 1).testBit (rdA B i 0) then rdA B i 3 else 0) := rfl
      rw [s1, s2, s3, s4, s5, x0, x3] at ih2
      rw [ile_f hi (by omega), nI_mul, nI_add, cell_s hL31 (by omega), b1_some]
      by_cases d : (Q q 1).testBit (B i 0) = true
      · simp only [if_pos d] at ih2
        have hl := aL_le (nb := nb) (B := rdA B) (ls := Q q 1) (how := 0) i
        have hg := aG_le (ls := Q q 1) (how := 0) hIA i (by omega)
        have t := truth44 (k19 := f_L_truth_L19 M L xs (nI q) n) (s := aS nb (rdA B) (Q q 1) 0 i) (c := aC nb (rdA B) (Q q 1) (Q q 2) 0 i) (le := aL nb (rdA B) (Q q 1) 0 i) (ge := aG nb (rdA B) (Q q 1) 0 i) (w := sumTo (fun b => if (Q q 1).testBit (rdA B b 0) then rdA B b 3 else 0) i) h hL31 hS hq hi d hl hg FU 0 (Nat.zero_le _) (by rw [FU_eq]; omega)
        rw [ih2] at t
        exact t
      · simp only [if_neg d, Nat.add_zero] at ih2
        have e1 := o_quest (k := 1) h hq (by decide)
        have ec := cov_nI (Q q 1) (by omega) (B i 0) hbi.1
        rw [if_neg d, a0] at ec
        have hr := hR_b (h := ce L xs (1 + 2 * i))
        rw [show FU = 999 + 1 from rfl, f_L_truth_L44.eq_2, rows_s, b1_some, ile_f (by omega) (by omega), e1, b1_some, layer_s, b1_some, ec, ieq_f (by decide) (by decide) (by decide)]
        unfold f_L_truth_L158
        rw [nI_add]
        exact ih2
theorem truth_s (h : CI M (nb, nq, pl, tu, B, Q) tl tx) (hL31 : L < 2 ^ 31) (hS : BS L xs nb B) (hq : q < nq) : f_L_truth M L xs (nI q) = some (if rQ nb B (Q q 1) 3 = 0 then -5 else nI (tr nb B (Q q))) :=
  truth19 h hL31 hS hq FU 0 (Nat.zero_le _) (by rw [FU_eq]; have := h.bi.1; omega)
end TH

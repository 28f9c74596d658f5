/-! BOUNDS: an answer grows with the values that are taken for the rows; so the bounds hold what is so, and part no wider -/
/-- all rows read -/
def rdA (B : BK) : BK := fun b k => if k = 4 then B b 3 else B b k
/-- what is so -/
def tr (nb : Nat) (B : BK) (qr : Nat → Nat) : Nat := ans nb (rdA B) qr 0
section MO
variable {nb nq pl tu b q r how how2 ls lim n : Nat} {B B2 Q : BK} {qr : Nat → Nat}
theorem sumTo_le2 {f g : Nat → Nat} : ∀ n : Nat, (∀ i, i < n → f i ≤ g i) → sumTo f n ≤ sumTo g n
  | 0, _ => Nat.le_refl _
  | n + 1, h => by
    have h1 := sumTo_le2 n (fun i hi => h i (by omega))
    have h2 := h n (by omega)
    show sumTo f n + f n ≤ sumTo g n + g n
    omega
theorem minB_mono {f g : Nat → Nat} {a c : Nat} (ha : a ≤ c) : ∀ n : Nat, (∀ i, i < n → f i ≤ g i) → minB a f n ≤ minB c g n
  | 0, _ => ha
  | n + 1, h => by
    have h1 := minB_mono ha n (fun i hi => h i (by omega))
    have h2 := h n (by omega)
    show min (minB a f n) (f n) ≤ min (minB c g n) (g n)
    omega
theorem maxB_mono {f g : Nat → Nat} {a c : Nat} (ha : a ≤ c) : ∀ n : Nat, (∀ i, i < n → f i ≤ g i) → maxB a f n ≤ maxB c g n
  | 0, _ => ha
  | n + 1, h => by
    have h1 := maxB_mono ha n (fun i hi => h i (by omega))
    have h2 := h n (by omega)
    show max (maxB a f n) (f n) ≤ max (maxB c g n) (g n)
    omega
theorem ans_mono (h0 : ∀ b, b < nb → B2 b 0 = B b 0 ∧ B2 b 3 = B b 3) (hv : ∀ b, b < nb → (qr 1).testBit (B b 0) = true → ∀ r, r < B b 3 → vl nb B b how r ≤ vl nb B2 b how2 r) : ans nb B qr how ≤ ans nb B2 qr how2 := by
  have hS : aS nb B (qr 1) how nb ≤ aS nb B2 (qr 1) how2 nb := by
    refine sumTo_le2 _ (fun i hi => ?_)
    obtain ⟨e0, e3⟩ := h0 i hi
    show (if (qr 1).testBit (B i 0) then _ else 0) ≤ (if (qr 1).testBit (B2 i 0) then _ else 0)
    rw [e0, e3]
    by_cases c : (qr 1).testBit (B i 0) = true
    · rw [if_pos c, if_pos c]
      exact sumTo_le2 _ (hv i hi c)
    · rw [if_neg c, if_neg c]
      exact Nat.le_refl _
  have hC : aC nb B (qr 1) (qr 2) how nb ≤ aC nb B2 (qr 1) (qr 2) how2 nb := by
    refine sumTo_le2 _ (fun i hi => ?_)
    obtain ⟨e0, e3⟩ := h0 i hi
    show (if (qr 1).testBit (B i 0) then _ else 0) ≤ (if (qr 1).testBit (B2 i 0) then _ else 0)
    rw [e0, e3]
    by_cases c : (qr 1).testBit (B i 0) = true
    · rw [if_pos c, if_pos c]
      refine sumTo_le2 _ (fun r hr => ?_)
      have := hv i hi c r hr
      show (if _ then 1 else 0) ≤ (if _ then 1 else 0)
      repeat' split
      all_goals omega
    · rw [if_neg c, if_neg c]
      exact Nat.le_refl _
  have hL : ∀ n, n ≤ nb → aL nb B (qr 1) how n ≤ aL nb B2 (qr 1) how2 n := by
    intro n
    induction n with
    | zero => intro _; exact Nat.le_refl _
    | succ n ih =>
      intro hn
      have ih := ih (by omega)
      obtain ⟨e0, e3⟩ := h0 n (by omega)
      unfold aL
      rw [e0, e3]
      by_cases c : (qr 1).testBit (B n 0) = true
      · rw [if_pos c, if_pos c]
        exact minB_mono ih _ (hv n (by omega) c)
      · rw [if_neg c, if_neg c]
        exact ih
  have hG : ∀ n, n ≤ nb → aG nb B (qr 1) how n ≤ aG nb B2 (qr 1) how2 n := by
    intro n
    induction n with
    | zero => intro _; exact Nat.le_refl _
    | succ n ih =>
      intro hn
      have ih := ih (by omega)
      obtain ⟨e0, e3⟩ := h0 n (by omega)
      unfold aG
      rw [e0, e3]
      by_cases c : (qr 1).testBit (B n 0) = true
      · rw [if_pos c, if_pos c]
        exact maxB_mono ih _ (fun r hr => Nat.succ_le_succ (hv n (by omega) c r hr))
      · rw [if_neg c, if_neg c]
        exact ih
  have hR : rQ nb B2 (qr 1) 3 = rQ nb B (qr 1) 3 := by
    refine sumTo_congr _ (fun i hi => ?_)
    obtain ⟨e0, e3⟩ := h0 i hi
    show (if (qr 1).testBit (B2 i 0) then B2 i 3 else 0) = (if (qr 1).testBit (B i 0) then B i 3 else 0)
    rw [e0, e3]
  have hL := hL nb (Nat.le_refl _)
  have hG := hG nb (Nat.le_refl _)
  unfold ans
  rw [hR]
  by_cases k0 : qr 0 = 0
  · rw [if_pos k0, if_pos k0]; exact hS
  · rw [if_neg k0, if_neg k0]
    by_cases k1 : qr 0 = 1
    · rw [if_pos k1, if_pos k1]; exact hC
    · rw [if_neg k1, if_neg k1]
      by_cases k2 : qr 0 = 2
      · rw [if_pos k2, if_pos k2]; exact hL
      · rw [if_neg k2, if_neg k2]
        by_cases k3 : qr 0 = 3
        · rw [if_pos k3, if_pos k3]; omega
        · rw [if_neg k3, if_neg k3]
          exact Nat.div_le_div_right (by omega)
theorem rdA_rdB : rdA (rdB B b) = rdA B := by
  funext x k
  unfold rdA
  by_cases c : k = 4
  · rw [if_pos c, if_pos c]
    exact upB_o (Or.inr (by decide))
  · rw [if_neg c, if_neg c]
    exact upB_o (Or.inr c)
theorem vl_rdA (h : r < B b 3) : vl nb (rdA B) b how r = B b (5 + r) := by
  unfold vl
  have e4 : rdA B b 4 = B b 3 := if_pos rfl
  have e5 : rdA B b (5 + r) = B b (5 + r) := if_neg (by omega)
  rw [e4, if_pos h, e5]
theorem rdA_k {k : Nat} (h : k ≠ 4) : rdA B b k = B b k := if_neg h
/-- a row's value lies within what is taken for it -/
theorem vl_in (hI : BI nb B) (hb : b < nb) (hr : r < B b 3) : vl nb B b 0 r ≤ B b (5 + r) ∧ B b (5 + r) ≤ vl nb B b 1 r ∧ vl nb B b 0 r ≤ vl nb B b 2 r ∧ vl nb B b 2 r ≤ vl nb B b 1 r := by
  obtain ⟨h0, h1, h2, h3, h4, h5, h6⟩ := hI.2 b hb
  have h7 := h6 r hr
  unfold vl
  by_cases c : r < B b 4
  · simp only [if_pos c]
    omega
  · simp only [if_neg c]
    have t0 : tk nb B b 0 = B b 1 := if_pos rfl
    have t1 : tk nb B b 1 = B b 2 := by unfold tk; rw [if_neg (by decide), if_pos rfl]
    rw [t0, t1]
    unfold tk
    rw [if_neg (by decide), if_neg (by decide)]
    by_cases d : lM nb B (B b 0) = 0
    · rw [if_pos d]; omega
    · rw [if_neg d]; omega
theorem low_guess (hI : BI nb B) : ans nb B qr 0 ≤ ans nb B qr 2 := ans_mono (fun _ _ => ⟨rfl, rfl⟩) (fun _ hb _ _ hr => (vl_in hI hb hr).2.2.1)
theorem guess_high (hI : BI nb B) : ans nb B qr 2 ≤ ans nb B qr 1 := ans_mono (fun _ _ => ⟨rfl, rfl⟩) (fun _ hb _ _ hr => (vl_in hI hb hr).2.2.2)
theorem low_tr (hI : BI nb B) : ans nb B qr 0 ≤ tr nb B qr := ans_mono (fun _ _ => ⟨rdA_k (by decide), rdA_k (by decide)⟩) (fun _ hb _ _ hr => by rw [vl_rdA hr]; exact (vl_in hI hb hr).1)
theorem tr_high (hI : BI nb B) : tr nb B qr ≤ ans nb B qr 1 := ans_mono (fun _ _ => ⟨(rdA_k (by decide)).symm, (rdA_k (by decide)).symm⟩) (fun b hb _ r hr => by
  have hr : r < B b 3 := by rw [rdA_k (by decide)] at hr; exact hr
  rw [vl_rdA hr]
  exact (vl_in hI hb hr).2.1)
/-- all its rows read: each bound is what is so -/
theorem all_read (hI : BI nb B) (he : rQ nb B (qr 1) 3 = rQ nb B (qr 1) 4) : ans nb B qr how = tr nb B qr := by
  have key : ∀ b, b < nb → (qr 1).testBit (B b 0) = true → B b 4 = B b 3 := by
    have hle : ∀ n, n ≤ nb → sumTo (fun b => if (qr 1).testBit (B b 0) then B b 4 else 0) n ≤ sumTo (fun b => if (qr 1).testBit (B b 0) then B b 3 else 0) n := fun n hn => sumTo_le2 _ (fun i hi => by
      have := (hI.2 i (by omega)).2.2.2.2.2.1
      show (if _ then _ else _) ≤ (if _ then _ else _)
      split <;> omega)
    have gen : ∀ n, n ≤ nb → sumTo (fun b => if (qr 1).testBit (B b 0) then B b 3 else 0) n = sumTo (fun b => if (qr 1).testBit (B b 0) then B b 4 else 0) n → ∀ b, b < n → (qr 1).testBit (B b 0) = true → B b 4 = B b 3 := by
      intro n
      induction n with
      | zero => intro _ _ b hb; omega
      | succ n ih =>
        intro hn h b hb hc
        have h1 := hle n (by omega)
        have h2 := (hI.2 n (by omega)).2.2.2.2.2.1
        have h : sumTo (fun b => if (qr 1).testBit (B b 0) then B b 3 else 0) n + (if (qr 1).testBit (B n 0) then B n 3 else 0) = sumTo (fun b => if (qr 1).testBit (B b 0) then B b 4 else 0) n + (if (qr 1).testBit (B n 0) then B n 4 else 0) := h
        by_cases d : b = n
        · subst d
          rw [if_pos hc, if_pos hc] at h
          omega
        · refine ih (by omega) ?_ b (by omega) hc
          by_cases e : (qr 1).testBit (B n 0) = true
          · rw [if_pos e, if_pos e] at h
            omega
          · rw [if_neg e, if_neg e] at h
            omega
    exact gen nb (Nat.le_refl _) he
  have e : ∀ b, b < nb → (qr 1).testBit (B b 0) = true → ∀ r, r < B b 3 → vl nb B b how r = vl nb (rdA B) b 0 r := fun b hb hc r hr => by
    rw [vl_rdA hr]
    unfold vl
    rw [if_pos (by rw [key b hb hc]; exact hr)]
  refine Nat.le_antisymm (ans_mono (fun _ _ => ⟨rdA_k (by decide), rdA_k (by decide)⟩) (fun b hb hc r hr => Nat.le_of_eq (e b hb hc r hr))) (ans_mono (fun _ _ => ⟨(rdA_k (by decide)).symm, (rdA_k (by decide)).symm⟩) (fun b hb hc r hr => ?_))
  rw [rdA_k (by decide)] at hc hr
  exact Nat.le_of_eq (e b hb hc r hr).symm
/-- a row more is read: no bound parts wider -/
theorem rd_vl (hI : BI nb B) (hb : b < nb) (hu : urd B b = true) {x : Nat} (hx : x < nb) (hr : r < B x 3) : vl nb B x 0 r ≤ vl nb (rdB B b) x 0 r ∧ vl nb (rdB B b) x 1 r ≤ vl nb B x 1 r := by
  have hv := vl_in hI hx hr
  have t0 : ∀ B : BK, tk nb B x 0 = B x 1 := fun B => if_pos rfl
  have t1 : ∀ B : BK, tk nb B x 1 = B x 2 := fun B => by unfold tk; rw [if_neg (by decide), if_pos rfl]
  have o1 : rdB B b x 1 = B x 1 := upB_o (Or.inr (by decide))
  have o2 : rdB B b x 2 = B x 2 := upB_o (Or.inr (by decide))
  have o5 : rdB B b x (5 + r) = B x (5 + r) := upB_o (Or.inr (by omega))
  have o4 : B x 4 ≤ rdB B b x 4 := by
    by_cases c : x = b
    · subst c
      have e : rdB B x x 4 = B x 4 + 1 := upB_at
      omega
    · have e : rdB B b x 4 = B x 4 := upB_o (Or.inl c)
      omega
  unfold vl at hv ⊢
  rw [t0, t1] at hv
  rw [t0, t0, t1, t1, o1, o2, o5]
  by_cases c : r < B x 4
  · have c2 : r < rdB B b x 4 := by omega
    simp only [if_pos c, if_pos c2]
    omega
  · simp only [if_neg c] at hv ⊢
    by_cases c2 : r < rdB B b x 4
    · simp only [if_pos c2]
      omega
    · simp only [if_neg c2]
      omega
theorem low_up (hI : BI nb B) (hb : b < nb) (hu : urd B b = true) : ans nb B qr 0 ≤ ans nb (rdB B b) qr 0 := ans_mono (fun _ _ => ⟨upB_o (Or.inr (by decide)), upB_o (Or.inr (by decide))⟩) (fun _ hx _ _ hr => (rd_vl hI hb hu hx hr).1)
theorem high_down (hI : BI nb B) (hb : b < nb) (hu : urd B b = true) : ans nb (rdB B b) qr 1 ≤ ans nb B qr 1 := ans_mono (fun _ _ => ⟨(upB_o (Or.inr (by decide))).symm, (upB_o (Or.inr (by decide))).symm⟩) (fun x hx _ r hr => by
  have e : rdB B b x 3 = B x 3 := upB_o (Or.inr (by decide))
  rw [e] at hr
  exact (rd_vl hI hb hu hx hr).2)
theorem rQ_rdB : rQ nb (rdB B b) ls 3 = rQ nb B ls 3 := sumTo_congr _ (fun i _ => by
  show (if ls.testBit (rdB B b i 0) then rdB B b i 3 else 0) = (if ls.testBit (B i 0) then B i 3 else 0)
  rw [show rdB B b i 0 = B i 0 from upB_o (Or.inr (by decide)), show rdB B b i 3 = B i 3 from upB_o (Or.inr (by decide))])
theorem rQ_rdA : rQ nb (rdA B) ls 3 = rQ nb B ls 3 := sumTo_congr _ (fun i _ => by
  show (if ls.testBit (rdA B i 0) then rdA B i 3 else 0) = (if ls.testBit (B i 0) then B i 3 else 0)
  rw [rdA_k (by decide), rdA_k (by decide)])
theorem BI_rdA (hI : BI nb B) : BI nb (rdA B) := ⟨hI.1, fun b hb => by
  obtain ⟨h0, h1, h2, h3, h4, h5, h6⟩ := hI.2 b hb
  rw [rdA_k (by decide), rdA_k (by decide), rdA_k (by decide), rdA_k (by decide), show rdA B b 4 = B b 3 from if_pos rfl]
  exact ⟨h0, h1, h2, h3, h4, Nat.le_refl _, fun r hr => by rw [rdA_k (by omega)]; exact h6 r hr⟩⟩
theorem tr_le (hI : BI nb B) : tr nb B qr ≤ 12787200 := ans_le (BI_rdA hI)
end MO
/-! WHAT STAYS: what was kept of a stopped question, and the law's row against the bounds by now -/
/-- what was kept holds what is so -/
def kp (nb : Nat) (B : BK) (qr : Nat → Nat) : Prop := qr 4 = 1 → rQ nb B (qr 1) 3 ≠ 0 ∧ nI (qr 6) - nI (qr 5) ≤ nI (qr 3) ∧ qr 5 ≤ tr nb B qr ∧ tr nb B qr ≤ qr 6 ∧ qr 6 ≤ 12787200 ∧ qr 7 ≤ 12787200
def KP (nb : Nat) (B : BK) (nq : Nat) (Q : BK) : Prop := ∀ q, q < nq → kp nb B (Q q)
/-- the law's row at a question -/
def ri (f : Nat → Int32) (nb : Nat) (B : BK) (q : Nat) (qr : Nat → Nat) : Prop := (f q = -5 ∨ ∃ a, f q = nI a ∧ a ≤ ans nb B qr 0) ∧ (∃ a, f (6 + q) = nI a ∧ ans nb B qr 1 ≤ a ∧ a < 2 ^ 31) ∧ (f (12 + q) = -5 ∨ (qr 4 = 1 ∧ f (12 + q) = nI (qr 7)))
def RI (f : Nat → Int32) (nb : Nat) (B : BK) (nq : Nat) (Q : BK) : Prop := ∀ q, q < nq → rQ nb B (Q q 1) 3 ≠ 0 → ri f nb B q (Q q)
section ST
variable {nb nq pl tu b q r how ls n : Nat} {B B2 Q : BK} {qr : Nat → Nat} {f : Nat → Int32}
theorem tr_rdB : tr nb (rdB B b) qr = tr nb B qr := by
  unfold tr
  rw [rdA_rdB]
theorem tr_setq : tr nb B (setq nb B2 qr) = tr nb B qr := rfl
theorem stl_cases {q : Nat} : (q < nq ∧ stB nb B (Q q) = true ∧ stl nb B nq Q q = setq nb B (Q q)) ∨ (stl nb B nq Q q = Q q) := by
  unfold stl
  by_cases c : q < nq ∧ stB nb B (Q q) = true
  · exact Or.inl ⟨c.1, c.2, if_pos c⟩
  · exact Or.inr (if_neg c)
theorem stB_t (h : stB nb B qr = true) : qr 4 = 0 ∧ rQ nb B (qr 1) 3 ≠ 0 ∧ nI (ans nb B qr 1) - nI (ans nb B qr 0) ≤ nI (qr 3) := by
  unfold stB at h
  simp only [Bool.and_eq_true, decide_eq_true_eq] at h
  exact h
theorem kp_setq (hI : BI nb B) (h : stB nb B qr = true) : kp nb B (setq nb B qr) := fun _ => by
  obtain ⟨h1, h2, h3⟩ := stB_t h
  rw [tr_setq]
  exact ⟨h2, h3, low_tr hI, tr_high hI, ans_le hI, ans_le hI⟩
theorem KP_stl (hI : BI nb B) (h : KP nb B nq Q) : KP nb B nq (stl nb B nq Q) := fun q hq => by
  rcases stl_cases (nb := nb) (B := B) (nq := nq) (Q := Q) (q := q) with ⟨-, h2, e⟩ | e
  · rw [e]; exact kp_setq hI h2
  · rw [e]; exact h q hq
theorem kp_rdB (h : kp nb B qr) : kp nb (rdB B b) qr := fun h4 => by
  rw [rQ_rdB, tr_rdB]
  exact h h4
theorem ri_stl (h : RI f nb B nq Q) : RI f nb B nq (stl nb B nq Q) := fun q hq hr => by
  rcases stl_cases (nb := nb) (B := B) (nq := nq) (Q := Q) (q := q) with ⟨-, h2, e⟩ | e
  · rw [e] at hr ⊢
    obtain ⟨a1, a2, a3⟩ := h q hq hr
    obtain ⟨s1, -⟩ := stB_t h2
    refine ⟨a1, a2, Or.inl ?_⟩
    rcases a3 with a3 | ⟨a3, -⟩
    · exact a3
    · omega
  · rw [e] at hr ⊢
    exact h q hq hr
theorem RI_rdB (hI : BI nb B) (hb : b < nb) (hu : urd B b = true) (h : RI f nb B nq Q) : RI f nb (rdB B b) nq Q := fun q hq hr => by
  rw [rQ_rdB] at hr
  obtain ⟨a1, ⟨a, a2, a3, a4⟩, a5⟩ := h q hq hr
  refine ⟨?_, ⟨a, a2, Nat.le_trans (high_down hI hb hu) a3, a4⟩, a5⟩
  rcases a1 with a1 | ⟨x, a1, a6⟩
  · exact Or.inl a1
  · exact Or.inr ⟨x, a1, Nat.le_trans a6 (low_up hI hb hu)⟩
theorem KP_stp {T : T3} (hT : TI nb nq T) (h : KP nb T.2.1 nq T.2.2) : KP nb (stp pl nb nq T).2.1 nq (stp pl nb nq T).2.2 := by
  unfold stp
  cases e : nx pl T.1 nb T.2.1 nq T.2.2 with
  | none => exact h
  | some b =>
    obtain ⟨hb, hu⟩ := nx_some e
    exact KP_stl (BI_rdB hT.2.1 hu) (fun q hq => kp_rdB (h q hq))
theorem RI_stp {T : T3} (hT : TI nb nq T) (h : RI f nb T.2.1 nq T.2.2) : RI f nb (stp pl nb nq T).2.1 nq (stp pl nb nq T).2.2 := by
  unfold stp
  cases e : nx pl T.1 nb T.2.1 nq T.2.2 with
  | none => exact h
  | some b =>
    obtain ⟨hb, hu⟩ := nx_some e
    exact ri_stl (RI_rdB hT.2.1 hb hu h)
/-- blocks but for what was read -/
def SB (nb : Nat) (B B2 : BK) : Prop := ∀ b, b < nb → ∀ k, k ≠ 4 → B2 b k = B b k
theorem SB_stp {T : T3} : SB nb T.2.1 (stp pl nb nq T).2.1 := by
  unfold stp
  cases e : nx pl T.1 nb T.2.1 nq T.2.2 with
  | none => exact fun _ _ _ _ => rfl
  | some b => exact fun x _ k hk => upB_o (Or.inr hk)
theorem SB.tr {B3 : BK} (h : SB nb B B2) (h2 : SB nb B2 B3) : SB nb B B3 := fun b hb k hk => (h2 b hb k hk).trans (h b hb k hk)
theorem run_keeps {P : BK → Bool} : ∀ (n : Nat) (T : T3), TI nb nq T → KP nb T.2.1 nq T.2.2 → RI f nb T.2.1 nq T.2.2 → KP nb (run pl nb nq P n T).2.2.1 nq (run pl nb nq P n T).2.2.2 ∧ RI f nb (run pl nb nq P n T).2.2.1 nq (run pl nb nq P n T).2.2.2 ∧ SB nb T.2.1 (run pl nb nq P n T).2.2.1
  | 0, T, _, h1, h2 => ⟨h1, h2, fun _ _ _ _ => rfl⟩
  | n + 1, T, hT, h1, h2 => by
    unfold run
    by_cases c : P T.2.2 = true ∨ ua nb T.2.1 = 0
    · rw [if_pos c]; exact ⟨h1, h2, fun _ _ _ _ => rfl⟩
    · rw [if_neg c]
      obtain ⟨a1, a2, a3⟩ := run_keeps (P := P) n (stp pl nb nq T) (TI_stp hT) (KP_stp hT h1) (RI_stp hT h2)
      exact ⟨a1, a2, SB_stp.tr a3⟩
end ST

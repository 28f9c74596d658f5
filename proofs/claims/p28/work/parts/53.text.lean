/-! THE LAW'S TEXT of a block, and that the class reads it back -/
/-- where the r-th value's sign stands -/
def eT (b t : Nat) (v : Nat → Nat) : Nat → Nat
  | 0 => 3 + nd b + nd t
  | r + 1 => eT b t v r + 1 + nd (v r)
/-- a text that holds the head and the first n values -/
def TX (tx : Nat → Int32) (l b t : Nat) (v : Nat → Nat) (n : Nat) : Prop := tx 0 = nI (48 + l) ∧ tx 1 = nI 58 ∧ dgs tx 2 b ∧ tx (2 + nd b) = nI 45 ∧ dgs tx (3 + nd b) t ∧ ∀ r, r < n → tx (eT b t v r) = (if r = 0 then nI 61 else nI 44) ∧ dgs tx (eT b t v r + 1) (v r)
section TW
variable {M : MM} {S : AS} {tl l b t n k r : Nat} {tx tx2 : Nat → Int32} {v : Nat → Nat} {h g : Int32}
theorem eT_b : ∀ n : Nat, eT b t v n ≤ 9 + 4 * n
  | 0 => by
    have h1 := nd_b (v := b)
    have h2 := nd_b (v := t)
    unfold eT
    omega
  | n + 1 => by
    have h1 := eT_b n
    have h2 := nd_b (v := v n)
    unfold eT
    omega
theorem eT_lt : ∀ n : Nat, r < n → eT b t v r + 1 + nd (v r) ≤ eT b t v n
  | 0, h => by omega
  | n + 1, h => by
    by_cases c : r = n
    · subst c; exact Nat.le_refl _
    · have h1 := eT_lt n (by omega)
      show _ ≤ eT b t v n + 1 + nd (v n)
      omega
theorem eT_0 : ∀ n : Nat, 3 + nd b + nd t ≤ eT b t v n
  | 0 => Nat.le_refl _
  | n + 1 => by
    have h1 := eT_0 n
    show _ ≤ eT b t v n + 1 + nd (v n)
    omega
theorem TX.fr (h : TX tx l b t v n) (e : ∀ i, i < eT b t v n → tx2 i = tx i) : TX tx2 l b t v n := by
  have hb := nd_b (v := b)
  have ht := nd_b (v := t)
  have h0 := eT_0 (b := b) (t := t) (v := v) n
  obtain ⟨a1, a2, a3, a4, a5, a6⟩ := h
  refine ⟨by rw [e 0 (by omega)]; exact a1, by rw [e 1 (by omega)]; exact a2, dgs_fr a3 (fun i hi => e i (by omega)), by rw [e _ (by omega)]; exact a4, dgs_fr a5 (fun i hi => e i (by omega)), fun r hr => ?_⟩
  have h1 := eT_lt (b := b) (t := t) (v := v) (r := r) n hr
  have h2 := nd_b (v := v r)
  exact ⟨by rw [e _ (by omega)]; exact (a6 r hr).1, dgs_fr (a6 r hr).2 (fun i hi => e i (by omega))⟩
/-- the values are read -/
theorem pV_w (hv : ∀ r, r < n → v r ≤ 999) (hT : TX tx l b t v n) : ∀ (j k : Nat) (w : Nat → Nat), k + j = n → 0 < j → ∀ d, ∃ w', pV (eT b t v n) tx (j + d) k (eT b t v k + 1) w = .inr (n, w') ∧ (∀ q, q < k → w' q = w q) ∧ ∀ q, k ≤ q → q < n → w' q = v q
  | 0, k, w, h1, h2, d => by omega
  | j + 1, k, w, h1, h2, d => by
    have hk : k < n := by omega
    have hd := (hT.2.2.2.2.2 k hk).2
    have hlt := eT_lt (b := b) (t := t) (v := v) (r := k) n hk
    have e1 : eT b t v (k + 1) = eT b t v k + 1 + nd (v k) := rfl
    rw [show j + 1 + d = (j + d) + 1 by omega]
    unfold pV
    by_cases c : k + 1 = n
    · have en : num (eT b t v n) tx (eT b t v k + 1) = some (v k, eT b t v k + 1 + nd (v k)) := num_w (c := 0) (hv k hk) hd hlt (Or.inl (by rw [← c, e1]; exact Nat.le_refl _))
      rw [en]
      have hle : eT b t v n ≤ eT b t v k + 1 + nd (v k) := by rw [← c, e1]; exact Nat.le_refl _
      simp only [if_pos hle]
      refine ⟨upV w k (v k), by rw [c], fun q hq => if_neg (by omega), fun q h3 h4 => ?_⟩
      have hq : q = k := by omega
      subst hq
      exact if_pos rfl
    · have hs := (hT.2.2.2.2.2 (k + 1) (by omega)).1
      rw [if_neg (by omega)] at hs
      have hlt2 := eT_lt (b := b) (t := t) (v := v) (r := k + 1) n (by omega)
      rw [e1] at hs hlt2
      have en : num (eT b t v n) tx (eT b t v k + 1) = some (v k, eT b t v k + 1 + nd (v k)) := num_w (c := 44) (hv k hk) hd hlt (Or.inr ⟨hs, by decide, by decide⟩)
      rw [en]
      have hc : isC (eT b t v n) tx (eT b t v k + 1 + nd (v k)) 44 = true := by
        unfold isC
        rw [Bool.and_eq_true, decide_eq_true_eq, decide_eq_true_eq]
        exact ⟨by omega, hs⟩
      have hnle : ¬ eT b t v n ≤ eT b t v k + 1 + nd (v k) := by omega
      have hj : ¬ j + d = 0 := by omega
      simp only [if_neg hnle, if_neg hj, if_pos hc]
      obtain ⟨w', q1, q2, q3⟩ := pV_w hv hT j (k + 1) (upV w k (v k)) (by omega) (by omega) d
      rw [e1] at q1
      refine ⟨w', q1, fun q hq => by rw [q2 q (by omega)]; exact if_neg (by omega), fun q h3 h4 => ?_⟩
      by_cases f : q = k
      · subst f
        rw [q2 q (by omega)]
        exact if_pos rfl
      · exact q3 q (by omega) h4
/-- the text is read -/
theorem pP_w (hl : l < 4) (hb : b ≤ 999) (ht : t ≤ 999) (hn : 1 ≤ n) (hn16 : n ≤ 16) (hv : ∀ r, r < n → v r ≤ 999) (hT : TX tx l b t v n) : ∃ w, pP (eT b t v n) tx = .inr (l, b, t, n, w) ∧ ∀ q, q < n → w q = v q := by
  have h0 := eT_0 (b := b) (t := t) (v := v) n
  have hnb := nd_b (v := b)
  have hnt := nd_b (v := t)
  obtain ⟨a1, a2, a3, a4, a5, a6⟩ := id hT
  have hlt := eT_lt (b := b) (t := t) (v := v) (r := 0) n (by omega)
  have e0 : eT b t v 0 = 3 + nd b + nd t := rfl
  have s0 := (a6 0 (by omega)).1
  rw [if_pos rfl, e0] at s0
  obtain ⟨d1, d2⟩ := isD_t (tl := eT b t v n) (i := 0) (by omega) a1 (by omega)
  have c1 : isC (eT b t v n) tx 1 58 = true := by
    unfold isC
    rw [Bool.and_eq_true, decide_eq_true_eq, decide_eq_true_eq]
    exact ⟨by omega, a2⟩
  have c2 : isC (eT b t v n) tx (2 + nd b) 45 = true := by
    unfold isC
    rw [Bool.and_eq_true, decide_eq_true_eq, decide_eq_true_eq]
    exact ⟨by omega, a4⟩
  have c3 : isC (eT b t v n) tx (3 + nd b + nd t) 61 = true := by
    unfold isC
    rw [Bool.and_eq_true, decide_eq_true_eq, decide_eq_true_eq]
    exact ⟨by omega, s0⟩
  have n1 : num (eT b t v n) tx 2 = some (b, 2 + nd b) := num_w (c := 45) hb a3 (by omega) (Or.inr ⟨a4, by decide, by decide⟩)
  have n2 : num (eT b t v n) tx (2 + nd b + 1) = some (t, 3 + nd b + nd t) := by
    rw [show 2 + nd b + 1 = 3 + nd b by omega]
    exact num_w (c := 61) ht a5 (by omega) (Or.inr ⟨s0, by decide, by decide⟩)
  obtain ⟨w, q1, q2, q3⟩ := pV_w hv hT n 0 (fun _ => 0) (Nat.zero_add n) (by omega) (16 - n)
  rw [e0, show n + (16 - n) = 16 by omega] at q1
  refine ⟨w, ?_, fun q hq => q3 q (Nat.zero_le _) hq⟩
  unfold pP
  have d3 : isD (eT b t v n) tx 0 = true ∧ l ≤ 3 := ⟨d1, by omega⟩
  simp only [d2, if_pos d3, if_pos c1, n1, if_pos c2, n2, if_pos c3, q1]
/-! the law writes it -/
theorem w70_s {k46 : MM → Int32 → Int32 → Option (Int32 × MM)} (hC : CI M S tl tx) (hk : k < 64) (ht : tl + 4 ≤ 80) : ∃ M' tx', f_L_write_L70 k46 h g M (nI r) (nI tl) (nI k) = k46 M' (nI (tl + 1 + nd (hV h g r))) (nI (r + 1)) ∧ M' 9 = M 9 ∧ CI M' S (tl + 1 + nd (hV h g r)) tx' ∧ tx' tl = nI k ∧ dgs tx' (tl + 1) (hV h g r) ∧ ∀ i, i < tl → tx' i = tx i := by
  have hb := hV_b (h := h) (g := g) (r := r)
  have h9 := hT_lt (h := h)
  have hn := nd_b (v := hV h g r)
  obtain ⟨M1, t1, p1, p2, p3, p4, p5⟩ := ltype_s hC (by omega) hk
  obtain ⟨M2, t2, q1, q2, q3, q4, q5⟩ := number_s (v := hV h g r) p3 (by omega) (by omega)
  refine ⟨M2, t2, ?_, q2.trans p2, q3, by rw [q5 tl (by omega)]; exact p4, q4, fun i hi => by rw [q5 i (by omega), p5 i hi]⟩
  unfold f_L_write_L70
  rw [p1, bd_some, valueOf_s, b1_some, q1, bd_some, nI_add]
theorem w46_s : ∀ (n r : Nat) (M : MM) (tx : Nat → Int32), r ≤ hR h → hR h < r + n → CI M S (eT (hB h) (hT h) (hV h g) r) tx → TX tx l (hB h) (hT h) (hV h g) r → ∃ M' tx', f_L_write_L46 h g n M (nI (eT (hB h) (hT h) (hV h g) r)) (nI r) = some (nI (eT (hB h) (hT h) (hV h g) (hR h)), M') ∧ M' 9 = M 9 ∧ CI M' S (eT (hB h) (hT h) (hV h g) (hR h)) tx' ∧ TX tx' l (hB h) (hT h) (hV h g) (hR h) := by
  have h9 := hR_b (h := h)
  intro n
  induction n with
  | zero => intro r M tx h1 h2; omega
  | succ n ih =>
    intro r M tx h1 h2 hC hX
    rw [f_L_write_L46.eq_2, rows_s, b1_some]
    by_cases c : r = hR h
    · subst c
      rw [ile_t (Nat.le_refl _) (by omega)]
      exact ⟨M, tx, rfl, rfl, hC, hX⟩
    · rw [ile_f (by omega) (by omega)]
      have hb := eT_b (b := hB h) (t := hT h) (v := hV h g) r
      have e1 : eT (hB h) (hT h) (hV h g) (r + 1) = eT (hB h) (hT h) (hV h g) r + 1 + nd (hV h g r) := rfl
      have key : ∀ k, k < 64 → nI k = (if r = 0 then nI 61 else nI 44) → ∃ M' tx', f_L_write_L70 (f_L_write_L46 h g n) h g M (nI r) (nI (eT (hB h) (hT h) (hV h g) r)) (nI k) = some (nI (eT (hB h) (hT h) (hV h g) (hR h)), M') ∧ M' 9 = M 9 ∧ CI M' S (eT (hB h) (hT h) (hV h g) (hR h)) tx' ∧ TX tx' l (hB h) (hT h) (hV h g) (hR h) := by
        intro k hk ek
        obtain ⟨M1, t1, p1, p2, p3, p4, p5, p6⟩ := w70_s (h := h) (g := g) (r := r) (k46 := f_L_write_L46 h g n) hC hk (by omega)
        rw [← e1] at p1 p3
        obtain ⟨a1, a2, a3, a4, a5, a6⟩ := hX.fr (tx2 := t1) p6
        obtain ⟨M2, t2, q1, q2, q3, q4⟩ := ih (r + 1) M1 t1 (by omega) (by omega) p3 ⟨a1, a2, a3, a4, a5, fun x hx => by
          by_cases d : x = r
          · subst d
            exact ⟨by rw [p4, ek], p5⟩
          · exact a6 x (by omega)⟩
        exact ⟨M2, t2, by rw [p1]; exact q1, q2.trans p2, q3, q4⟩
      by_cases d : r = 0
      · rw [if_pos (show nI r = nI 0 by rw [d])]
        exact key 61 (by decide) (by rw [if_pos d])
      · rw [ieq_f d (by omega) (by decide)]
        exact key 44 (by decide) (by rw [if_neg d])
theorem write_s (hC : CI M S 0 tx) : ∃ M' tx', f_L_write M h g = some (nI (eT (hB h) (hT h) (hV h g) (hR h)), M') ∧ M' 9 = M 9 ∧ CI M' S (eT (hB h) (hT h) (hV h g) (hR h)) tx' ∧ TX tx' (hL h) (hB h) (hT h) (hV h g) (hR h) := by
  have l4 := hL_lt (h := h)
  have hb := hB_lt (h := h)
  have ht := hT_lt (h := h)
  have nb := nd_b (v := hB h)
  have nt := nd_b (v := hT h)
  have h9 := hR_b (h := h)
  obtain ⟨M1, t1, a1, a2, a3, a4, a5⟩ := ltype_s (k := 48 + hL h) hC (by decide) (by omega)
  obtain ⟨M2, t2, b1, b2, b3, b4, b5⟩ := ltype_s (k := 58) a3 (by decide) (by decide)
  obtain ⟨M3, t3, c1, c2, c3, c4, c5⟩ := number_s (v := hB h) b3 (by omega) (by omega)
  obtain ⟨M4, t4, d1, d2, d3, d4, d5⟩ := ltype_s (k := 45) c3 (by omega) (by decide)
  obtain ⟨M5, t5, e1, e2, e3, e4, e5⟩ := number_s (v := hT h) d3 (by omega) (by omega)
  have e0 : 0 + 1 + 1 + nd (hB h) + 1 + nd (hT h) = eT (hB h) (hT h) (hV h g) 0 := by
    show _ = 3 + nd (hB h) + nd (hT h)
    omega
  have x3 : 0 + 1 + 1 + nd (hB h) + 1 = 3 + nd (hB h) := by omega
  have x2 : 0 + 1 + 1 + nd (hB h) = 2 + nd (hB h) := by omega
  rw [x2] at d4 d5
  rw [x3] at e4 e5
  rw [e0] at e1 e3
  obtain ⟨M6, t6, g1, g2, g3, g4⟩ := w46_s (l := hL h) (g := g) FU 0 M5 t5 (Nat.zero_le _) (by rw [FU_eq]; omega) e3 ⟨by rw [e5 0 (by omega), d5 0 (by omega), c5 0 (by omega), b5 0 (by omega), a4], by rw [e5 1 (by omega), d5 1 (by omega), c5 1 (by omega)]; exact b4, dgs_fr c4 (fun i hi => by rw [e5 i (by omega), d5 i (by omega)]), by rw [e5 _ (by omega)]; exact d4, e4, fun r hr => by omega⟩
  refine ⟨M6, t6, ?_, (((((g2.trans e2).trans d2).trans c2).trans b2).trans a2), g3, g4⟩
  unfold f_L_write
  rw [layer_s, b1_some, nI_add, a1, bd_some, b1, bd_some, bottom_s, b1_some, c1, bd_some, d1, bd_some, top_s, b1_some, e1, bd_some]
  exact g1
end TW

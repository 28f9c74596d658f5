/-! BUILT: blocks and questions by the cells -/
section BU
variable {M : MM} {m : SM} {nb nq pl tu b q r how ls n tl L i j : Nat} {B Q : BK} {tx xs : Nat → Int32} {S : AS} {x2 x3 x4 : Int32}
theorem CI_0 {B Q : BK} : CI (fun _ _ _ => 0) (0, 0, 0, 0, B, Q) 0 tx :=
  ⟨⟨⟨by show (0 : Nat) ≤ 8; decide, fun b hb => absurd hb (Nat.not_lt_zero b)⟩, ⟨by show (0 : Nat) ≤ 6; decide, fun b hb => absurd hb (Nat.not_lt_zero b)⟩, by show (0 : Nat) ≤ 2; decide, by show (0 : Nat) < 8; decide, fun b hb => absurd hb (Nat.not_lt_zero b)⟩, ⟨⟨rfl, fun b hb => absurd hb (Nat.not_lt_zero b)⟩, ⟨rfl, fun b hb => absurd hb (Nat.not_lt_zero b)⟩, ⟨rfl, rfl⟩, fun b hb => absurd hb (Nat.not_lt_zero b)⟩, ⟨0, 0, fun _ => (0, 0, 0, 0, fun _ _ => 0, fun _ _ => 0), by decide, rfl, rfl, by decide, fun b hb => absurd hb (Nat.not_lt_zero b)⟩, by decide, ⟨rfl, fun b hb => absurd hb (Nat.not_lt_zero b)⟩⟩
theorem stl_k {k : Nat} (hk : k < 4) : stl nb B i Q q k = Q q k := by
  unfold stl
  by_cases c : q < i ∧ stB nb B (Q q) = true
  · rw [if_pos c]
    unfold setq
    rw [if_neg (by omega), if_neg (by omega), if_neg (by omega), if_neg (by omega)]
  · rw [if_neg c]
theorem b286 {k175 : MM → Int32 → Int32 → Int32 → Int32 → Option (Int32 × MM)} {kd ly li to : Nat} (h : CI M (nb, j, pl, tu, B, Q) tl tx) (hK : KP nb B j Q) (hj : j < 6) (hk : kd ≤ 4) (hl1 : 1 ≤ ly) (hl2 : ly ≤ 15) (hli : li ≤ (if kd = 1 then 999 else 0)) (ht : to ≤ 99999) : ∃ M' Q', f_L_build_L286 k175 L xs M x2 x3 x4 (nI j) (nI kd) (nI ly) (nI li) (nI to) = k175 M' x2 x3 x4 (nI (j + 1)) ∧ M' 9 = M 9 ∧ CI M' (nb, j + 1, pl, tu, B, Q') tl tx ∧ KP nb B (j + 1) Q' := by
  obtain ⟨M1, Q2, p1, p2, p3, k0, k1, k2, k3, k4, ko⟩ := o_ask h hj hk hl1 hl2 hli ht
  have e0 := o_quest (k := 0) p3 (q := j) (by omega) (by decide)
  have e1 := o_quest (k := 1) p3 (q := j) (by omega) (by decide)
  have e2 := o_quest (k := 2) p3 (q := j) (by omega) (by decide)
  have e3 := o_quest (k := 3) p3 (q := j) (by omega) (by decide)
  rw [stl_k (by decide), k0] at e0
  rw [stl_k (by decide), k1] at e1
  rw [stl_k (by decide), k2] at e2
  rw [stl_k (by decide), k3] at e3
  refine ⟨M1, _, ?_, p2, p3, KP_stl h.bi (fun x hx => ?_)⟩
  · unfold f_L_build_L286
    rw [p1, bd_some, ieq_t rfl, e0, b1_some, ieq_t rfl, e1, b1_some, ieq_t rfl, e2, b1_some, ieq_t rfl, e3, b1_some, ieq_t rfl, nI_add]
  · by_cases c : x = j
    · subst c
      intro z
      rw [k4] at z
      exact absurd z (by decide)
    · rw [ko x c]
      exact hK x (by omega)
theorem b235 {k175 : MM → Int32 → Int32 → Int32 → Int32 → Option (Int32 × MM)} {h : Int32} {kd ly li : Nat} (hC : CI M (nb, j, pl, tu, B, Q) tl tx) (hK : KP nb B j Q) (hj : j < 6) (hk : kd ≤ 4) (hl1 : 1 ≤ ly) (hl2 : ly ≤ 15) (hli : li ≤ (if kd = 1 then 999 else 0)) : ∃ M' Q', f_L_build_L235 k175 L xs M x2 x3 x4 (nI j) h (nI kd) (nI ly) (nI li) = k175 M' x2 x3 x4 (nI (j + 1)) ∧ M' 9 = M 9 ∧ CI M' (nb, j + 1, pl, tu, B, Q') tl tx ∧ KP nb B (j + 1) Q' := by
  have l4 : lo (h >>> (nI 17 &&& 31)) 4 < 4 := lo_lt (by decide)
  unfold f_L_build_L235
  rw [low_s (by decide) (by decide), b1_some]
  by_cases c : lo (h >>> (nI 17 &&& 31)) 4 = 0
  · rw [c, ieq_t rfl]
    exact b286 hC hK hj hk hl1 hl2 hli (Nat.zero_le _)
  · rw [ieq_f c (by omega) (by decide)]
    unfold f_L_build_L283
    by_cases k1 : kd = 1
    · have l5 : lo (h >>> (nI 19 &&& 31)) 5 < 5 := lo_lt (by decide)
      rw [ieq_t k1, low_s (by decide) (by decide), b1_some]
      exact b286 hC hK hj hk hl1 hl2 hli (by omega)
    · rw [ieq_f k1 (by omega) (by decide)]
      by_cases k4 : kd = 4
      · have l5 : lo (h >>> (nI 19 &&& 31)) 3000 < 3000 := lo_lt (by decide)
        rw [ieq_t k4, low_s (by decide) (by decide), b1_some]
        exact b286 hC hK hj hk hl1 hl2 hli (by omega)
      · have l5 : lo (h >>> (nI 19 &&& 31)) 300 < 300 := lo_lt (by decide)
        rw [ieq_f k4 (by omega) (by decide), low_s (by decide) (by decide), b1_some]
        exact b286 hC hK hj hk hl1 hl2 hli (by omega)
theorem sumTo_0 {f : Nat → Nat} : ∀ n : Nat, (∀ i, i < n → f i = 0) → sumTo f n = 0
  | 0, _ => rfl
  | n + 1, h => by
    show sumTo f n + f n = 0
    rw [sumTo_0 n (fun i hi => h i (by omega)), h n (by omega)]
theorem b394 {s : Int32} (h : CI M (nb, nq, pl, tu, B, Q) tl tx) (h0 : ∀ b, b < nb → B b 4 = 0) : f_L_build_L394 L xs M (nI nb) (nI (sumTo (fun b => B b 3) nb)) (nI nq) s s = some (nI 1, M) := by
  unfold f_L_build_L394
  rw [if_pos rfl, o_count0 h, b1_some, ieq_t rfl, o_count1 h, b1_some, ieq_t rfl, o_count4 h, b1_some, ieq_t rfl, o_count5 h, b1_some, sumTo_0 nb h0, ieq_t rfl]
theorem b361 (h : CI M (nb, nq, 0, tu, B, Q) tl tx) (hL31 : L < 2 ^ 31) (h0 : ∀ b, b < nb → B b 4 = 0) : ∃ M' pl, f_L_build_L361 L xs M (nI nb) (nI (sumTo (fun b => B b 3) nb)) (nI nq) = some (nI 1, M') ∧ M' 9 = M 9 ∧ CI M' (nb, nq, pl, tu, B, Q) tl tx := by
  have l3 : lo (ce L xs 23) 3 < 3 := lo_lt (by decide)
  unfold f_L_build_L361
  rw [cell_s hL31 (by decide), b1_some, low_s (by decide) (by decide), b1_some]
  by_cases c : lo (ce L xs 23) 3 = 0
  · have e := o_setPlan0 h (p := lo (ce L xs 23) 3) (by omega) c.symm
    rw [e, bd_some, ieq_t c]
    exact ⟨M, 0, b394 h h0, rfl, h⟩
  · obtain ⟨M1, p1, p2, p3⟩ := o_setPlan h (p := lo (ce L xs 23) 3) (by omega) (fun z => c z.symm)
    rw [p1, bd_some, ieq_f c (by omega) (by decide)]
    exact ⟨M1, _, b394 p3 h0, p2, p3⟩
theorem b175 (hL31 : L < 2 ^ 31) (h0 : ∀ b, b < nb → B b 4 = 0) (hnq : nq ≤ 5) : ∀ n j M Q, j ≤ nq → nq < j + n → CI M (nb, j, 0, tu, B, Q) tl tx → KP nb B j Q → ∃ M' Q' pl, f_L_build_L175 L xs n M (nI nb) (nI (sumTo (fun b => B b 3) nb)) (nI nq) (nI j) = some (nI 1, M') ∧ M' 9 = M 9 ∧ CI M' (nb, nq, pl, tu, B, Q') tl tx ∧ KP nb B nq Q' := by
  intro n
  induction n with
  | zero => intro j M Q h1 h2; omega
  | succ n ih =>
    intro j M Q h1 h2 hC hK
    rw [f_L_build_L175.eq_2]
    by_cases c : j = nq
    · subst c
      rw [ile_t (Nat.le_refl _) (by omega)]
      obtain ⟨M', pl, p1, p2, p3⟩ := b361 hC hL31 h0
      exact ⟨M', Q, pl, p1, p2, p3, hK⟩
    · have l5 : lo (ce L xs (18 + j)) 5 < 5 := lo_lt (by decide)
      have l15 : lo (ce L xs (18 + j) >>> (nI 3 &&& 31)) 15 < 15 := lo_lt (by decide)
      have l7 : lo (ce L xs (18 + j) >>> (nI 7 &&& 31)) 700 < 700 := lo_lt (by decide)
      have key : ∀ li, li ≤ (if lo (ce L xs (18 + j)) 5 = 1 then 999 else 0) → ∃ M' Q' pl, f_L_build_L235 (f_L_build_L175 L xs n) L xs M (nI nb) (nI (sumTo (fun b => B b 3) nb)) (nI nq) (nI j) (ce L xs (18 + j)) (nI (lo (ce L xs (18 + j)) 5)) (nI (1 + lo (ce L xs (18 + j) >>> (nI 3 &&& 31)) 15)) (nI li) = some (nI 1, M') ∧ M' 9 = M 9 ∧ CI M' (nb, nq, pl, tu, B, Q') tl tx ∧ KP nb B nq Q' := by
        intro li hli
        obtain ⟨M1, Q1, p1, p2, p3, p4⟩ := b235 (k175 := f_L_build_L175 L xs n) (L := L) (xs := xs) (x2 := nI nb) (x3 := nI (sumTo (fun b => B b 3) nb)) (x4 := nI nq) (h := ce L xs (18 + j)) (kd := lo (ce L xs (18 + j)) 5) (ly := 1 + lo (ce L xs (18 + j) >>> (nI 3 &&& 31)) 15) (li := li) hC hK (by omega) (by omega) (by omega) (by omega) hli
        obtain ⟨M2, Q2, pl, q1, q2, q3⟩ := ih (j + 1) M1 Q1 (by omega) (by omega) p3 p4
        exact ⟨M2, Q2, pl, by rw [p1]; exact q1, q2.trans p2, q3⟩
      rw [ile_f (by omega) (by omega), nI_add, cell_s hL31 (by omega), b1_some, low_s (by decide) (by decide), b1_some, low_s (by decide) (by decide), b1_some, nI_add]
      by_cases k1 : lo (ce L xs (18 + j)) 5 = 1
      · rw [ieq_t k1, low_s (by decide) (by decide), b1_some]
        exact key _ (by rw [if_pos k1]; omega)
      · rw [ieq_f k1 (by omega) (by decide)]
        exact key 0 (Nat.zero_le _)
theorem b158 (hC : CI M (nb, 0, 0, tu, B, Q) tl tx) (hL31 : L < 2 ^ 31) (h0 : ∀ b, b < nb → B b 4 = 0) : ∃ M' Q' nq pl, f_L_build_L158 L xs M (nI nb) (nI (sumTo (fun b => B b 3) nb)) = some (nI 1, M') ∧ M' 9 = M 9 ∧ 1 ≤ nq ∧ CI M' (nb, nq, pl, tu, B, Q') tl tx ∧ KP nb B nq Q' := by
  have l5 : lo (ce L xs 17) 5 < 5 := lo_lt (by decide)
  unfold f_L_build_L158
  rw [cell_s hL31 (by decide), b1_some, low_s (by decide) (by decide), b1_some, nI_add]
  obtain ⟨M', Q', pl, p1, p2, p3⟩ := b175 (L := L) (xs := xs) (nq := 1 + lo (ce L xs 17) 5) hL31 h0 (by omega) FU 0 M Q (Nat.zero_le _) (by rw [FU_eq]; omega) hC (fun q hq => absurd hq (Nat.not_lt_zero q))
  exact ⟨M', Q', _, pl, p1, p2, by omega, p3⟩
theorem b18 (hL31 : L < 2 ^ 31) {N : Nat} (hN : N ≤ 7) : ∀ n i M B tx, i ≤ N → N < i + n → CI M (i, 0, 0, 0, B, Q) 0 tx → BS L xs i B → (∀ b, b < i → B b 4 = 0) → ∃ M' B' Q' nq pl tx', f_L_build_L18 L xs n M (nI N) (nI (sumTo (fun b => B b 3) i)) (nI i) = some (nI 1, M') ∧ M' 9 = M 9 ∧ 1 ≤ nq ∧ CI M' (N, nq, pl, 0, B', Q') 0 tx' ∧ KP N B' nq Q' ∧ BS L xs N B' := by
  intro n
  induction n with
  | zero => intro i M B tx h1 h2; omega
  | succ n ih =>
    intro i M B tx h1 h2 hC hS h0
    rw [f_L_build_L18.eq_2]
    by_cases c : i = N
    · subst c
      rw [ile_t (Nat.le_refl _) (by omega)]
      obtain ⟨M', Q', nq, pl, p1, p2, p3, p4, p5⟩ := b158 (L := L) (xs := xs) hC hL31 h0
      exact ⟨M', B, Q', nq, pl, tx, p1, p2, p3, p4, p5, hS⟩
    · rw [ile_f (by omega) (by omega), nI_mul, nI_add, cell_s hL31 (by omega), b1_some, nI_add, cell_s hL31 (by omega), b1_some]
      generalize hh : ce L xs (1 + 2 * i) = h
      generalize hg : ce L xs (2 + 2 * i) = g
      have xB := hB_lt (h := h)
      have xT := hT_lt (h := h)
      have xBT := hBT (h := h)
      have xR := hR_b (h := h)
      have xL := hL_lt (h := h)
      obtain ⟨M1, t1, a1, a2, a3, a4⟩ := write_s (h := h) (g := g) hC
      obtain ⟨w, b1', b2⟩ := pP_w (l := hL h) (b := hB h) (t := hT h) (v := hV h g) (n := hR h) xL (by omega) (by omega) xR.1 (by omega) (fun r hr => by have := hV_b (h := h) (g := g) (r := r); omega) a4
      obtain ⟨M2, B2, c1, c2, c3, f0, f1, f2, f3, f4, f5, fo⟩ := o_addBlock a3 b1' ⟨xBT, fun q hq => by rw [b2 q hq]; exact hV_b⟩ (by omega)
      obtain ⟨M3, d1, d2, d3⟩ := o_clear c3
      have c3' : CI M3 (i + 1, 0, 0, 0, B2, Q) 0 t1 := by rw [stl_0] at d3; exact d3
      have g0 := o_block (k := 0) c3' (b := i) (by omega) (by decide)
      have g1 := o_block (k := 1) c3' (b := i) (by omega) (by decide)
      have g2 := o_block (k := 2) c3' (b := i) (by omega) (by decide)
      have g3 := o_block (k := 3) c3' (b := i) (by omega) (by decide)
      have g4 := o_block (k := 4) c3' (b := i) (by omega) (by decide)
      rw [f0] at g0
      rw [f1] at g1
      rw [f2] at g2
      rw [f3] at g3
      rw [f4] at g4
      rw [a1, bd_some, rows_s, b1_some, c1, bd_some, ieq_t rfl, d1, bd_some, ieq_t rfl, g0, b1_some, layer_s, b1_some, ieq_t rfl, g1, b1_some, bottom_s, b1_some, ieq_t rfl, g2, b1_some, top_s, b1_some, ieq_t rfl, g3, b1_some, b1_some, ieq_t rfl, g4, b1_some, ieq_t rfl, nI_add, nI_add]
      have es : sumTo (fun b => B b 3) i + hR h = sumTo (fun b => B2 b 3) (i + 1) := by
        show _ = sumTo (fun b => B2 b 3) i + B2 i 3
        rw [f3]
        congr 1
        exact sumTo_congr _ (fun x hx => by show B x 3 = B2 x 3; rw [fo x (by omega)])
      rw [es]
      obtain ⟨M', B', Q', nq, pl, tx', p1, p2, p3⟩ := ih (i + 1) M3 B2 t1 (by omega) (by omega) c3' (fun b hb => by
        by_cases d : b = i
        · subst d
          rw [hh, hg]
          exact ⟨f0, f1, f2, f3, fun r hr => by rw [f5 r hr, b2 r hr]⟩
        · rw [fo b d]
          exact hS b (by omega)) (fun b hb => by
        by_cases d : b = i
        · subst d; exact f4
        · rw [fo b d]
          exact h0 b (by omega))
      exact ⟨M', B', Q', nq, pl, tx', p1, ((p2.trans d2).trans c2).trans a2, p3⟩
theorem build_s (hL31 : L < 2 ^ 31) : ∃ M' nb nq pl B Q tx, f_L_build (fun _ _ _ => 0) L xs = some (nI 1, M') ∧ 1 ≤ nq ∧ CI M' (nb, nq, pl, 0, B, Q) 0 tx ∧ KP nb B nq Q ∧ BS L xs nb B := by
  have l7 : lo (ce L xs 0) 7 < 7 := lo_lt (by decide)
  obtain ⟨M', B', Q', nq, pl, tx', p1, p2, p3, p4⟩ := b18 (L := L) (xs := xs) (Q := fun _ _ => 0) (N := 1 + lo (ce L xs 0) 7) hL31 (by omega) FU 0 (fun _ _ _ => 0) (fun _ _ => 0) (fun _ => 0) (Nat.zero_le _) (by rw [FU_eq]; omega) CI_0 (fun b hb => absurd hb (Nat.not_lt_zero b)) (fun b hb => absurd hb (Nat.not_lt_zero b))
  refine ⟨M', _, nq, pl, B', Q', tx', ?_, p3, p4⟩
  unfold f_L_build
  rw [cell_s hL31 (by decide), b1_some, low_s (by decide) (by decide), b1_some, nI_add]
  exact p1
end BU

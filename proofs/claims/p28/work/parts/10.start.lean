/-! THE START: where the cells lie that the two constructors make, and that they are the world with nothing but zeros -/
def soff (c : Nat) : Nat := if c < 3 then c else if c < 11 then 3 + 2 * (c - 3) else if c < 19 then 4 + 2 * (c - 11) else c
def goff (g : Nat) : Nat := if g = 0 then 4 else if g = 1 then 29 else if g = 2 then 54 else 81 + 25 * (g - 3)
def aoff (g c : Nat) : Nat := if g < 7 then goff g + soff c else if g = 7 then 1 + c else if g = 8 then (if c = 0 then 0 else 78 + c) else 181 + c
def adO (o : Nat) : Nat → Nat → Nat := fun g c => o + aoff g c
theorem aoff_nd : (vids.map (fun q => aoff q.1 q.2)).Nodup := by decide +kernel
theorem CV_adO {o : Nat} : CV (adO o) := by
  intro q hq q2 hq2 h
  have h : aoff q.1 q.2 = aoff q2.1 q2.2 := by
    have h : o + aoff q.1 q.2 = o + aoff q2.1 q2.2 := h
    omega
  obtain ⟨i, hi⟩ := List.getElem?_of_mem hq
  obtain ⟨j, hj⟩ := List.getElem?_of_mem hq2
  have e1 : (vids.map (fun q => aoff q.1 q.2))[i]? = some (aoff q.1 q.2) := by rw [List.getElem?_map, hi]; rfl
  have e2 : (vids.map (fun q => aoff q.1 q.2))[j]? = some (aoff q2.1 q2.2) := by rw [List.getElem?_map, hj]; rfl
  have e3 : i = j := (List.getElem?_inj (List.getElem?_eq_some_iff.mp e1).1 aoff_nd).mp (by rw [e1, e2, h])
  subst e3
  exact Option.some.inj (hi.symm.trans hj)
theorem cell_rfs {cA : ClassId} {n : Nat} {f g : Nat → Option Nat} (h : ∀ k, k < n → f k = g k) : vp_cell cA (n, rfs f) = vp_cell cA (n, rfs g) := by
  show vp_cell cA (n, .inr (.inr (.inr (.inr f)))) = vp_cell cA (n, .inr (.inr (.inr (.inr g))))
  rw [vp_cell_q, vp_cell_q]
  unfold arrV
  congr 2
  funext j
  show va_rf (f j.val) = va_rf (g j.val)
  rw [h j.val j.isLt]
theorem at_rfs {D : va_G} {a n : Nat} {cA : ClassId} {f g : Nat → Option Nat} {H : Heap} (h : ∀ k, k < n → f k = g k) (hw : va_at D vwCl (a, .inl (cA, n, rfs f)) H) : va_at D vwCl (a, .inl (cA, n, rfs g)) H := by
  have hw : H[a]? = some (vp_cell cA (n, rfs f)) := hw
  show H[a]? = some (vp_cell cA (n, rfs g))
  rw [hw, cell_rfs h]
theorem vids_cases {g c : Nat} (h : (g, c) ∈ vids) : (g < 7 ∧ c < 25) ∨ (g = 7 ∧ c < 3) ∨ (g = 8 ∧ c < 3) ∨ (g = 9 ∧ c < 1) := by
  unfold vids at h
  simp only [List.mem_append, List.mem_flatMap, List.mem_map, List.mem_range, Prod.mk.injEq] at h
  rcases h with ⟨a, ha, b, hb, rfl, rfl⟩ | ⟨b, hb, rfl, rfl⟩ | ⟨b, hb, rfl, rfl⟩ | ⟨b, hb, rfl, rfl⟩
  · exact Or.inl ⟨ha, hb⟩
  · exact Or.inr (Or.inl ⟨rfl, hb⟩)
  · exact Or.inr (Or.inr (Or.inl ⟨rfl, hb⟩))
  · exact Or.inr (Or.inr (Or.inr ⟨rfl, hb⟩))
/-- a made state is the world's group, at its place -/
theorem st_at {D : va_G} {cy : Nat → ClassId} {H : Heap} {o g b c : Nat} (hg : g < 7) (hc : c < 25) (hb : b = o + goff g) (hw : ∀ d e, d < 25 → stP cy b 8 6 d = some e → va_at D vwCl (b + d, e) H) : va_at D vwCl (adO o g c, E cy (adO o) (g, c) (fun _ => 0)) H := by
  have ea : ∀ k, adO o g k = b + soff k := fun k => by
    show o + aoff g k = _
    unfold aoff
    rw [if_pos hg, hb]
    omega
  by_cases h0 : c = 0
  · subst h0
    rw [E_st hg, ea 0, ea 1, ea 2]
    exact hw 0 _ (by decide) rfl
  · by_cases h1 : c = 1
    · subst h1
      rw [E_ba hg, ea 1]
      refine at_rfs (f := fun k => if k < 8 then some (b + 3 + 2 * k) else none) (fun k hk => ?_) (hw 1 _ (by decide) rfl)
      have e : soff (3 + k) = 3 + 2 * k := by
        unfold soff
        rw [if_neg (by omega), if_pos (by omega)]
        omega
      rw [if_pos hk, ea (3 + k), e]
      congr 1
      omega
    · by_cases h2 : c = 2
      · subst h2
        rw [E_qa hg, ea 2]
        refine at_rfs (f := fun k => if k < 6 then some (b + 19 + k) else none) (fun k hk => ?_) (hw 2 _ (by decide) rfl)
        have e : soff (19 + k) = 19 + k := by
          unfold soff
          rw [if_neg (by omega), if_neg (by omega), if_neg (by omega)]
        rw [if_pos hk, ea (19 + k), e]
        congr 1
        omega
      · by_cases h3 : c < 11
        · obtain ⟨i, rfl⟩ : ∃ i, c = 3 + i := ⟨c - 3, by omega⟩
          have hi : i < 8 := by omega
          have e : soff (3 + i) = 3 + 2 * i := by
            unfold soff
            rw [if_neg (by omega), if_pos (by omega)]
            omega
          have e2 : soff (11 + i) = 3 + 2 * i + 1 := by
            unfold soff
            rw [if_neg (by omega), if_neg (by omega), if_pos (by omega)]
            omega
          rw [E_bk hg hi, ea (3 + i), ea (11 + i), e, e2]
          refine hw (3 + 2 * i) _ (by omega) ?_
          have q1 : ¬ (3 + 2 * i = 0) := by omega
          have q2 : ¬ (3 + 2 * i = 1) := by omega
          have q3 : ¬ (3 + 2 * i = 2) := by omega
          have q4 : 3 + 2 * i < 19 := by omega
          have q5 : (3 + 2 * i) % 2 = 1 := by omega
          simp only [stP, q1, q2, q3, q4, q5, if_true, if_false]
          rfl
        · by_cases h4 : c < 19
          · obtain ⟨i, rfl⟩ : ∃ i, c = 11 + i := ⟨c - 11, by omega⟩
            have hi : i < 8 := by omega
            have e : soff (11 + i) = 4 + 2 * i := by
              unfold soff
              rw [if_neg (by omega), if_neg (by omega), if_pos (by omega)]
              omega
            rw [E_va hg hi, ea (11 + i), e]
            refine hw (4 + 2 * i) _ (by omega) ?_
            have q1 : ¬ (4 + 2 * i = 0) := by omega
            have q2 : ¬ (4 + 2 * i = 1) := by omega
            have q3 : ¬ (4 + 2 * i = 2) := by omega
            have q4 : 4 + 2 * i < 19 := by omega
            have q5 : ¬ (4 + 2 * i) % 2 = 1 := by omega
            simp only [stP, q1, q2, q3, q4, q5, if_true, if_false]
          · obtain ⟨i, rfl⟩ : ∃ i, c = 19 + i := ⟨c - 19, by omega⟩
            have e : soff (19 + i) = 19 + i := by
              unfold soff
              rw [if_neg (by omega), if_neg (by omega), if_neg (by omega)]
            rw [E_qu hg, ea (19 + i), e]
            refine hw (19 + i) _ (by omega) ?_
            have q1 : ¬ (19 + i = 0) := by omega
            have q2 : ¬ (19 + i = 1) := by omega
            have q3 : ¬ (19 + i = 2) := by omega
            have q4 : ¬ (19 + i < 19) := by omega
            simp only [stP, q1, q2, q3, q4, if_false]
theorem wh_start {D : va_G} {cy : Nat → ClassId} {f : Nat → Option va_E} {o : Nat} {H : Heap} (hx : XW D (ov f o 181 (mnO cy o)) H) (hy : XW D (fu f (o + 181) (.inl (cy 0, 18, .inl (fun _ => 0)))) H) : WH D cy (adO o) (fun _ _ _ => 0) H := by
  have hm : ∀ d e, d < 181 → mnO cy o d = some e → va_at D vwCl (o + d, e) H := fun d e hd he => hx _ _ ((ov_in hd).trans he)
  intro k q hk
  unfold wl at hk
  rw [List.getElem?_map] at hk
  cases hv : vids[k]? with
  | none => rw [hv] at hk; cases hk
  | some v =>
    rw [hv] at hk
    cases hk
    obtain ⟨g, c⟩ := v
    show va_at D vwCl (adO o g c, E cy (adO o) (g, c) (fun _ => 0)) H
    have hhi : ∀ d e, d < 102 → hiP cy (o + 79) 4 d = some e → va_at D vwCl (o + (79 + d), e) H := fun d e hd he => hm (79 + d) e (by omega) (by
      unfold mnO
      rw [if_neg (by omega), if_neg (by omega), if_neg (by omega), if_neg (by omega), if_neg (by omega), Nat.add_sub_cancel_left]
      exact he)
    rcases vids_cases (List.mem_of_getElem? hv) with ⟨hg, hc⟩ | ⟨rfl, hc⟩ | ⟨rfl, hc⟩ | ⟨rfl, hc⟩
    · refine st_at hg hc rfl (fun d e hd he => ?_)
      by_cases g0 : g = 0
      · subst g0
        have he : stP cy (o + 4) 8 6 d = some e := he
        show va_at D vwCl (o + 4 + d, e) H
        rw [show o + 4 + d = o + (4 + d) by omega]
        refine hm (4 + d) e (by omega) ?_
        unfold mnO
        rw [if_neg (by omega), if_neg (by omega), if_pos (by omega), Nat.add_sub_cancel_left]
        exact he
      · by_cases g1 : g = 1
        · subst g1
          have he : stP cy (o + 29) 8 6 d = some e := he
          show va_at D vwCl (o + 29 + d, e) H
          rw [show o + 29 + d = o + (29 + d) by omega]
          refine hm (29 + d) e (by omega) ?_
          unfold mnO
          rw [if_neg (by omega), if_neg (by omega), if_neg (by omega), if_pos (by omega), Nat.add_sub_cancel_left]
          exact he
        · by_cases g2 : g = 2
          · subst g2
            have he : stP cy (o + 54) 8 6 d = some e := he
            show va_at D vwCl (o + 54 + d, e) H
            rw [show o + 54 + d = o + (54 + d) by omega]
            refine hm (54 + d) e (by omega) ?_
            unfold mnO
            rw [if_neg (by omega), if_neg (by omega), if_neg (by omega), if_neg (by omega), if_pos (by omega), Nat.add_sub_cancel_left]
            exact he
          · have eg : goff g = 81 + 25 * (g - 3) := by
              unfold goff
              rw [if_neg g0, if_neg g1, if_neg g2]
            rw [eg] at he ⊢
            rw [show o + (81 + 25 * (g - 3)) + d = o + (79 + (2 + 25 * (g - 3) + d)) by omega]
            refine hhi (2 + 25 * (g - 3) + d) e (by omega) ?_
            have q1 : (2 + 25 * (g - 3) + d - 2) / 25 = g - 3 := by omega
            have q2 : (2 + 25 * (g - 3) + d - 2) % 25 = d := by omega
            unfold hiP
            rw [if_neg (by omega), if_neg (by omega), q1, q2, show o + 79 + 2 + 25 * (g - 3) = o + (81 + 25 * (g - 3)) by omega]
            exact he
    · have ea : ∀ c, c < 3 → adO o 7 c = o + (1 + c) := fun c _ => rfl
      have ht : ∀ d e, d < 3 → txO cy (o + 1) d = some e → va_at D vwCl (o + (1 + d), e) H := fun d e hd he => hm (1 + d) e (by omega) (by
        unfold mnO
        rw [if_neg (by omega), if_pos (by omega), Nat.add_sub_cancel_left]
        exact he)
      have h3 : c = 0 ∨ c = 1 ∨ c = 2 := by omega
      rcases h3 with rfl | rfl | rfl
      · rw [E_tx]
        exact ht 0 _ (by decide) rfl
      · rw [E_tc]
        exact ht 1 _ (by decide) rfl
      · rw [E_tv]
        exact ht 2 _ (by decide) rfl
    · have h3 : c = 0 ∨ c = 1 ∨ c = 2 := by omega
      rcases h3 with rfl | rfl | rfl
      · rw [E_mn]
        exact hm 0 _ (by decide) rfl
      · rw [E_hi]
        exact hhi 0 _ (by decide) rfl
      · rw [E_sa]
        refine at_rfs (f := fun k => if k < 4 then some (o + 79 + 2 + 25 * k) else none) (fun k hk => ?_) (hhi 1 _ (by decide) rfl)
        rw [if_pos hk]
        congr 1
        show o + 79 + 2 + 25 * k = o + aoff (3 + k) 0
        have e : aoff (3 + k) 0 = 81 + 25 * k := by
          unfold aoff goff soff
          rw [if_pos (by omega), if_neg (by omega), if_neg (by omega), if_neg (by omega), if_pos (by omega)]
          omega
        rw [e]
        omega
    · have h3 : c = 0 := by omega
      subst h3
      rw [E_ra]
      exact hy _ _ fu_at

theorem cf_L_cell : cfS RL yL_cell cL_cell 2 (some .int) 2 := ⟨⟨k_393, k_0, k_394⟩, by decide +kernel⟩
def f_L_cell (L : Nat) (xs : Nat → Int32) (p0 : Int32) : Option (Int32) :=
  (if (nI L) ≤ p0 then some (((nI 32452867) * p0) + (nI 67867967)) else gd p0 L (some (xs p0.toNatClampNeg)))
set_option maxHeartbeats 4000000 in
set_option maxRecDepth 100000 in
theorem c_L_cell {l : Launch} {D : va_G} {cy : Nat → ClassId} {ad : Nat → Nat → Nat} (hcv : CV ad) {M0 : MM} {b L : Nat} {xs : Nat → Int32} (hbA : ¬ AD ad b) {p0 : Int32} {r : Int32} (h : f_L_cell L xs p0 = some r) : Met l yL_cell (.code yL_cell cL_cell 2 (some .int) :: TB) ({ frames := 0, cells := 0, slots := 0, locals := 0 } : Room) (PX D cy ad M0 b L xs [.ref b, .int p0]) (QI D cy ad r M0) 0 0 (AD ad) := by
  refine m_inx (by decide +kernel) (Nat.le_of_ble_eq_true rfl) ?_
  intro p e s md args below meth c hC hw hX hbl hS ls hl
  obtain ⟨hx, hb, hr, hml, hown, hts, hK, hlk⟩ := hC
  have hl : lv_has ls 2 [(0, .ref b), (1, .int p0)] := hl
  unfold f_L_cell at h
  have main : JL p l e ({ frames := 0, cells := 0, slots := 0, locals := 0 } : Room) s md args below meth c D cy ad (MQ below (QI D cy ad r M0) args s 0 0 (AD ad)) (M0) 2 [(0, .ref b), (1, .int p0)] 0 [] := by
    intro H locs hw hS ls hl
    refine lv_iload_n hx hb dL_cell_0 rfl (lv_at hl 1 rfl) ?_
    refine lv_aload_n hx hb dL_cell_1 rfl (lv_at hl 0 rfl) ?_
    refine va_slen hx hb hX hbl hbA hS dL_cell_2 ?_
    refine lv_icmp_ge (tgt := 12) hx hb dL_cell_3 (by decide) (fun q1 => ?_) (fun q1 => ?_)
    · replace h := t_pos h q1
      refine lv_ldc (v := nI 32452867) hx hb hown (hts _ k_395) dL_cell_12 ?_
      refine lv_iload_n hx hb dL_cell_14 rfl (lv_at hl 1 rfl) ?_
      refine lv_imul hx hb dL_cell_15 ?_
      refine lv_ldc (v := nI 67867967) hx hb hown (hts _ k_396) dL_cell_16 ?_
      refine lv_iadd hx hb dL_cell_18 ?_
      have e1 := Option.some.inj h
      exact e_i hx hb hr hlk hw hS e1 rfl dL_cell_19
    · replace h := t_neg h q1
      refine lv_aload_n hx hb dL_cell_6 rfl (lv_at hl 0 rfl) ?_
      refine lv_iload_n hx hb dL_cell_7 rfl (lv_at hl 1 rfl) ?_
      obtain ⟨q2, h⟩ := t_gd h
      refine va_sld hx hb hX hbl hbA hS q2 dL_cell_8 ?_
      refine lv_goto (tgt := 19) hx hb dL_cell_9 (by decide) ?_
      have e1 := Option.some.inj h
      exact e_i hx hb hr hlk hw hS e1 rfl dL_cell_19
  exact main _ _ hw hS ls hl

theorem cf_L_low : cfS RL yL_low cL_low 2 (some .int) 2 := ⟨⟨k_398, k_0, k_399⟩, by decide +kernel⟩
def f_L_low (p0 : Int32) (p1 : Int32) : Option (Int32) :=
  gn p1 (some ((p0 &&& (nI 2147483647)) - (p0 &&& (nI 2147483647)) / p1 * p1))
set_option maxHeartbeats 4000000 in
set_option maxRecDepth 100000 in
theorem c_L_low {l : Launch} {D : va_G} {cy : Nat → ClassId} {ad : Nat → Nat → Nat} (hcv : CV ad) {M0 : MM} {p0 p1 : Int32} {r : Int32} (h : f_L_low p0 p1 = some r) : Met l yL_low (.code yL_low cL_low 2 (some .int) :: TB) ({ frames := 0, cells := 0, slots := 0, locals := 0 } : Room) (PW D cy ad M0 [.int p0, .int p1]) (QI D cy ad r M0) 0 0 (AD ad) := by
  refine m_in (by decide +kernel) (Nat.le_of_ble_eq_true rfl) ?_
  intro p e s md args below meth c hC hw hS ls hl
  obtain ⟨hx, hb, hr, hml, hown, hts, hK, hlk⟩ := hC
  have hl : lv_has ls 2 [(0, .int p0), (1, .int p1)] := hl
  unfold f_L_low at h
  have main : JL p l e ({ frames := 0, cells := 0, slots := 0, locals := 0 } : Room) s md args below meth c D cy ad (MQ below (QI D cy ad r M0) args s 0 0 (AD ad)) (M0) 2 [(0, .int p0), (1, .int p1)] 0 [] := by
    intro H locs hw hS ls hl
    refine lv_iload_n hx hb dL_low_0 rfl (lv_at hl 0 rfl) ?_
    refine lv_ldc (v := nI 2147483647) hx hb hown (hts _ k_400) dL_low_1 ?_
    refine lv_iand hx hb dL_low_3 ?_
    refine lv_iload_n hx hb dL_low_4 rfl (lv_at hl 1 rfl) ?_
    obtain ⟨q1, h⟩ := t_gn h
    refine lv_irem hx hb dL_low_5 q1 ?_
    have e1 := Option.some.inj h
    exact e_i hx hb hr hlk hw hS e1 rfl dL_low_6
  exact main _ _ hw hS ls hl

theorem cf_L_layer : cfS RL yL_layer cL_layer 1 (some .int) 1 := ⟨⟨k_417, k_0, k_418⟩, by decide +kernel⟩
def f_L_layer (p0 : Int32) : Option (Int32) :=
  b1 (f_L_low p0 (nI 4)) fun r2 => some r2
set_option maxHeartbeats 4000000 in
set_option maxRecDepth 100000 in
theorem c_L_layer {l : Launch} {D : va_G} {cy : Nat → ClassId} {ad : Nat → Nat → Nat} (hcv : CV ad) {M0 : MM} {p0 : Int32} {r : Int32} (h : f_L_layer p0 = some r) : Met l yL_layer (.code yL_layer cL_layer 1 (some .int) :: TB) ({ frames := 1, cells := 0, slots := 0, locals := 21 } : Room) (PW D cy ad M0 [.int p0]) (QI D cy ad r M0) 0 0 (AD ad) := by
  refine m_in (by decide +kernel) (Nat.le_of_ble_eq_true rfl) ?_
  intro p e s md args below meth c hC hw hS ls hl
  obtain ⟨hx, hb, hr, hml, hown, hts, hK, hlk⟩ := hC
  have hl : lv_has ls 1 [(0, .int p0)] := hl
  unfold f_L_layer at h
  have main : JL p l e ({ frames := 1, cells := 0, slots := 0, locals := 21 } : Room) s md args below meth c D cy ad (MQ below (QI D cy ad r M0) args s 0 0 (AD ad)) (M0) 1 [(0, .int p0)] 0 [] := by
    intro H locs hw hS ls hl
    refine lv_iload_n hx hb dL_layer_0 rfl (lv_at hl 0 rfl) ?_
    refine lv_iconst (v := nI 4) hx hb dL_layer_1 (by decide) ?_
    obtain ⟨r2, y1, h⟩ := t_b1 h
    refine c_si hx hb hml hown hts hK hw hS (fun _ h => h) (As := [.int p0, .int (nI 4)]) (rest := []) (c_L_low hcv (M0 := M0) y1) cf_L_low k_397 rfl rfl ⟨Nat.le_of_ble_eq_true rfl, Nat.le_of_ble_eq_true rfl⟩ rfl hl.1 rfl (Nat.le_of_ble_eq_true rfl) ⟨Nat.le_refl _, Nat.le_refl _⟩ dL_layer_2 (fun H locs hw hS => ?_)
    have e1 := Option.some.inj h
    exact e_i hx hb hr hlk hw hS e1 rfl dL_layer_5
  exact main _ _ hw hS ls hl

theorem cf_L_bottom : cfS RL yL_bottom cL_bottom 1 (some .int) 1 := ⟨⟨k_405, k_0, k_406⟩, by decide +kernel⟩
def f_L_bottom (p0 : Int32) : Option (Int32) :=
  b1 (f_L_low (p0 >>> ((nI 2) &&& 31)) (nI 500)) fun r2 => some r2
set_option maxHeartbeats 4000000 in
set_option maxRecDepth 100000 in
theorem c_L_bottom {l : Launch} {D : va_G} {cy : Nat → ClassId} {ad : Nat → Nat → Nat} (hcv : CV ad) {M0 : MM} {p0 : Int32} {r : Int32} (h : f_L_bottom p0 = some r) : Met l yL_bottom (.code yL_bottom cL_bottom 1 (some .int) :: TB) ({ frames := 1, cells := 0, slots := 0, locals := 21 } : Room) (PW D cy ad M0 [.int p0]) (QI D cy ad r M0) 0 0 (AD ad) := by
  refine m_in (by decide +kernel) (Nat.le_of_ble_eq_true rfl) ?_
  intro p e s md args below meth c hC hw hS ls hl
  obtain ⟨hx, hb, hr, hml, hown, hts, hK, hlk⟩ := hC
  have hl : lv_has ls 1 [(0, .int p0)] := hl
  unfold f_L_bottom at h
  have main : JL p l e ({ frames := 1, cells := 0, slots := 0, locals := 21 } : Room) s md args below meth c D cy ad (MQ below (QI D cy ad r M0) args s 0 0 (AD ad)) (M0) 1 [(0, .int p0)] 0 [] := by
    intro H locs hw hS ls hl
    refine lv_iload_n hx hb dL_bottom_0 rfl (lv_at hl 0 rfl) ?_
    refine lv_iconst (v := nI 2) hx hb dL_bottom_1 (by decide) ?_
    refine lv_ishr hx hb dL_bottom_2 ?_
    refine lv_sipush (v := nI 500) hx hb dL_bottom_3 (by decide) ?_
    obtain ⟨r2, y1, h⟩ := t_b1 h
    refine c_si hx hb hml hown hts hK hw hS (fun _ h => h) (As := [.int (p0 >>> ((nI 2) &&& 31)), .int (nI 500)]) (rest := []) (c_L_low hcv (M0 := M0) y1) cf_L_low k_397 rfl rfl ⟨Nat.le_of_ble_eq_true rfl, Nat.le_of_ble_eq_true rfl⟩ rfl hl.1 rfl (Nat.le_of_ble_eq_true rfl) ⟨Nat.le_refl _, Nat.le_refl _⟩ dL_bottom_6 (fun H locs hw hS => ?_)
    have e1 := Option.some.inj h
    exact e_i hx hb hr hlk hw hS e1 rfl dL_bottom_9
  exact main _ _ hw hS ls hl

theorem cf_L_top : cfS RL yL_top cL_top 1 (some .int) 1 := ⟨⟨k_408, k_0, k_409⟩, by decide +kernel⟩
def f_L_top (p0 : Int32) : Option (Int32) :=
  b1 (f_L_bottom p0) fun r2 => b1 (f_L_low (p0 >>> ((nI 20) &&& 31)) (nI 4)) fun r4 => (if r4 = (nI 0) then b1 (f_L_low (p0 >>> ((nI 11) &&& 31)) (nI 2)) fun r9 => some (r2 + r9) else b1 (f_L_low (p0 >>> ((nI 11) &&& 31)) (nI 400)) fun r7 => some (r2 + r7))
set_option maxHeartbeats 4000000 in
set_option maxRecDepth 100000 in
theorem c_L_top {l : Launch} {D : va_G} {cy : Nat → ClassId} {ad : Nat → Nat → Nat} (hcv : CV ad) {M0 : MM} {p0 : Int32} {r : Int32} (h : f_L_top p0 = some r) : Met l yL_top (.code yL_top cL_top 1 (some .int) :: TB) ({ frames := 2, cells := 0, slots := 0, locals := 41 } : Room) (PW D cy ad M0 [.int p0]) (QI D cy ad r M0) 0 0 (AD ad) := by
  refine m_in (by decide +kernel) (Nat.le_of_ble_eq_true rfl) ?_
  intro p e s md args below meth c hC hw hS ls hl
  obtain ⟨hx, hb, hr, hml, hown, hts, hK, hlk⟩ := hC
  have hl : lv_has ls 1 [(0, .int p0)] := hl
  unfold f_L_top at h
  have main : JL p l e ({ frames := 2, cells := 0, slots := 0, locals := 41 } : Room) s md args below meth c D cy ad (MQ below (QI D cy ad r M0) args s 0 0 (AD ad)) (M0) 1 [(0, .int p0)] 0 [] := by
    intro H locs hw hS ls hl
    refine lv_iload_n hx hb dL_top_0 rfl (lv_at hl 0 rfl) ?_
    obtain ⟨r2, y1, h⟩ := t_b1 h
    refine c_si hx hb hml hown hts hK hw hS (fun _ h => h) (As := [.int p0]) (rest := []) (c_L_bottom hcv (M0 := M0) y1) cf_L_bottom k_404 rfl rfl ⟨Nat.le_of_ble_eq_true rfl, Nat.le_of_ble_eq_true rfl⟩ rfl hl.1 rfl (Nat.le_of_ble_eq_true rfl) ⟨Nat.le_refl _, Nat.le_refl _⟩ dL_top_1 (fun H locs hw hS => ?_)
    refine lv_iload_n hx hb dL_top_4 rfl (lv_at hl 0 rfl) ?_
    refine lv_bipush (v := nI 11) hx hb dL_top_5 (by decide) ?_
    refine lv_ishr hx hb dL_top_7 ?_
    refine lv_iload_n hx hb dL_top_8 rfl (lv_at hl 0 rfl) ?_
    refine lv_bipush (v := nI 20) hx hb dL_top_9 (by decide) ?_
    refine lv_ishr hx hb dL_top_11 ?_
    refine lv_iconst (v := nI 4) hx hb dL_top_12 (by decide) ?_
    obtain ⟨r4, y3, h⟩ := t_b1 h
    refine c_si hx hb hml hown hts hK hw hS (fun _ h => h) (As := [.int (p0 >>> ((nI 20) &&& 31)), .int (nI 4)]) (rest := [.int (p0 >>> ((nI 11) &&& 31)), .int r2]) (c_L_low hcv (M0 := M0) y3) cf_L_low k_397 rfl rfl ⟨Nat.le_of_ble_eq_true rfl, Nat.le_of_ble_eq_true rfl⟩ rfl hl.1 rfl (Nat.le_of_ble_eq_true rfl) ⟨Nat.le_refl _, Nat.le_refl _⟩ dL_top_13 (fun H locs hw hS => ?_)
    refine lv_if_ne (tgt := 23) hx hb dL_top_16 (by decide) (fun q5 => ?_) (fun q5 => ?_)
    · replace h := t_neg h q5
      refine lv_sipush (v := nI 400) hx hb dL_top_23 (by decide) ?_
      obtain ⟨r7, y6, h⟩ := t_b1 h
      refine c_si hx hb hml hown hts hK hw hS (fun _ h => h) (As := [.int (p0 >>> ((nI 11) &&& 31)), .int (nI 400)]) (rest := [.int r2]) (c_L_low hcv (M0 := M0) y6) cf_L_low k_397 rfl rfl ⟨Nat.le_of_ble_eq_true rfl, Nat.le_of_ble_eq_true rfl⟩ rfl hl.1 rfl (Nat.le_of_ble_eq_true rfl) ⟨Nat.le_refl _, Nat.le_refl _⟩ dL_top_26 (fun H locs hw hS => ?_)
      refine lv_iadd hx hb dL_top_29 ?_
      have e1 := Option.some.inj h
      exact e_i hx hb hr hlk hw hS e1 rfl dL_top_30
    · replace h := t_pos h q5
      refine lv_iconst (v := nI 2) hx hb dL_top_19 (by decide) ?_
      refine lv_goto (tgt := 26) hx hb dL_top_20 (by decide) ?_
      obtain ⟨r9, y8, h⟩ := t_b1 h
      refine c_si hx hb hml hown hts hK hw hS (fun _ h => h) (As := [.int (p0 >>> ((nI 11) &&& 31)), .int (nI 2)]) (rest := [.int r2]) (c_L_low hcv (M0 := M0) y8) cf_L_low k_397 rfl rfl ⟨Nat.le_of_ble_eq_true rfl, Nat.le_of_ble_eq_true rfl⟩ rfl hl.1 rfl (Nat.le_of_ble_eq_true rfl) ⟨Nat.le_refl _, Nat.le_refl _⟩ dL_top_26 (fun H locs hw hS => ?_)
      refine lv_iadd hx hb dL_top_29 ?_
      have e1 := Option.some.inj h
      exact e_i hx hb hr hlk hw hS e1 rfl dL_top_30
  exact main _ _ hw hS ls hl

theorem cf_L_rows : cfS RL yL_rows cL_rows 1 (some .int) 1 := ⟨⟨k_434, k_0, k_435⟩, by decide +kernel⟩
def f_L_rows (p0 : Int32) : Option (Int32) :=
  b1 (f_L_low (p0 >>> ((nI 21) &&& 31)) (nI 9)) fun r2 => some ((nI 1) + r2)
set_option maxHeartbeats 4000000 in
set_option maxRecDepth 100000 in
theorem c_L_rows {l : Launch} {D : va_G} {cy : Nat → ClassId} {ad : Nat → Nat → Nat} (hcv : CV ad) {M0 : MM} {p0 : Int32} {r : Int32} (h : f_L_rows p0 = some r) : Met l yL_rows (.code yL_rows cL_rows 1 (some .int) :: TB) ({ frames := 1, cells := 0, slots := 0, locals := 21 } : Room) (PW D cy ad M0 [.int p0]) (QI D cy ad r M0) 0 0 (AD ad) := by
  refine m_in (by decide +kernel) (Nat.le_of_ble_eq_true rfl) ?_
  intro p e s md args below meth c hC hw hS ls hl
  obtain ⟨hx, hb, hr, hml, hown, hts, hK, hlk⟩ := hC
  have hl : lv_has ls 1 [(0, .int p0)] := hl
  unfold f_L_rows at h
  have main : JL p l e ({ frames := 1, cells := 0, slots := 0, locals := 21 } : Room) s md args below meth c D cy ad (MQ below (QI D cy ad r M0) args s 0 0 (AD ad)) (M0) 1 [(0, .int p0)] 0 [] := by
    intro H locs hw hS ls hl
    refine lv_iconst (v := nI 1) hx hb dL_rows_0 (by decide) ?_
    refine lv_iload_n hx hb dL_rows_1 rfl (lv_at hl 0 rfl) ?_
    refine lv_bipush (v := nI 21) hx hb dL_rows_2 (by decide) ?_
    refine lv_ishr hx hb dL_rows_4 ?_
    refine lv_bipush (v := nI 9) hx hb dL_rows_5 (by decide) ?_
    obtain ⟨r2, y1, h⟩ := t_b1 h
    refine c_si hx hb hml hown hts hK hw hS (fun _ h => h) (As := [.int (p0 >>> ((nI 21) &&& 31)), .int (nI 9)]) (rest := [.int (nI 1)]) (c_L_low hcv (M0 := M0) y1) cf_L_low k_397 rfl rfl ⟨Nat.le_of_ble_eq_true rfl, Nat.le_of_ble_eq_true rfl⟩ rfl hl.1 rfl (Nat.le_of_ble_eq_true rfl) ⟨Nat.le_refl _, Nat.le_refl _⟩ dL_rows_7 (fun H locs hw hS => ?_)
    refine lv_iadd hx hb dL_rows_10 ?_
    have e1 := Option.some.inj h
    exact e_i hx hb hr hlk hw hS e1 rfl dL_rows_11
  exact main _ _ hw hS ls hl

theorem cf_L_valueOf : cfS RL yL_valueOf cL_valueOf 3 (some .int) 3 := ⟨⟨k_402, k_0, k_403⟩, by decide +kernel⟩
def f_L_valueOf (p0 : Int32) (p1 : Int32) (p2 : Int32) : Option (Int32) :=
  b1 (f_L_bottom p0) fun r2 => b1 (f_L_top p0) fun r4 => b1 (f_L_bottom p0) fun r6 => b1 (f_L_low (p1 >>> (p2 &&& 31)) ((r4 - r6) + (nI 1))) fun r8 => some (r2 + r8)
set_option maxHeartbeats 4000000 in
set_option maxRecDepth 100000 in
theorem c_L_valueOf {l : Launch} {D : va_G} {cy : Nat → ClassId} {ad : Nat → Nat → Nat} (hcv : CV ad) {M0 : MM} {p0 p1 p2 : Int32} {r : Int32} (h : f_L_valueOf p0 p1 p2 = some r) : Met l yL_valueOf (.code yL_valueOf cL_valueOf 3 (some .int) :: TB) ({ frames := 3, cells := 0, slots := 0, locals := 61 } : Room) (PW D cy ad M0 [.int p0, .int p1, .int p2]) (QI D cy ad r M0) 0 0 (AD ad) := by
  refine m_in (by decide +kernel) (Nat.le_of_ble_eq_true rfl) ?_
  intro p e s md args below meth c hC hw hS ls hl
  obtain ⟨hx, hb, hr, hml, hown, hts, hK, hlk⟩ := hC
  have hl : lv_has ls 3 [(0, .int p0), (1, .int p1), (2, .int p2)] := hl
  unfold f_L_valueOf at h
  have main : JL p l e ({ frames := 3, cells := 0, slots := 0, locals := 61 } : Room) s md args below meth c D cy ad (MQ below (QI D cy ad r M0) args s 0 0 (AD ad)) (M0) 3 [(0, .int p0), (1, .int p1), (2, .int p2)] 0 [] := by
    intro H locs hw hS ls hl
    refine lv_iload_n hx hb dL_valueOf_0 rfl (lv_at hl 0 rfl) ?_
    obtain ⟨r2, y1, h⟩ := t_b1 h
    refine c_si hx hb hml hown hts hK hw hS (fun _ h => h) (As := [.int p0]) (rest := []) (c_L_bottom hcv (M0 := M0) y1) cf_L_bottom k_404 rfl rfl ⟨Nat.le_of_ble_eq_true rfl, Nat.le_of_ble_eq_true rfl⟩ rfl hl.1 rfl (Nat.le_of_ble_eq_true rfl) ⟨Nat.le_refl _, Nat.le_refl _⟩ dL_valueOf_1 (fun H locs hw hS => ?_)
    refine lv_iload_n hx hb dL_valueOf_4 rfl (lv_at hl 1 rfl) ?_
    refine lv_iload_n hx hb dL_valueOf_5 rfl (lv_at hl 2 rfl) ?_
    refine lv_ishr hx hb dL_valueOf_6 ?_
    refine lv_iload_n hx hb dL_valueOf_7 rfl (lv_at hl 0 rfl) ?_
    obtain ⟨r4, y3, h⟩ := t_b1 h
    refine c_si hx hb hml hown hts hK hw hS (fun _ h => h) (As := [.int p0]) (rest := [.int (p1 >>> (p2 &&& 31)), .int r2]) (c_L_top hcv (M0 := M0) y3) cf_L_top k_407 rfl rfl ⟨Nat.le_of_ble_eq_true rfl, Nat.le_of_ble_eq_true rfl⟩ rfl hl.1 rfl (Nat.le_of_ble_eq_true rfl) ⟨Nat.le_refl _, Nat.le_refl _⟩ dL_valueOf_8 (fun H locs hw hS => ?_)
    refine lv_iload_n hx hb dL_valueOf_11 rfl (lv_at hl 0 rfl) ?_
    obtain ⟨r6, y5, h⟩ := t_b1 h
    refine c_si hx hb hml hown hts hK hw hS (fun _ h => h) (As := [.int p0]) (rest := [.int r4, .int (p1 >>> (p2 &&& 31)), .int r2]) (c_L_bottom hcv (M0 := M0) y5) cf_L_bottom k_404 rfl rfl ⟨Nat.le_of_ble_eq_true rfl, Nat.le_of_ble_eq_true rfl⟩ rfl hl.1 rfl (Nat.le_of_ble_eq_true rfl) ⟨Nat.le_refl _, Nat.le_refl _⟩ dL_valueOf_12 (fun H locs hw hS => ?_)
    refine lv_isub hx hb dL_valueOf_15 ?_
    refine lv_iconst (v := nI 1) hx hb dL_valueOf_16 (by decide) ?_
    refine lv_iadd hx hb dL_valueOf_17 ?_
    obtain ⟨r8, y7, h⟩ := t_b1 h
    refine c_si hx hb hml hown hts hK hw hS (fun _ h => h) (As := [.int (p1 >>> (p2 &&& 31)), .int ((r4 - r6) + (nI 1))]) (rest := [.int r2]) (c_L_low hcv (M0 := M0) y7) cf_L_low k_397 rfl rfl ⟨Nat.le_of_ble_eq_true rfl, Nat.le_of_ble_eq_true rfl⟩ rfl hl.1 rfl (Nat.le_of_ble_eq_true rfl) ⟨Nat.le_refl _, Nat.le_refl _⟩ dL_valueOf_18 (fun H locs hw hS => ?_)
    refine lv_iadd hx hb dL_valueOf_21 ?_
    have e1 := Option.some.inj h
    exact e_i hx hb hr hlk hw hS e1 rfl dL_valueOf_22
  exact main _ _ hw hS ls hl

theorem cf_L_type : cfS RL yL_type cL_type 3 (some .int) 3 := ⟨⟨k_420, k_0, k_421⟩, by decide +kernel⟩
def f_L_type (M : MM) (p0 : Int32) (p1 : Int32) : Option (Int32 × MM) :=
  bd (f_X5_type M ((p1.toUInt32 % 65536).toInt32)) fun r2 M3 => (if r2 = (p0 + (nI 1)) then some ((p0 + (nI 1)), M3) else some ((-1000 : Int32), M3))
set_option maxHeartbeats 4000000 in
set_option maxRecDepth 100000 in
theorem c_L_type {l : Launch} {D : va_G} {cy : Nat → ClassId} {ad : Nat → Nat → Nat} (hcv : CV ad) {M : MM} {p0 p1 : Int32} {r : Int32} {x : MM} (h : f_L_type M p0 p1 = some (r, x)) : Met l yL_type (.code yL_type cL_type 3 (some .int) :: TB) ({ frames := 2, cells := 0, slots := 0, locals := 42 } : Room) (PW D cy ad M [.ref (ad 8 0), .int p0, .int p1]) (QI D cy ad r x) 0 0 (AD ad) := by
  refine m_in (by decide +kernel) (Nat.le_of_ble_eq_true rfl) ?_
  intro p e s md args below meth c hC hw hS ls hl
  obtain ⟨hx, hb, hr, hml, hown, hts, hK, hlk⟩ := hC
  have hl : lv_has ls 3 [(0, .ref (ad 8 0)), (1, .int p0), (2, .int p1)] := hl
  unfold f_L_type at h
  have main : JL p l e ({ frames := 2, cells := 0, slots := 0, locals := 42 } : Room) s md args below meth c D cy ad (MQ below (QI D cy ad r x) args s 0 0 (AD ad)) (M) 3 [(0, .ref (ad 8 0)), (1, .int p0), (2, .int p1)] 0 [] := by
    intro H locs hw hS ls hl
    refine lv_aload_n hx hb dL_type_0 rfl (lv_at hl 0 rfl) ?_
    refine lv_iload_n hx hb dL_type_1 rfl (lv_at hl 2 rfl) ?_
    refine lv_i2c (v := (p1.toUInt32 % 65536).toInt32) hx hb dL_type_2 rfl ?_
    obtain ⟨r2, M3, y1, h⟩ := t_bd h
    refine c_vi hx hb hml hown hts hK hw hS (fun _ h => h) (As := [.int ((p1.toUInt32 % 65536).toInt32)]) (rest := []) (c_X5_type hcv (M := M) y1) cf_X5_type k_422 rfl rfl ⟨Nat.le_of_ble_eq_true rfl, Nat.le_of_ble_eq_true rfl⟩ (r_recv hK hw (v_mn (by decide)) E_mn rfl) rfl hl.1 rfl (Nat.le_of_ble_eq_true rfl) ⟨Nat.le_refl _, Nat.le_refl _⟩ dL_type_3 (fun H locs hw hS => ?_)
    refine lv_iload_n hx hb dL_type_6 rfl (lv_at hl 1 rfl) ?_
    refine lv_iconst (v := nI 1) hx hb dL_type_7 (by decide) ?_
    refine lv_iadd hx hb dL_type_8 ?_
    refine lv_icmp_ne (tgt := 18) hx hb dL_type_9 (by decide) (fun q4 => ?_) (fun q4 => ?_)
    · replace h := t_neg h q4
      refine lv_sipush (v := -1000) hx hb dL_type_18 (by decide) ?_
      have e1 := (t_ret h).1
      have e2 := (t_ret h).2
      exact e_i hx hb hr hlk hw hS e1 e2 dL_type_21
    · replace h := t_pos h q4
      refine lv_iload_n hx hb dL_type_12 rfl (lv_at hl 1 rfl) ?_
      refine lv_iconst (v := nI 1) hx hb dL_type_13 (by decide) ?_
      refine lv_iadd hx hb dL_type_14 ?_
      refine lv_goto (tgt := 21) hx hb dL_type_15 (by decide) ?_
      have e1 := (t_ret h).1
      have e2 := (t_ret h).2
      exact e_i hx hb hr hlk hw hS e1 e2 dL_type_21
  exact main _ _ hw hS ls hl

theorem cf_L_number : cfS RL yL_number cL_number 4 (some .int) 3 := ⟨⟨k_431, k_0, k_432⟩, by decide +kernel⟩
def f_L_number_L48 (p0 : Int32) (p1 : Int32) (M : MM) (s0 : Int32) : Option (Int32 × MM) :=
  gn (nI 10) (bd (f_L_type M s0 ((nI 48) + (p1 - p1 / (nI 10) * (nI 10)))) fun r3 M4 => some (r3, M4))
def f_L_number_L22 (p0 : Int32) (p1 : Int32) (M : MM) (s0 : Int32) : Option (Int32 × MM) :=
  (if p1 ≤ (nI 9) then f_L_number_L48 p0 p1 M s0 else gn (nI 10) (gn (nI 10) (bd (f_L_type M s0 ((nI 48) + ((p1 / (nI 10)) - (p1 / (nI 10)) / (nI 10) * (nI 10)))) fun r5 M6 => f_L_number_L48 p0 p1 M6 r5)))
def f_L_number (M : MM) (p0 : Int32) (p1 : Int32) : Option (Int32 × MM) :=
  (if p1 ≤ (nI 99) then f_L_number_L22 p0 p1 M p0 else gn (nI 100) (bd (f_L_type M p0 ((nI 48) + (p1 / (nI 100)))) fun r4 M5 => f_L_number_L22 p0 p1 M5 r4))
set_option maxHeartbeats 4000000 in
set_option maxRecDepth 100000 in
theorem c_L_number {l : Launch} {D : va_G} {cy : Nat → ClassId} {ad : Nat → Nat → Nat} (hcv : CV ad) {M : MM} {p0 p1 : Int32} {r : Int32} {x : MM} (h : f_L_number M p0 p1 = some (r, x)) : Met l yL_number (.code yL_number cL_number 4 (some .int) :: TB) ({ frames := 3, cells := 0, slots := 0, locals := 64 } : Room) (PW D cy ad M [.ref (ad 8 0), .int p0, .int p1]) (QI D cy ad r x) 0 0 (AD ad) := by
  refine m_in (by decide +kernel) (Nat.le_of_ble_eq_true rfl) ?_
  intro p e s md args below meth c hC hw hS ls hl
  obtain ⟨hx, hb, hr, hml, hown, hts, hK, hlk⟩ := hC
  have hl : lv_has ls 4 [(0, .ref (ad 8 0)), (1, .int p0), (2, .int p1)] := hl
  have L48 : ∀ (M : MM) (s0 : Int32), f_L_number_L48 p0 p1 M s0 = some (r, x) → JL p l e ({ frames := 3, cells := 0, slots := 0, locals := 64 } : Room) s md args below meth c D cy ad (MQ below (QI D cy ad r x) args s 0 0 (AD ad)) (M) 4 [(0, .ref (ad 8 0)), (2, .int p1)] 48 [.int s0] := by
    intro M s0 h H locs hw hS ls hl
    unfold f_L_number_L48 at h
    refine lv_istore_n (lv' := [(3, .int s0), (0, .ref (ad 8 0)), (2, .int p1)]) hx hb dL_number_48 rfl hl (by decide) rfl (fun ls hl => ?_)
    refine lv_aload_n hx hb dL_number_49 rfl (lv_at hl 1 rfl) ?_
    refine lv_iload_n hx hb dL_number_50 rfl (lv_at hl 0 rfl) ?_
    refine lv_bipush (v := nI 48) hx hb dL_number_51 (by decide) ?_
    refine lv_iload_n hx hb dL_number_53 rfl (lv_at hl 2 rfl) ?_
    refine lv_bipush (v := nI 10) hx hb dL_number_54 (by decide) ?_
    obtain ⟨q1, h⟩ := t_gn h
    refine lv_irem hx hb dL_number_56 q1 ?_
    refine lv_iadd hx hb dL_number_57 ?_
    obtain ⟨r3, M4, y2, h⟩ := t_bd h
    refine c_si hx hb hml hown hts hK hw hS (fun _ h => h) (As := [.ref (ad 8 0), .int s0, .int ((nI 48) + (p1 - p1 / (nI 10) * (nI 10)))]) (rest := []) (c_L_type hcv (M := M) y2) cf_L_type k_419 rfl rfl ⟨Nat.le_of_ble_eq_true rfl, Nat.le_of_ble_eq_true rfl⟩ rfl hl.1 rfl (Nat.le_of_ble_eq_true rfl) ⟨Nat.le_refl _, Nat.le_refl _⟩ dL_number_58 (fun H locs hw hS => ?_)
    have e1 := (t_ret h).1
    have e2 := (t_ret h).2
    exact e_i hx hb hr hlk hw hS e1 e2 dL_number_61
  have L22 : ∀ (M : MM) (s0 : Int32), f_L_number_L22 p0 p1 M s0 = some (r, x) → JL p l e ({ frames := 3, cells := 0, slots := 0, locals := 64 } : Room) s md args below meth c D cy ad (MQ below (QI D cy ad r x) args s 0 0 (AD ad)) (M) 4 [(0, .ref (ad 8 0)), (2, .int p1)] 22 [.int s0] := by
    intro M s0 h H locs hw hS ls hl
    unfold f_L_number_L22 at h
    refine lv_istore_n (lv' := [(3, .int s0), (0, .ref (ad 8 0)), (2, .int p1)]) hx hb dL_number_22 rfl hl (by decide) rfl (fun ls hl => ?_)
    refine lv_iload_n hx hb dL_number_23 rfl (lv_at hl 2 rfl) ?_
    refine lv_bipush (v := nI 9) hx hb dL_number_24 (by decide) ?_
    refine lv_icmp_le (tgt := 47) hx hb dL_number_26 (by decide) (fun q1 => ?_) (fun q1 => ?_)
    · replace h := t_pos h q1
      refine lv_iload_n hx hb dL_number_47 rfl (lv_at hl 0 rfl) ?_
      exact L48 M s0 h H locs hw hS ls (lv_sub hl [1, 2] rfl)
    · replace h := t_neg h q1
      refine lv_aload_n hx hb dL_number_29 rfl (lv_at hl 1 rfl) ?_
      refine lv_iload_n hx hb dL_number_30 rfl (lv_at hl 0 rfl) ?_
      refine lv_bipush (v := nI 48) hx hb dL_number_31 (by decide) ?_
      refine lv_iload_n hx hb dL_number_33 rfl (lv_at hl 2 rfl) ?_
      refine lv_bipush (v := nI 10) hx hb dL_number_34 (by decide) ?_
      obtain ⟨q2, h⟩ := t_gn h
      refine lv_idiv hx hb dL_number_36 q2 ?_
      refine lv_bipush (v := nI 10) hx hb dL_number_37 (by decide) ?_
      obtain ⟨q3, h⟩ := t_gn h
      refine lv_irem hx hb dL_number_39 q3 ?_
      refine lv_iadd hx hb dL_number_40 ?_
      obtain ⟨r5, M6, y4, h⟩ := t_bd h
      refine c_si hx hb hml hown hts hK hw hS (fun _ h => h) (As := [.ref (ad 8 0), .int s0, .int ((nI 48) + ((p1 / (nI 10)) - (p1 / (nI 10)) / (nI 10) * (nI 10)))]) (rest := []) (c_L_type hcv (M := M) y4) cf_L_type k_419 rfl rfl ⟨Nat.le_of_ble_eq_true rfl, Nat.le_of_ble_eq_true rfl⟩ rfl hl.1 rfl (Nat.le_of_ble_eq_true rfl) ⟨Nat.le_refl _, Nat.le_refl _⟩ dL_number_41 (fun H locs hw hS => ?_)
      refine lv_goto (tgt := 48) hx hb dL_number_44 (by decide) ?_
      exact L48 M6 r5 h H locs hw hS ls (lv_sub hl [1, 2] rfl)
  unfold f_L_number at h
  have main : JL p l e ({ frames := 3, cells := 0, slots := 0, locals := 64 } : Room) s md args below meth c D cy ad (MQ below (QI D cy ad r x) args s 0 0 (AD ad)) (M) 4 [(0, .ref (ad 8 0)), (1, .int p0), (2, .int p1)] 0 [] := by
    intro H locs hw hS ls hl
    refine lv_iload_n hx hb dL_number_0 rfl (lv_at hl 2 rfl) ?_
    refine lv_bipush (v := nI 99) hx hb dL_number_1 (by decide) ?_
    refine lv_icmp_le (tgt := 21) hx hb dL_number_3 (by decide) (fun q1 => ?_) (fun q1 => ?_)
    · replace h := t_pos h q1
      refine lv_iload_n hx hb dL_number_21 rfl (lv_at hl 1 rfl) ?_
      exact L22 M p0 h H locs hw hS ls (lv_sub hl [0, 2] rfl)
    · replace h := t_neg h q1
      refine lv_aload_n hx hb dL_number_6 rfl (lv_at hl 0 rfl) ?_
      refine lv_iload_n hx hb dL_number_7 rfl (lv_at hl 1 rfl) ?_
      refine lv_bipush (v := nI 48) hx hb dL_number_8 (by decide) ?_
      refine lv_iload_n hx hb dL_number_10 rfl (lv_at hl 2 rfl) ?_
      refine lv_bipush (v := nI 100) hx hb dL_number_11 (by decide) ?_
      obtain ⟨q2, h⟩ := t_gn h
      refine lv_idiv hx hb dL_number_13 q2 ?_
      refine lv_iadd hx hb dL_number_14 ?_
      obtain ⟨r4, M5, y3, h⟩ := t_bd h
      refine c_si hx hb hml hown hts hK hw hS (fun _ h => h) (As := [.ref (ad 8 0), .int p0, .int ((nI 48) + (p1 / (nI 100)))]) (rest := []) (c_L_type hcv (M := M) y3) cf_L_type k_419 rfl rfl ⟨Nat.le_of_ble_eq_true rfl, Nat.le_of_ble_eq_true rfl⟩ rfl hl.1 rfl (Nat.le_of_ble_eq_true rfl) ⟨Nat.le_refl _, Nat.le_refl _⟩ dL_number_15 (fun H locs hw hS => ?_)
      refine lv_goto (tgt := 22) hx hb dL_number_18 (by decide) ?_
      exact L22 M5 r4 h H locs hw hS ls (lv_sub hl [0, 2] rfl)
  exact main _ _ hw hS ls hl

theorem cf_L_write : cfS RL yL_write cL_write 5 (some .int) 3 := ⟨⟨k_414, k_0, k_415⟩, by decide +kernel⟩
def f_L_write_L70 (k46 : MM → Int32 → Int32 → Option (Int32 × MM)) (p0 : Int32) (p1 : Int32) (M : MM) (x4 : Int32) (s2 : Int32) (s3 : Int32) : Option (Int32 × MM) :=
  bd (f_L_type M s2 s3) fun r2 M3 => b1 (f_L_valueOf p0 p1 x4) fun r5 => bd (f_L_number M3 r2 r5) fun r7 M8 => k46 M8 r7 (x4 + (nI 1))
def f_L_write_L46 (p0 : Int32) (p1 : Int32) : Nat → MM → Int32 → Int32 → Option (Int32 × MM)
  | 0, _, _, _ => none
  | n + 1, M, x3, x4 => b1 (f_L_rows p0) fun r2 => (if r2 ≤ x4 then some (x3, M) else (if x4 = (nI 0) then f_L_write_L70 (f_L_write_L46 p0 p1 n) p0 p1 M x4 x3 (nI 61) else f_L_write_L70 (f_L_write_L46 p0 p1 n) p0 p1 M x4 x3 (nI 44)))
def f_L_write (M : MM) (p0 : Int32) (p1 : Int32) : Option (Int32 × MM) :=
  b1 (f_L_layer p0) fun r2 => bd (f_L_type M (nI 0) ((nI 48) + r2)) fun r4 M5 => bd (f_L_type M5 r4 (nI 58)) fun r7 M8 => b1 (f_L_bottom p0) fun r10 => bd (f_L_number M8 r7 r10) fun r12 M13 => bd (f_L_type M13 r12 (nI 45)) fun r15 M16 => b1 (f_L_top p0) fun r18 => bd (f_L_number M16 r15 r18) fun r20 M21 => f_L_write_L46 p0 p1 FU M21 r20 (nI 0)
set_option maxHeartbeats 4000000 in
set_option maxRecDepth 100000 in
theorem c_L_write {l : Launch} {D : va_G} {cy : Nat → ClassId} {ad : Nat → Nat → Nat} (hcv : CV ad) {M : MM} {p0 p1 : Int32} {r : Int32} {x : MM} (h : f_L_write M p0 p1 = some (r, x)) : Met l yL_write (.code yL_write cL_write 5 (some .int) :: TB) ({ frames := 4, cells := 0, slots := 0, locals := 87 } : Room) (PW D cy ad M [.ref (ad 8 0), .int p0, .int p1]) (QI D cy ad r x) 0 0 (AD ad) := by
  refine m_in (by decide +kernel) (Nat.le_of_ble_eq_true rfl) ?_
  intro p e s md args below meth c hC hw hS ls hl
  obtain ⟨hx, hb, hr, hml, hown, hts, hK, hlk⟩ := hC
  have hl : lv_has ls 5 [(0, .ref (ad 8 0)), (1, .int p0), (2, .int p1)] := hl
  have L70 : ∀ (k46 : MM → Int32 → Int32 → Option (Int32 × MM)) (hk46 : ∀ (M : MM) (x3 : Int32) (x4 : Int32), k46 M x3 x4 = some (r, x) → JL p l e ({ frames := 4, cells := 0, slots := 0, locals := 87 } : Room) s md args below meth c D cy ad (MQ below (QI D cy ad r x) args s 0 0 (AD ad)) (M) 5 [(0, .ref (ad 8 0)), (1, .int p0), (2, .int p1), (3, .int x3), (4, .int x4)] 46 []), ∀ (M : MM) (x4 : Int32) (s2 : Int32) (s3 : Int32), f_L_write_L70 k46 p0 p1 M x4 s2 s3 = some (r, x) → JL p l e ({ frames := 4, cells := 0, slots := 0, locals := 87 } : Room) s md args below meth c D cy ad (MQ below (QI D cy ad r x) args s 0 0 (AD ad)) (M) 5 [(0, .ref (ad 8 0)), (1, .int p0), (2, .int p1), (4, .int x4)] 70 [.int s3, .int s2, .ref (ad 8 0), .ref (ad 8 0)] := by
    intro k46 hk46 M x4 s2 s3 h H locs hw hS ls hl
    unfold f_L_write_L70 at h
    obtain ⟨r2, M3, y1, h⟩ := t_bd h
    refine c_si hx hb hml hown hts hK hw hS (fun _ h => h) (As := [.ref (ad 8 0), .int s2, .int s3]) (rest := [.ref (ad 8 0)]) (c_L_type hcv (M := M) y1) cf_L_type k_419 rfl rfl ⟨Nat.le_of_ble_eq_true rfl, Nat.le_of_ble_eq_true rfl⟩ rfl hl.1 rfl (Nat.le_of_ble_eq_true rfl) ⟨Nat.le_refl _, Nat.le_refl _⟩ dL_write_70 (fun H locs hw hS => ?_)
    refine lv_iload_n hx hb dL_write_73 rfl (lv_at hl 1 rfl) ?_
    refine lv_iload_n hx hb dL_write_74 rfl (lv_at hl 2 rfl) ?_
    refine lv_iload hx hb dL_write_75 (lv_at hl 3 rfl) ?_
    obtain ⟨r5, y4, h⟩ := t_b1 h
    refine c_si hx hb hml hown hts hK hw hS (fun _ h => h) (As := [.int p0, .int p1, .int x4]) (rest := [.int r2, .ref (ad 8 0)]) (c_L_valueOf hcv (M0 := M3) y4) cf_L_valueOf k_401 rfl rfl ⟨Nat.le_of_ble_eq_true rfl, Nat.le_of_ble_eq_true rfl⟩ rfl hl.1 rfl (Nat.le_of_ble_eq_true rfl) ⟨Nat.le_refl _, Nat.le_refl _⟩ dL_write_77 (fun H locs hw hS => ?_)
    obtain ⟨r7, M8, y6, h⟩ := t_bd h
    refine c_si hx hb hml hown hts hK hw hS (fun _ h => h) (As := [.ref (ad 8 0), .int r2, .int r5]) (rest := []) (c_L_number hcv (M := M3) y6) cf_L_number k_430 rfl rfl ⟨Nat.le_of_ble_eq_true rfl, Nat.le_of_ble_eq_true rfl⟩ rfl hl.1 rfl (Nat.le_of_ble_eq_true rfl) ⟨Nat.le_refl _, Nat.le_refl _⟩ dL_write_80 (fun H locs hw hS => ?_)
    refine lv_istore_n (lv' := [(3, .int r7), (0, .ref (ad 8 0)), (1, .int p0), (2, .int p1), (4, .int x4)]) hx hb dL_write_83 rfl hl (by decide) rfl (fun ls hl => ?_)
    refine lv_iinc (v := (x4 + (nI 1))) (lv' := [(4, .int (x4 + (nI 1))), (3, .int r7), (0, .ref (ad 8 0)), (1, .int p0), (2, .int p1)]) hx hb dL_write_84 hl (k := 4) rfl rfl (by decide) rfl (fun ls hl => ?_)
    refine lv_goto (tgt := 46) hx hb dL_write_87 (by decide) ?_
    exact hk46 M8 r7 (x4 + (nI 1)) h H locs hw hS ls (lv_sub hl [2, 3, 4, 1, 0] rfl)
  have L46 : ∀ (n : Nat), ∀ (M : MM) (x3 : Int32) (x4 : Int32), f_L_write_L46 p0 p1 n M x3 x4 = some (r, x) → JL p l e ({ frames := 4, cells := 0, slots := 0, locals := 87 } : Room) s md args below meth c D cy ad (MQ below (QI D cy ad r x) args s 0 0 (AD ad)) (M) 5 [(0, .ref (ad 8 0)), (1, .int p0), (2, .int p1), (3, .int x3), (4, .int x4)] 46 [] := by
    intro n
    induction n with
    | zero =>
      intro M x3 x4 h
      cases h
    | succ n ih =>
      intro M x3 x4 h H locs hw hS ls hl
      rw [f_L_write_L46.eq_2] at h
      refine lv_iload hx hb dL_write_46 (lv_at hl 4 rfl) ?_
      refine lv_iload_n hx hb dL_write_48 rfl (lv_at hl 1 rfl) ?_
      obtain ⟨r2, y1, h⟩ := t_b1 h
      refine c_si hx hb hml hown hts hK hw hS (fun _ h => h) (As := [.int p0]) (rest := [.int x4]) (c_L_rows hcv (M0 := M) y1) cf_L_rows k_433 rfl rfl ⟨Nat.le_of_ble_eq_true rfl, Nat.le_of_ble_eq_true rfl⟩ rfl hl.1 rfl (Nat.le_of_ble_eq_true rfl) ⟨Nat.le_refl _, Nat.le_refl _⟩ dL_write_49 (fun H locs hw hS => ?_)
      refine lv_icmp_ge (tgt := 90) hx hb dL_write_52 (by decide) (fun q3 => ?_) (fun q3 => ?_)
      · replace h := t_pos h q3
        refine lv_iload_n hx hb dL_write_90 rfl (lv_at hl 3 rfl) ?_
        have e1 := (t_ret h).1
        have e2 := (t_ret h).2
        exact e_i hx hb hr hlk hw hS e1 e2 dL_write_91
      · replace h := t_neg h q3
        refine lv_aload_n hx hb dL_write_55 rfl (lv_at hl 0 rfl) ?_
        refine lv_aload_n hx hb dL_write_56 rfl (lv_at hl 0 rfl) ?_
        refine lv_iload_n hx hb dL_write_57 rfl (lv_at hl 3 rfl) ?_
        refine lv_iload hx hb dL_write_58 (lv_at hl 4 rfl) ?_
        refine lv_if_ne (tgt := 68) hx hb dL_write_60 (by decide) (fun q4 => ?_) (fun q4 => ?_)
        · replace h := t_neg h q4
          refine lv_bipush (v := nI 44) hx hb dL_write_68 (by decide) ?_
          exact L70 (f_L_write_L46 p0 p1 n) ih M x4 x3 (nI 44) h H locs hw hS ls (lv_sub hl [0, 1, 2, 4] rfl)
        · replace h := t_pos h q4
          refine lv_bipush (v := nI 61) hx hb dL_write_63 (by decide) ?_
          refine lv_goto (tgt := 70) hx hb dL_write_65 (by decide) ?_
          exact L70 (f_L_write_L46 p0 p1 n) ih M x4 x3 (nI 61) h H locs hw hS ls (lv_sub hl [0, 1, 2, 4] rfl)
  unfold f_L_write at h
  have main : JL p l e ({ frames := 4, cells := 0, slots := 0, locals := 87 } : Room) s md args below meth c D cy ad (MQ below (QI D cy ad r x) args s 0 0 (AD ad)) (M) 5 [(0, .ref (ad 8 0)), (1, .int p0), (2, .int p1)] 0 [] := by
    intro H locs hw hS ls hl
    refine lv_aload_n hx hb dL_write_0 rfl (lv_at hl 0 rfl) ?_
    refine lv_aload_n hx hb dL_write_1 rfl (lv_at hl 0 rfl) ?_
    refine lv_iconst (v := nI 0) hx hb dL_write_2 (by decide) ?_
    refine lv_bipush (v := nI 48) hx hb dL_write_3 (by decide) ?_
    refine lv_iload_n hx hb dL_write_5 rfl (lv_at hl 1 rfl) ?_
    obtain ⟨r2, y1, h⟩ := t_b1 h
    refine c_si hx hb hml hown hts hK hw hS (fun _ h => h) (As := [.int p0]) (rest := [.int (nI 48), .int (nI 0), .ref (ad 8 0), .ref (ad 8 0)]) (c_L_layer hcv (M0 := M) y1) cf_L_layer k_416 rfl rfl ⟨Nat.le_of_ble_eq_true rfl, Nat.le_of_ble_eq_true rfl⟩ rfl hl.1 rfl (Nat.le_of_ble_eq_true rfl) ⟨Nat.le_refl _, Nat.le_refl _⟩ dL_write_6 (fun H locs hw hS => ?_)
    refine lv_iadd hx hb dL_write_9 ?_
    obtain ⟨r4, M5, y3, h⟩ := t_bd h
    refine c_si hx hb hml hown hts hK hw hS (fun _ h => h) (As := [.ref (ad 8 0), .int (nI 0), .int ((nI 48) + r2)]) (rest := [.ref (ad 8 0)]) (c_L_type hcv (M := M) y3) cf_L_type k_419 rfl rfl ⟨Nat.le_of_ble_eq_true rfl, Nat.le_of_ble_eq_true rfl⟩ rfl hl.1 rfl (Nat.le_of_ble_eq_true rfl) ⟨Nat.le_refl _, Nat.le_refl _⟩ dL_write_10 (fun H locs hw hS => ?_)
    refine lv_bipush (v := nI 58) hx hb dL_write_13 (by decide) ?_
    obtain ⟨r7, M8, y6, h⟩ := t_bd h
    refine c_si hx hb hml hown hts hK hw hS (fun _ h => h) (As := [.ref (ad 8 0), .int r4, .int (nI 58)]) (rest := []) (c_L_type hcv (M := M5) y6) cf_L_type k_419 rfl rfl ⟨Nat.le_of_ble_eq_true rfl, Nat.le_of_ble_eq_true rfl⟩ rfl hl.1 rfl (Nat.le_of_ble_eq_true rfl) ⟨Nat.le_refl _, Nat.le_refl _⟩ dL_write_15 (fun H locs hw hS => ?_)
    refine lv_istore_n (lv' := [(3, .int r7), (0, .ref (ad 8 0)), (1, .int p0), (2, .int p1)]) hx hb dL_write_18 rfl hl (by decide) rfl (fun ls hl => ?_)
    refine lv_aload_n hx hb dL_write_19 rfl (lv_at hl 1 rfl) ?_
    refine lv_aload_n hx hb dL_write_20 rfl (lv_at hl 1 rfl) ?_
    refine lv_aload_n hx hb dL_write_21 rfl (lv_at hl 1 rfl) ?_
    refine lv_iload_n hx hb dL_write_22 rfl (lv_at hl 0 rfl) ?_
    refine lv_iload_n hx hb dL_write_23 rfl (lv_at hl 2 rfl) ?_
    obtain ⟨r10, y9, h⟩ := t_b1 h
    refine c_si hx hb hml hown hts hK hw hS (fun _ h => h) (As := [.int p0]) (rest := [.int r7, .ref (ad 8 0), .ref (ad 8 0), .ref (ad 8 0)]) (c_L_bottom hcv (M0 := M8) y9) cf_L_bottom k_404 rfl rfl ⟨Nat.le_of_ble_eq_true rfl, Nat.le_of_ble_eq_true rfl⟩ rfl hl.1 rfl (Nat.le_of_ble_eq_true rfl) ⟨Nat.le_refl _, Nat.le_refl _⟩ dL_write_24 (fun H locs hw hS => ?_)
    obtain ⟨r12, M13, y11, h⟩ := t_bd h
    refine c_si hx hb hml hown hts hK hw hS (fun _ h => h) (As := [.ref (ad 8 0), .int r7, .int r10]) (rest := [.ref (ad 8 0), .ref (ad 8 0)]) (c_L_number hcv (M := M8) y11) cf_L_number k_430 rfl rfl ⟨Nat.le_of_ble_eq_true rfl, Nat.le_of_ble_eq_true rfl⟩ rfl hl.1 rfl (Nat.le_of_ble_eq_true rfl) ⟨Nat.le_refl _, Nat.le_refl _⟩ dL_write_27 (fun H locs hw hS => ?_)
    refine lv_bipush (v := nI 45) hx hb dL_write_30 (by decide) ?_
    obtain ⟨r15, M16, y14, h⟩ := t_bd h
    refine c_si hx hb hml hown hts hK hw hS (fun _ h => h) (As := [.ref (ad 8 0), .int r12, .int (nI 45)]) (rest := [.ref (ad 8 0)]) (c_L_type hcv (M := M13) y14) cf_L_type k_419 rfl rfl ⟨Nat.le_of_ble_eq_true rfl, Nat.le_of_ble_eq_true rfl⟩ rfl hl.1 rfl (Nat.le_of_ble_eq_true rfl) ⟨Nat.le_refl _, Nat.le_refl _⟩ dL_write_32 (fun H locs hw hS => ?_)
    refine lv_iload_n hx hb dL_write_35 rfl (lv_at hl 2 rfl) ?_
    obtain ⟨r18, y17, h⟩ := t_b1 h
    refine c_si hx hb hml hown hts hK hw hS (fun _ h => h) (As := [.int p0]) (rest := [.int r15, .ref (ad 8 0)]) (c_L_top hcv (M0 := M16) y17) cf_L_top k_407 rfl rfl ⟨Nat.le_of_ble_eq_true rfl, Nat.le_of_ble_eq_true rfl⟩ rfl hl.1 rfl (Nat.le_of_ble_eq_true rfl) ⟨Nat.le_refl _, Nat.le_refl _⟩ dL_write_36 (fun H locs hw hS => ?_)
    obtain ⟨r20, M21, y19, h⟩ := t_bd h
    refine c_si hx hb hml hown hts hK hw hS (fun _ h => h) (As := [.ref (ad 8 0), .int r15, .int r18]) (rest := []) (c_L_number hcv (M := M16) y19) cf_L_number k_430 rfl rfl ⟨Nat.le_of_ble_eq_true rfl, Nat.le_of_ble_eq_true rfl⟩ rfl hl.1 rfl (Nat.le_of_ble_eq_true rfl) ⟨Nat.le_refl _, Nat.le_refl _⟩ dL_write_39 (fun H locs hw hS => ?_)
    refine lv_istore_n (lv' := [(3, .int r20), (0, .ref (ad 8 0)), (1, .int p0), (2, .int p1)]) hx hb dL_write_42 rfl hl (by decide) rfl (fun ls hl => ?_)
    refine lv_iconst (v := nI 0) hx hb dL_write_43 (by decide) ?_
    refine lv_istore (lv' := [(4, .int (nI 0)), (3, .int r20), (0, .ref (ad 8 0)), (1, .int p0), (2, .int p1)]) hx hb dL_write_44 hl (by decide) rfl (fun ls hl => ?_)
    exact L46 FU M21 r20 (nI 0) h H locs hw hS ls (lv_sub hl [2, 3, 4, 1, 0] rfl)
  exact main _ _ hw hS ls hl

theorem cf_L_build : cfS RL yL_build cL_build 11 (some .boolean) 2 := ⟨⟨k_411, k_0, k_412⟩, by decide +kernel⟩
def f_L_build_L286 (k175 : MM → Int32 → Int32 → Int32 → Int32 → Option (Int32 × MM)) (L : Nat) (xs : Nat → Int32) (M : MM) (x2 : Int32) (x3 : Int32) (x4 : Int32) (x5 : Int32) (x7 : Int32) (x8 : Int32) (x9 : Int32) (s0 : Int32) : Option (Int32 × MM) :=
  bd (f_X5_ask M x7 x8 x9 s0) fun r2 M3 => (if r2 = x5 then b1 (f_X5_question M3 x5 (nI 0)) fun r6 => (if r6 = x7 then b1 (f_X5_question M3 x5 (nI 1)) fun r9 => (if r9 = x8 then b1 (f_X5_question M3 x5 (nI 2)) fun r12 => (if r12 = x9 then b1 (f_X5_question M3 x5 (nI 3)) fun r15 => (if r15 = s0 then k175 M3 x2 x3 x4 (x5 + (nI 1)) else some ((nI 0), M3)) else some ((nI 0), M3)) else some ((nI 0), M3)) else some ((nI 0), M3)) else some ((nI 0), M3))
def f_L_build_L283 (k175 : MM → Int32 → Int32 → Int32 → Int32 → Option (Int32 × MM)) (L : Nat) (xs : Nat → Int32) (M : MM) (x2 : Int32) (x3 : Int32) (x4 : Int32) (x5 : Int32) (x7 : Int32) (x8 : Int32) (x9 : Int32) (s0 : Int32) (s1 : Int32) : Option (Int32 × MM) :=
  b1 (f_L_low s0 s1) fun r2 => f_L_build_L286 k175 L xs M x2 x3 x4 x5 x7 x8 x9 r2
def f_L_build_L235 (k175 : MM → Int32 → Int32 → Int32 → Int32 → Option (Int32 × MM)) (L : Nat) (xs : Nat → Int32) (M : MM) (x2 : Int32) (x3 : Int32) (x4 : Int32) (x5 : Int32) (x6 : Int32) (x7 : Int32) (x8 : Int32) (s0 : Int32) : Option (Int32 × MM) :=
  b1 (f_L_low (x6 >>> ((nI 17) &&& 31)) (nI 4)) fun r2 => (if r2 = (nI 0) then f_L_build_L286 k175 L xs M x2 x3 x4 x5 x7 x8 s0 (nI 0) else (if x7 = (nI 1) then f_L_build_L283 k175 L xs M x2 x3 x4 x5 x7 x8 s0 (x6 >>> ((nI 19) &&& 31)) (nI 5) else (if x7 = (nI 4) then f_L_build_L283 k175 L xs M x2 x3 x4 x5 x7 x8 s0 (x6 >>> ((nI 19) &&& 31)) (nI 3000) else f_L_build_L283 k175 L xs M x2 x3 x4 x5 x7 x8 s0 (x6 >>> ((nI 19) &&& 31)) (nI 300))))
def f_L_build_L394 (L : Nat) (xs : Nat → Int32) (M : MM) (x2 : Int32) (x3 : Int32) (x4 : Int32) (s0 : Int32) (s1 : Int32) : Option (Int32 × MM) :=
  (if s0 = s1 then b1 (f_X5_count M (nI 0)) fun r3 => (if r3 = x2 then b1 (f_X5_count M (nI 1)) fun r6 => (if r6 = x4 then b1 (f_X5_count M (nI 4)) fun r9 => (if r9 = x3 then b1 (f_X5_count M (nI 5)) fun r12 => (if r12 = (nI 0) then some ((nI 1), M) else some ((nI 0), M)) else some ((nI 0), M)) else some ((nI 0), M)) else some ((nI 0), M)) else some ((nI 0), M))
def f_L_build_L361 (L : Nat) (xs : Nat → Int32) (M : MM) (x2 : Int32) (x3 : Int32) (x4 : Int32) : Option (Int32 × MM) :=
  b1 (f_L_cell L xs (nI 23)) fun r2 => b1 (f_L_low r2 (nI 3)) fun r4 => bd (f_X5_setPlan M r4) fun r6 M7 => (if r4 = (nI 0) then f_L_build_L394 L xs M7 x2 x3 x4 r6 (-5 : Int32) else f_L_build_L394 L xs M7 x2 x3 x4 r6 (nI 0))
def f_L_build_L175 (L : Nat) (xs : Nat → Int32) : Nat → MM → Int32 → Int32 → Int32 → Int32 → Option (Int32 × MM)
  | 0, _, _, _, _, _ => none
  | n + 1, M, x2, x3, x4, x5 => (if x4 ≤ x5 then f_L_build_L361 L xs M x2 x3 x4 else b1 (f_L_cell L xs ((nI 18) + x5)) fun r3 => b1 (f_L_low r3 (nI 5)) fun r5 => b1 (f_L_low (r3 >>> ((nI 3) &&& 31)) (nI 15)) fun r7 => (if r5 = (nI 1) then b1 (f_L_low (r3 >>> ((nI 7) &&& 31)) (nI 700)) fun r10 => f_L_build_L235 (f_L_build_L175 L xs n) L xs M x2 x3 x4 x5 r3 r5 ((nI 1) + r7) r10 else f_L_build_L235 (f_L_build_L175 L xs n) L xs M x2 x3 x4 x5 r3 r5 ((nI 1) + r7) (nI 0)))
def f_L_build_L158 (L : Nat) (xs : Nat → Int32) (M : MM) (x2 : Int32) (x3 : Int32) : Option (Int32 × MM) :=
  b1 (f_L_cell L xs (nI 17)) fun r2 => b1 (f_L_low r2 (nI 5)) fun r4 => f_L_build_L175 L xs FU M x2 x3 ((nI 1) + r4) (nI 0)
def f_L_build_L18 (L : Nat) (xs : Nat → Int32) : Nat → MM → Int32 → Int32 → Int32 → Option (Int32 × MM)
  | 0, _, _, _, _ => none
  | n + 1, M, x2, x3, x4 => (if x2 ≤ x4 then f_L_build_L158 L xs M x2 x3 else b1 (f_L_cell L xs ((nI 1) + ((nI 2) * x4))) fun r3 => b1 (f_L_cell L xs ((nI 2) + ((nI 2) * x4))) fun r5 => bd (f_L_write M r3 r5) fun r7 M8 => b1 (f_L_rows r3) fun r10 => bd (f_X5_addBlock M8) fun r12 M13 => (if r12 = x4 then bd (f_X5_clearText M13) fun r16 M17 => (if r16 = r7 then b1 (f_X5_block M17 x4 (nI 0)) fun r20 => b1 (f_L_layer r3) fun r22 => (if r20 = r22 then b1 (f_X5_block M17 x4 (nI 1)) fun r25 => b1 (f_L_bottom r3) fun r27 => (if r25 = r27 then b1 (f_X5_block M17 x4 (nI 2)) fun r30 => b1 (f_L_top r3) fun r32 => (if r30 = r32 then b1 (f_X5_block M17 x4 (nI 3)) fun r35 => b1 (f_L_rows r3) fun r37 => (if r35 = r37 then b1 (f_X5_block M17 x4 (nI 4)) fun r40 => (if r40 = (nI 0) then f_L_build_L18 L xs n M17 x2 (x3 + r10) (x4 + (nI 1)) else some ((nI 0), M17)) else some ((nI 0), M17)) else some ((nI 0), M17)) else some ((nI 0), M17)) else some ((nI 0), M17)) else some ((nI 0), M17)) else some ((nI 0), M13)))
def f_L_build (M : MM) (L : Nat) (xs : Nat → Int32) : Option (Int32 × MM) :=
  b1 (f_L_cell L xs (nI 0)) fun r2 => b1 (f_L_low r2 (nI 7)) fun r4 => f_L_build_L18 L xs FU M ((nI 1) + r4) (nI 0) (nI 0)
set_option maxHeartbeats 4000000 in
set_option maxRecDepth 100000 in
theorem c_L_build {l : Launch} {D : va_G} {cy : Nat → ClassId} {ad : Nat → Nat → Nat} (hcv : CV ad) {M : MM} {b L : Nat} {xs : Nat → Int32} (hbA : ¬ AD ad b) {r : Int32} {x : MM} (h : f_L_build M L xs = some (r, x)) : Met l yL_build (.code yL_build cL_build 11 (some .boolean) :: TB) ({ frames := 6, cells := 0, slots := 0, locals := 150 } : Room) (PX D cy ad M b L xs [.ref (ad 8 0), .ref b]) (QI D cy ad r x) 0 0 (AD ad) := by
  refine m_inx (by decide +kernel) (Nat.le_of_ble_eq_true rfl) ?_
  intro p e s md args below meth c hC hw hX hbl hS ls hl
  obtain ⟨hx, hb, hr, hml, hown, hts, hK, hlk⟩ := hC
  have hl : lv_has ls 11 [(0, .ref (ad 8 0)), (1, .ref b)] := hl
  have L286 : ∀ (k175 : MM → Int32 → Int32 → Int32 → Int32 → Option (Int32 × MM)) (hk175 : ∀ (M : MM) (x2 : Int32) (x3 : Int32) (x4 : Int32) (x5 : Int32), k175 M x2 x3 x4 x5 = some (r, x) → JL p l e ({ frames := 6, cells := 0, slots := 0, locals := 150 } : Room) s md args below meth c D cy ad (MQ below (QI D cy ad r x) args s 0 0 (AD ad)) (M) 11 [(0, .ref (ad 8 0)), (1, .ref b), (2, .int x2), (3, .int x3), (4, .int x4), (5, .int x5)] 175 []), ∀ (M : MM) (x2 : Int32) (x3 : Int32) (x4 : Int32) (x5 : Int32) (x7 : Int32) (x8 : Int32) (x9 : Int32) (s0 : Int32), f_L_build_L286 k175 L xs M x2 x3 x4 x5 x7 x8 x9 s0 = some (r, x) → JL p l e ({ frames := 6, cells := 0, slots := 0, locals := 150 } : Room) s md args below meth c D cy ad (MQ below (QI D cy ad r x) args s 0 0 (AD ad)) (M) 11 [(0, .ref (ad 8 0)), (1, .ref b), (2, .int x2), (3, .int x3), (4, .int x4), (5, .int x5), (7, .int x7), (8, .int x8), (9, .int x9)] 286 [.int s0] := by
    intro k175 hk175 M x2 x3 x4 x5 x7 x8 x9 s0 h H locs hw hS ls hl
    unfold f_L_build_L286 at h
    refine lv_istore (lv' := [(10, .int s0), (0, .ref (ad 8 0)), (1, .ref b), (2, .int x2), (3, .int x3), (4, .int x4), (5, .int x5), (7, .int x7), (8, .int x8), (9, .int x9)]) hx hb dL_build_286 hl (by decide) rfl (fun ls hl => ?_)
    refine lv_aload_n hx hb dL_build_288 rfl (lv_at hl 1 rfl) ?_
    refine lv_iload hx hb dL_build_289 (lv_at hl 7 rfl) ?_
    refine lv_iload hx hb dL_build_291 (lv_at hl 8 rfl) ?_
    refine lv_iload hx hb dL_build_293 (lv_at hl 9 rfl) ?_
    refine lv_iload hx hb dL_build_295 (lv_at hl 0 rfl) ?_
    obtain ⟨r2, M3, y1, h⟩ := t_bd h
    refine c_vi hx hb hml hown hts hK hw hS (fun _ h => h) (As := [.int x7, .int x8, .int x9, .int s0]) (rest := []) (c_X5_ask hcv (M := M) y1) cf_X5_ask k_482 rfl rfl ⟨Nat.le_of_ble_eq_true rfl, Nat.le_of_ble_eq_true rfl⟩ (r_recv hK hw (v_mn (by decide)) E_mn rfl) rfl hl.1 rfl (Nat.le_of_ble_eq_true rfl) ⟨Nat.le_refl _, Nat.le_refl _⟩ dL_build_297 (fun H locs hw hS => ?_)
    refine lv_iload hx hb dL_build_300 (lv_at hl 6 rfl) ?_
    refine lv_icmp_ne (tgt := 353) hx hb dL_build_302 (by decide) (fun q4 => ?_) (fun q4 => ?_)
    · replace h := t_neg h q4
      refine lv_iconst (v := nI 0) hx hb dL_build_353 (by decide) ?_
      have e1 := (t_ret h).1
      have e2 := (t_ret h).2
      exact e_z hx hb hr hlk (Or.inl rfl) hw hS e1 e2 dL_build_354
    · replace h := t_pos h q4
      refine lv_aload_n hx hb dL_build_305 rfl (lv_at hl 1 rfl) ?_
      refine lv_iload hx hb dL_build_306 (lv_at hl 6 rfl) ?_
      refine lv_iconst (v := nI 0) hx hb dL_build_308 (by decide) ?_
      obtain ⟨r6, y5, h⟩ := t_b1 h
      refine c_vi hx hb hml hown hts hK hw hS (fun _ h => h) (As := [.int x5, .int (nI 0)]) (rest := []) (c_X5_question hcv (M := M3) y5) cf_X5_question k_361 rfl rfl ⟨Nat.le_of_ble_eq_true rfl, Nat.le_of_ble_eq_true rfl⟩ (r_recv hK hw (v_mn (by decide)) E_mn rfl) rfl hl.1 rfl (Nat.le_of_ble_eq_true rfl) ⟨Nat.le_refl _, Nat.le_refl _⟩ dL_build_309 (fun H locs hw hS => ?_)
      refine lv_iload hx hb dL_build_312 (lv_at hl 7 rfl) ?_
      refine lv_icmp_ne (tgt := 353) hx hb dL_build_314 (by decide) (fun q7 => ?_) (fun q7 => ?_)
      · replace h := t_neg h q7
        refine lv_iconst (v := nI 0) hx hb dL_build_353 (by decide) ?_
        have e1 := (t_ret h).1
        have e2 := (t_ret h).2
        exact e_z hx hb hr hlk (Or.inl rfl) hw hS e1 e2 dL_build_354
      · replace h := t_pos h q7
        refine lv_aload_n hx hb dL_build_317 rfl (lv_at hl 1 rfl) ?_
        refine lv_iload hx hb dL_build_318 (lv_at hl 6 rfl) ?_
        refine lv_iconst (v := nI 1) hx hb dL_build_320 (by decide) ?_
        obtain ⟨r9, y8, h⟩ := t_b1 h
        refine c_vi hx hb hml hown hts hK hw hS (fun _ h => h) (As := [.int x5, .int (nI 1)]) (rest := []) (c_X5_question hcv (M := M3) y8) cf_X5_question k_361 rfl rfl ⟨Nat.le_of_ble_eq_true rfl, Nat.le_of_ble_eq_true rfl⟩ (r_recv hK hw (v_mn (by decide)) E_mn rfl) rfl hl.1 rfl (Nat.le_of_ble_eq_true rfl) ⟨Nat.le_refl _, Nat.le_refl _⟩ dL_build_321 (fun H locs hw hS => ?_)
        refine lv_iload hx hb dL_build_324 (lv_at hl 8 rfl) ?_
        refine lv_icmp_ne (tgt := 353) hx hb dL_build_326 (by decide) (fun q10 => ?_) (fun q10 => ?_)
        · replace h := t_neg h q10
          refine lv_iconst (v := nI 0) hx hb dL_build_353 (by decide) ?_
          have e1 := (t_ret h).1
          have e2 := (t_ret h).2
          exact e_z hx hb hr hlk (Or.inl rfl) hw hS e1 e2 dL_build_354
        · replace h := t_pos h q10
          refine lv_aload_n hx hb dL_build_329 rfl (lv_at hl 1 rfl) ?_
          refine lv_iload hx hb dL_build_330 (lv_at hl 6 rfl) ?_
          refine lv_iconst (v := nI 2) hx hb dL_build_332 (by decide) ?_
          obtain ⟨r12, y11, h⟩ := t_b1 h
          refine c_vi hx hb hml hown hts hK hw hS (fun _ h => h) (As := [.int x5, .int (nI 2)]) (rest := []) (c_X5_question hcv (M := M3) y11) cf_X5_question k_361 rfl rfl ⟨Nat.le_of_ble_eq_true rfl, Nat.le_of_ble_eq_true rfl⟩ (r_recv hK hw (v_mn (by decide)) E_mn rfl) rfl hl.1 rfl (Nat.le_of_ble_eq_true rfl) ⟨Nat.le_refl _, Nat.le_refl _⟩ dL_build_333 (fun H locs hw hS => ?_)
          refine lv_iload hx hb dL_build_336 (lv_at hl 9 rfl) ?_
          refine lv_icmp_ne (tgt := 353) hx hb dL_build_338 (by decide) (fun q13 => ?_) (fun q13 => ?_)
          · replace h := t_neg h q13
            refine lv_iconst (v := nI 0) hx hb dL_build_353 (by decide) ?_
            have e1 := (t_ret h).1
            have e2 := (t_ret h).2
            exact e_z hx hb hr hlk (Or.inl rfl) hw hS e1 e2 dL_build_354
          · replace h := t_pos h q13
            refine lv_aload_n hx hb dL_build_341 rfl (lv_at hl 1 rfl) ?_
            refine lv_iload hx hb dL_build_342 (lv_at hl 6 rfl) ?_
            refine lv_iconst (v := nI 3) hx hb dL_build_344 (by decide) ?_
            obtain ⟨r15, y14, h⟩ := t_b1 h
            refine c_vi hx hb hml hown hts hK hw hS (fun _ h => h) (As := [.int x5, .int (nI 3)]) (rest := []) (c_X5_question hcv (M := M3) y14) cf_X5_question k_361 rfl rfl ⟨Nat.le_of_ble_eq_true rfl, Nat.le_of_ble_eq_true rfl⟩ (r_recv hK hw (v_mn (by decide)) E_mn rfl) rfl hl.1 rfl (Nat.le_of_ble_eq_true rfl) ⟨Nat.le_refl _, Nat.le_refl _⟩ dL_build_345 (fun H locs hw hS => ?_)
            refine lv_iload hx hb dL_build_348 (lv_at hl 0 rfl) ?_
            refine lv_icmp_eq (tgt := 355) hx hb dL_build_350 (by decide) (fun q16 => ?_) (fun q16 => ?_)
            · replace h := t_pos h q16
              refine lv_iinc (v := (x5 + (nI 1))) (lv' := [(5, .int (x5 + (nI 1))), (10, .int s0), (0, .ref (ad 8 0)), (1, .ref b), (2, .int x2), (3, .int x3), (4, .int x4), (7, .int x7), (8, .int x8), (9, .int x9)]) hx hb dL_build_355 hl (k := 6) rfl rfl (by decide) rfl (fun ls hl => ?_)
              refine lv_goto (tgt := 175) hx hb dL_build_358 (by decide) ?_
              exact hk175 M3 x2 x3 x4 (x5 + (nI 1)) h H locs hw hS ls (lv_sub hl [2, 3, 4, 5, 6, 0] rfl)
            · replace h := t_neg h q16
              refine lv_iconst (v := nI 0) hx hb dL_build_353 (by decide) ?_
              have e1 := (t_ret h).1
              have e2 := (t_ret h).2
              exact e_z hx hb hr hlk (Or.inl rfl) hw hS e1 e2 dL_build_354
  have L283 : ∀ (k175 : MM → Int32 → Int32 → Int32 → Int32 → Option (Int32 × MM)) (hk175 : ∀ (M : MM) (x2 : Int32) (x3 : Int32) (x4 : Int32) (x5 : Int32), k175 M x2 x3 x4 x5 = some (r, x) → JL p l e ({ frames := 6, cells := 0, slots := 0, locals := 150 } : Room) s md args below meth c D cy ad (MQ below (QI D cy ad r x) args s 0 0 (AD ad)) (M) 11 [(0, .ref (ad 8 0)), (1, .ref b), (2, .int x2), (3, .int x3), (4, .int x4), (5, .int x5)] 175 []), ∀ (M : MM) (x2 : Int32) (x3 : Int32) (x4 : Int32) (x5 : Int32) (x7 : Int32) (x8 : Int32) (x9 : Int32) (s0 : Int32) (s1 : Int32), f_L_build_L283 k175 L xs M x2 x3 x4 x5 x7 x8 x9 s0 s1 = some (r, x) → JL p l e ({ frames := 6, cells := 0, slots := 0, locals := 150 } : Room) s md args below meth c D cy ad (MQ below (QI D cy ad r x) args s 0 0 (AD ad)) (M) 11 [(0, .ref (ad 8 0)), (1, .ref b), (2, .int x2), (3, .int x3), (4, .int x4), (5, .int x5), (7, .int x7), (8, .int x8), (9, .int x9)] 283 [.int s1, .int s0] := by
    intro k175 hk175 M x2 x3 x4 x5 x7 x8 x9 s0 s1 h H locs hw hS ls hl
    unfold f_L_build_L283 at h
    obtain ⟨r2, y1, h⟩ := t_b1 h
    refine c_si hx hb hml hown hts hK hw hS (fun _ h => h) (As := [.int s0, .int s1]) (rest := []) (c_L_low hcv (M0 := M) y1) cf_L_low k_397 rfl rfl ⟨Nat.le_of_ble_eq_true rfl, Nat.le_of_ble_eq_true rfl⟩ rfl hl.1 rfl (Nat.le_of_ble_eq_true rfl) ⟨Nat.le_refl _, Nat.le_refl _⟩ dL_build_283 (fun H locs hw hS => ?_)
    exact L286 k175 hk175 M x2 x3 x4 x5 x7 x8 x9 r2 h H locs hw hS ls (lv_sub hl [0, 1, 2, 3, 4, 5, 6, 7, 8] rfl)
  have L235 : ∀ (k175 : MM → Int32 → Int32 → Int32 → Int32 → Option (Int32 × MM)) (hk175 : ∀ (M : MM) (x2 : Int32) (x3 : Int32) (x4 : Int32) (x5 : Int32), k175 M x2 x3 x4 x5 = some (r, x) → JL p l e ({ frames := 6, cells := 0, slots := 0, locals := 150 } : Room) s md args below meth c D cy ad (MQ below (QI D cy ad r x) args s 0 0 (AD ad)) (M) 11 [(0, .ref (ad 8 0)), (1, .ref b), (2, .int x2), (3, .int x3), (4, .int x4), (5, .int x5)] 175 []), ∀ (M : MM) (x2 : Int32) (x3 : Int32) (x4 : Int32) (x5 : Int32) (x6 : Int32) (x7 : Int32) (x8 : Int32) (s0 : Int32), f_L_build_L235 k175 L xs M x2 x3 x4 x5 x6 x7 x8 s0 = some (r, x) → JL p l e ({ frames := 6, cells := 0, slots := 0, locals := 150 } : Room) s md args below meth c D cy ad (MQ below (QI D cy ad r x) args s 0 0 (AD ad)) (M) 11 [(0, .ref (ad 8 0)), (1, .ref b), (2, .int x2), (3, .int x3), (4, .int x4), (5, .int x5), (6, .int x6), (7, .int x7), (8, .int x8)] 235 [.int s0] := by
    intro k175 hk175 M x2 x3 x4 x5 x6 x7 x8 s0 h H locs hw hS ls hl
    unfold f_L_build_L235 at h
    refine lv_istore (lv' := [(9, .int s0), (0, .ref (ad 8 0)), (1, .ref b), (2, .int x2), (3, .int x3), (4, .int x4), (5, .int x5), (6, .int x6), (7, .int x7), (8, .int x8)]) hx hb dL_build_235 hl (by decide) rfl (fun ls hl => ?_)
    refine lv_iload hx hb dL_build_237 (lv_at hl 7 rfl) ?_
    refine lv_bipush (v := nI 17) hx hb dL_build_239 (by decide) ?_
    refine lv_ishr hx hb dL_build_241 ?_
    refine lv_iconst (v := nI 4) hx hb dL_build_242 (by decide) ?_
    obtain ⟨r2, y1, h⟩ := t_b1 h
    refine c_si hx hb hml hown hts hK hw hS (fun _ h => h) (As := [.int (x6 >>> ((nI 17) &&& 31)), .int (nI 4)]) (rest := []) (c_L_low hcv (M0 := M) y1) cf_L_low k_397 rfl rfl ⟨Nat.le_of_ble_eq_true rfl, Nat.le_of_ble_eq_true rfl⟩ rfl hl.1 rfl (Nat.le_of_ble_eq_true rfl) ⟨Nat.le_refl _, Nat.le_refl _⟩ dL_build_243 (fun H locs hw hS => ?_)
    refine lv_if_ne (tgt := 253) hx hb dL_build_246 (by decide) (fun q3 => ?_) (fun q3 => ?_)
    · replace h := t_neg h q3
      refine lv_iload hx hb dL_build_253 (lv_at hl 7 rfl) ?_
      refine lv_bipush (v := nI 19) hx hb dL_build_255 (by decide) ?_
      refine lv_ishr hx hb dL_build_257 ?_
      refine lv_iload hx hb dL_build_258 (lv_at hl 8 rfl) ?_
      refine lv_iconst (v := nI 1) hx hb dL_build_260 (by decide) ?_
      refine lv_icmp_ne (tgt := 268) hx hb dL_build_261 (by decide) (fun q4 => ?_) (fun q4 => ?_)
      · replace h := t_neg h q4
        refine lv_iload hx hb dL_build_268 (lv_at hl 8 rfl) ?_
        refine lv_iconst (v := nI 4) hx hb dL_build_270 (by decide) ?_
        refine lv_icmp_ne (tgt := 280) hx hb dL_build_271 (by decide) (fun q5 => ?_) (fun q5 => ?_)
        · replace h := t_neg h q5
          refine lv_sipush (v := nI 300) hx hb dL_build_280 (by decide) ?_
          exact L283 k175 hk175 M x2 x3 x4 x5 x7 x8 s0 (x6 >>> ((nI 19) &&& 31)) (nI 300) h H locs hw hS ls (lv_sub hl [1, 2, 3, 4, 5, 6, 8, 9, 0] rfl)
        · replace h := t_pos h q5
          refine lv_sipush (v := nI 3000) hx hb dL_build_274 (by decide) ?_
          refine lv_goto (tgt := 283) hx hb dL_build_277 (by decide) ?_
          exact L283 k175 hk175 M x2 x3 x4 x5 x7 x8 s0 (x6 >>> ((nI 19) &&& 31)) (nI 3000) h H locs hw hS ls (lv_sub hl [1, 2, 3, 4, 5, 6, 8, 9, 0] rfl)
      · replace h := t_pos h q4
        refine lv_iconst (v := nI 5) hx hb dL_build_264 (by decide) ?_
        refine lv_goto (tgt := 283) hx hb dL_build_265 (by decide) ?_
        exact L283 k175 hk175 M x2 x3 x4 x5 x7 x8 s0 (x6 >>> ((nI 19) &&& 31)) (nI 5) h H locs hw hS ls (lv_sub hl [1, 2, 3, 4, 5, 6, 8, 9, 0] rfl)
    · replace h := t_pos h q3
      refine lv_iconst (v := nI 0) hx hb dL_build_249 (by decide) ?_
      refine lv_goto (tgt := 286) hx hb dL_build_250 (by decide) ?_
      exact L286 k175 hk175 M x2 x3 x4 x5 x7 x8 s0 (nI 0) h H locs hw hS ls (lv_sub hl [1, 2, 3, 4, 5, 6, 8, 9, 0] rfl)
  have L394 : ∀ (M : MM) (x2 : Int32) (x3 : Int32) (x4 : Int32) (s0 : Int32) (s1 : Int32), f_L_build_L394 L xs M x2 x3 x4 s0 s1 = some (r, x) → JL p l e ({ frames := 6, cells := 0, slots := 0, locals := 150 } : Room) s md args below meth c D cy ad (MQ below (QI D cy ad r x) args s 0 0 (AD ad)) (M) 11 [(0, .ref (ad 8 0)), (2, .int x2), (3, .int x3), (4, .int x4)] 394 [.int s1, .int s0] := by
    intro M x2 x3 x4 s0 s1 h H locs hw hS ls hl
    unfold f_L_build_L394 at h
    refine lv_icmp_ne (tgt := 437) hx hb dL_build_394 (by decide) (fun q1 => ?_) (fun q1 => ?_)
    · replace h := t_neg h q1
      refine lv_iconst (v := nI 0) hx hb dL_build_437 (by decide) ?_
      have e1 := (t_ret h).1
      have e2 := (t_ret h).2
      exact e_z hx hb hr hlk (Or.inl rfl) hw hS e1 e2 dL_build_438
    · replace h := t_pos h q1
      refine lv_aload_n hx hb dL_build_397 rfl (lv_at hl 0 rfl) ?_
      refine lv_iconst (v := nI 0) hx hb dL_build_398 (by decide) ?_
      obtain ⟨r3, y2, h⟩ := t_b1 h
      refine c_vi hx hb hml hown hts hK hw hS (fun _ h => h) (As := [.int (nI 0)]) (rest := []) (c_X5_count hcv (M := M) y2) cf_X5_count k_388 rfl rfl ⟨Nat.le_of_ble_eq_true rfl, Nat.le_of_ble_eq_true rfl⟩ (r_recv hK hw (v_mn (by decide)) E_mn rfl) rfl hl.1 rfl (Nat.le_of_ble_eq_true rfl) ⟨Nat.le_refl _, Nat.le_refl _⟩ dL_build_399 (fun H locs hw hS => ?_)
      refine lv_iload_n hx hb dL_build_402 rfl (lv_at hl 1 rfl) ?_
      refine lv_icmp_ne (tgt := 437) hx hb dL_build_403 (by decide) (fun q4 => ?_) (fun q4 => ?_)
      · replace h := t_neg h q4
        refine lv_iconst (v := nI 0) hx hb dL_build_437 (by decide) ?_
        have e1 := (t_ret h).1
        have e2 := (t_ret h).2
        exact e_z hx hb hr hlk (Or.inl rfl) hw hS e1 e2 dL_build_438
      · replace h := t_pos h q4
        refine lv_aload_n hx hb dL_build_406 rfl (lv_at hl 0 rfl) ?_
        refine lv_iconst (v := nI 1) hx hb dL_build_407 (by decide) ?_
        obtain ⟨r6, y5, h⟩ := t_b1 h
        refine c_vi hx hb hml hown hts hK hw hS (fun _ h => h) (As := [.int (nI 1)]) (rest := []) (c_X5_count hcv (M := M) y5) cf_X5_count k_388 rfl rfl ⟨Nat.le_of_ble_eq_true rfl, Nat.le_of_ble_eq_true rfl⟩ (r_recv hK hw (v_mn (by decide)) E_mn rfl) rfl hl.1 rfl (Nat.le_of_ble_eq_true rfl) ⟨Nat.le_refl _, Nat.le_refl _⟩ dL_build_408 (fun H locs hw hS => ?_)
        refine lv_iload hx hb dL_build_411 (lv_at hl 3 rfl) ?_
        refine lv_icmp_ne (tgt := 437) hx hb dL_build_413 (by decide) (fun q7 => ?_) (fun q7 => ?_)
        · replace h := t_neg h q7
          refine lv_iconst (v := nI 0) hx hb dL_build_437 (by decide) ?_
          have e1 := (t_ret h).1
          have e2 := (t_ret h).2
          exact e_z hx hb hr hlk (Or.inl rfl) hw hS e1 e2 dL_build_438
        · replace h := t_pos h q7
          refine lv_aload_n hx hb dL_build_416 rfl (lv_at hl 0 rfl) ?_
          refine lv_iconst (v := nI 4) hx hb dL_build_417 (by decide) ?_
          obtain ⟨r9, y8, h⟩ := t_b1 h
          refine c_vi hx hb hml hown hts hK hw hS (fun _ h => h) (As := [.int (nI 4)]) (rest := []) (c_X5_count hcv (M := M) y8) cf_X5_count k_388 rfl rfl ⟨Nat.le_of_ble_eq_true rfl, Nat.le_of_ble_eq_true rfl⟩ (r_recv hK hw (v_mn (by decide)) E_mn rfl) rfl hl.1 rfl (Nat.le_of_ble_eq_true rfl) ⟨Nat.le_refl _, Nat.le_refl _⟩ dL_build_418 (fun H locs hw hS => ?_)
          refine lv_iload_n hx hb dL_build_421 rfl (lv_at hl 2 rfl) ?_
          refine lv_icmp_ne (tgt := 437) hx hb dL_build_422 (by decide) (fun q10 => ?_) (fun q10 => ?_)
          · replace h := t_neg h q10
            refine lv_iconst (v := nI 0) hx hb dL_build_437 (by decide) ?_
            have e1 := (t_ret h).1
            have e2 := (t_ret h).2
            exact e_z hx hb hr hlk (Or.inl rfl) hw hS e1 e2 dL_build_438
          · replace h := t_pos h q10
            refine lv_aload_n hx hb dL_build_425 rfl (lv_at hl 0 rfl) ?_
            refine lv_iconst (v := nI 5) hx hb dL_build_426 (by decide) ?_
            obtain ⟨r12, y11, h⟩ := t_b1 h
            refine c_vi hx hb hml hown hts hK hw hS (fun _ h => h) (As := [.int (nI 5)]) (rest := []) (c_X5_count hcv (M := M) y11) cf_X5_count k_388 rfl rfl ⟨Nat.le_of_ble_eq_true rfl, Nat.le_of_ble_eq_true rfl⟩ (r_recv hK hw (v_mn (by decide)) E_mn rfl) rfl hl.1 rfl (Nat.le_of_ble_eq_true rfl) ⟨Nat.le_refl _, Nat.le_refl _⟩ dL_build_427 (fun H locs hw hS => ?_)
            refine lv_if_ne (tgt := 437) hx hb dL_build_430 (by decide) (fun q13 => ?_) (fun q13 => ?_)
            · replace h := t_neg h q13
              refine lv_iconst (v := nI 0) hx hb dL_build_437 (by decide) ?_
              have e1 := (t_ret h).1
              have e2 := (t_ret h).2
              exact e_z hx hb hr hlk (Or.inl rfl) hw hS e1 e2 dL_build_438
            · replace h := t_pos h q13
              refine lv_iconst (v := nI 1) hx hb dL_build_433 (by decide) ?_
              refine lv_goto (tgt := 438) hx hb dL_build_434 (by decide) ?_
              have e1 := (t_ret h).1
              have e2 := (t_ret h).2
              exact e_z hx hb hr hlk (Or.inr rfl) hw hS e1 e2 dL_build_438
  have L361 : ∀ (M : MM) (x2 : Int32) (x3 : Int32) (x4 : Int32), f_L_build_L361 L xs M x2 x3 x4 = some (r, x) → JL p l e ({ frames := 6, cells := 0, slots := 0, locals := 150 } : Room) s md args below meth c D cy ad (MQ below (QI D cy ad r x) args s 0 0 (AD ad)) (M) 11 [(0, .ref (ad 8 0)), (1, .ref b), (2, .int x2), (3, .int x3), (4, .int x4)] 361 [] := by
    intro M x2 x3 x4 h H locs hw hS ls hl
    unfold f_L_build_L361 at h
    refine lv_aload_n hx hb dL_build_361 rfl (lv_at hl 1 rfl) ?_
    refine lv_bipush (v := nI 23) hx hb dL_build_362 (by decide) ?_
    obtain ⟨r2, y1, h⟩ := t_b1 h
    refine c_six hx hb hml hown hts hK hw hS (fun _ h => h) hX hbl hbA (As := [.ref b, .int (nI 23)]) (rest := []) (c_L_cell hcv (M0 := M) (b := b) (L := L) (xs := xs) (hbA := hbA) y1) cf_L_cell k_392 rfl rfl ⟨Nat.le_of_ble_eq_true rfl, Nat.le_of_ble_eq_true rfl⟩ rfl hl.1 rfl (Nat.le_of_ble_eq_true rfl) ⟨Nat.le_refl _, Nat.le_refl _⟩ dL_build_364 (fun H locs hw hS => ?_)
    refine lv_iconst (v := nI 3) hx hb dL_build_367 (by decide) ?_
    obtain ⟨r4, y3, h⟩ := t_b1 h
    refine c_si hx hb hml hown hts hK hw hS (fun _ h => h) (As := [.int r2, .int (nI 3)]) (rest := []) (c_L_low hcv (M0 := M) y3) cf_L_low k_397 rfl rfl ⟨Nat.le_of_ble_eq_true rfl, Nat.le_of_ble_eq_true rfl⟩ rfl hl.1 rfl (Nat.le_of_ble_eq_true rfl) ⟨Nat.le_refl _, Nat.le_refl _⟩ dL_build_368 (fun H locs hw hS => ?_)
    refine lv_istore (lv' := [(5, .int r4), (0, .ref (ad 8 0)), (1, .ref b), (2, .int x2), (3, .int x3), (4, .int x4)]) hx hb dL_build_371 hl (by decide) rfl (fun ls hl => ?_)
    refine lv_aload_n hx hb dL_build_373 rfl (lv_at hl 1 rfl) ?_
    refine lv_iload hx hb dL_build_374 (lv_at hl 0 rfl) ?_
    obtain ⟨r6, M7, y5, h⟩ := t_bd h
    refine c_vi hx hb hml hown hts hK hw hS (fun _ h => h) (As := [.int r4]) (rest := []) (c_X5_setPlan hcv (M := M) y5) cf_X5_setPlan k_224 rfl rfl ⟨Nat.le_of_ble_eq_true rfl, Nat.le_of_ble_eq_true rfl⟩ (r_recv hK hw (v_mn (by decide)) E_mn rfl) rfl hl.1 rfl (Nat.le_of_ble_eq_true rfl) ⟨Nat.le_refl _, Nat.le_refl _⟩ dL_build_376 (fun H locs hw hS => ?_)
    refine lv_istore (lv' := [(6, .int r6), (5, .int r4), (0, .ref (ad 8 0)), (1, .ref b), (2, .int x2), (3, .int x3), (4, .int x4)]) hx hb dL_build_379 hl (by decide) rfl (fun ls hl => ?_)
    refine lv_iload hx hb dL_build_381 (lv_at hl 0 rfl) ?_
    refine lv_iload hx hb dL_build_383 (lv_at hl 1 rfl) ?_
    refine lv_if_ne (tgt := 393) hx hb dL_build_385 (by decide) (fun q8 => ?_) (fun q8 => ?_)
    · replace h := t_neg h q8
      refine lv_iconst (v := nI 0) hx hb dL_build_393 (by decide) ?_
      exact L394 M7 x2 x3 x4 r6 (nI 0) h H locs hw hS ls (lv_sub hl [2, 4, 5, 6] rfl)
    · replace h := t_pos h q8
      refine lv_bipush (v := -5) hx hb dL_build_388 (by decide) ?_
      refine lv_goto (tgt := 394) hx hb dL_build_390 (by decide) ?_
      exact L394 M7 x2 x3 x4 r6 (-5 : Int32) h H locs hw hS ls (lv_sub hl [2, 4, 5, 6] rfl)
  have L175 : ∀ (n : Nat), ∀ (M : MM) (x2 : Int32) (x3 : Int32) (x4 : Int32) (x5 : Int32), f_L_build_L175 L xs n M x2 x3 x4 x5 = some (r, x) → JL p l e ({ frames := 6, cells := 0, slots := 0, locals := 150 } : Room) s md args below meth c D cy ad (MQ below (QI D cy ad r x) args s 0 0 (AD ad)) (M) 11 [(0, .ref (ad 8 0)), (1, .ref b), (2, .int x2), (3, .int x3), (4, .int x4), (5, .int x5)] 175 [] := by
    intro n
    induction n with
    | zero =>
      intro M x2 x3 x4 x5 h
      cases h
    | succ n ih =>
      intro M x2 x3 x4 x5 h H locs hw hS ls hl
      rw [f_L_build_L175.eq_2] at h
      refine lv_iload hx hb dL_build_175 (lv_at hl 5 rfl) ?_
      refine lv_iload hx hb dL_build_177 (lv_at hl 4 rfl) ?_
      refine lv_icmp_ge (tgt := 361) hx hb dL_build_179 (by decide) (fun q1 => ?_) (fun q1 => ?_)
      · replace h := t_pos h q1
        exact L361 M x2 x3 x4 h H locs hw hS ls (lv_sub hl [0, 1, 2, 3, 4] rfl)
      · replace h := t_neg h q1
        refine lv_aload_n hx hb dL_build_182 rfl (lv_at hl 1 rfl) ?_
        refine lv_bipush (v := nI 18) hx hb dL_build_183 (by decide) ?_
        refine lv_iload hx hb dL_build_185 (lv_at hl 5 rfl) ?_
        refine lv_iadd hx hb dL_build_187 ?_
        obtain ⟨r3, y2, h⟩ := t_b1 h
        refine c_six hx hb hml hown hts hK hw hS (fun _ h => h) hX hbl hbA (As := [.ref b, .int ((nI 18) + x5)]) (rest := []) (c_L_cell hcv (M0 := M) (b := b) (L := L) (xs := xs) (hbA := hbA) y2) cf_L_cell k_392 rfl rfl ⟨Nat.le_of_ble_eq_true rfl, Nat.le_of_ble_eq_true rfl⟩ rfl hl.1 rfl (Nat.le_of_ble_eq_true rfl) ⟨Nat.le_refl _, Nat.le_refl _⟩ dL_build_188 (fun H locs hw hS => ?_)
        refine lv_istore (lv' := [(6, .int r3), (0, .ref (ad 8 0)), (1, .ref b), (2, .int x2), (3, .int x3), (4, .int x4), (5, .int x5)]) hx hb dL_build_191 hl (by decide) rfl (fun ls hl => ?_)
        refine lv_iload hx hb dL_build_193 (lv_at hl 0 rfl) ?_
        refine lv_iconst (v := nI 5) hx hb dL_build_195 (by decide) ?_
        obtain ⟨r5, y4, h⟩ := t_b1 h
        refine c_si hx hb hml hown hts hK hw hS (fun _ h => h) (As := [.int r3, .int (nI 5)]) (rest := []) (c_L_low hcv (M0 := M) y4) cf_L_low k_397 rfl rfl ⟨Nat.le_of_ble_eq_true rfl, Nat.le_of_ble_eq_true rfl⟩ rfl hl.1 rfl (Nat.le_of_ble_eq_true rfl) ⟨Nat.le_refl _, Nat.le_refl _⟩ dL_build_196 (fun H locs hw hS => ?_)
        refine lv_istore (lv' := [(7, .int r5), (6, .int r3), (0, .ref (ad 8 0)), (1, .ref b), (2, .int x2), (3, .int x3), (4, .int x4), (5, .int x5)]) hx hb dL_build_199 hl (by decide) rfl (fun ls hl => ?_)
        refine lv_iconst (v := nI 1) hx hb dL_build_201 (by decide) ?_
        refine lv_iload hx hb dL_build_202 (lv_at hl 1 rfl) ?_
        refine lv_iconst (v := nI 3) hx hb dL_build_204 (by decide) ?_
        refine lv_ishr hx hb dL_build_205 ?_
        refine lv_bipush (v := nI 15) hx hb dL_build_206 (by decide) ?_
        obtain ⟨r7, y6, h⟩ := t_b1 h
        refine c_si hx hb hml hown hts hK hw hS (fun _ h => h) (As := [.int (r3 >>> ((nI 3) &&& 31)), .int (nI 15)]) (rest := [.int (nI 1)]) (c_L_low hcv (M0 := M) y6) cf_L_low k_397 rfl rfl ⟨Nat.le_of_ble_eq_true rfl, Nat.le_of_ble_eq_true rfl⟩ rfl hl.1 rfl (Nat.le_of_ble_eq_true rfl) ⟨Nat.le_refl _, Nat.le_refl _⟩ dL_build_208 (fun H locs hw hS => ?_)
        refine lv_iadd hx hb dL_build_211 ?_
        refine lv_istore (lv' := [(8, .int ((nI 1) + r7)), (7, .int r5), (6, .int r3), (0, .ref (ad 8 0)), (1, .ref b), (2, .int x2), (3, .int x3), (4, .int x4), (5, .int x5)]) hx hb dL_build_212 hl (by decide) rfl (fun ls hl => ?_)
        refine lv_iload hx hb dL_build_214 (lv_at hl 1 rfl) ?_
        refine lv_iconst (v := nI 1) hx hb dL_build_216 (by decide) ?_
        refine lv_icmp_ne (tgt := 234) hx hb dL_build_217 (by decide) (fun q8 => ?_) (fun q8 => ?_)
        · replace h := t_neg h q8
          refine lv_iconst (v := nI 0) hx hb dL_build_234 (by decide) ?_
          exact L235 (f_L_build_L175 L xs n) ih M x2 x3 x4 x5 r3 r5 ((nI 1) + r7) (nI 0) h H locs hw hS ls (lv_sub hl [3, 4, 5, 6, 7, 8, 2, 1, 0] rfl)
        · replace h := t_pos h q8
          refine lv_iload hx hb dL_build_220 (lv_at hl 2 rfl) ?_
          refine lv_bipush (v := nI 7) hx hb dL_build_222 (by decide) ?_
          refine lv_ishr hx hb dL_build_224 ?_
          refine lv_sipush (v := nI 700) hx hb dL_build_225 (by decide) ?_
          obtain ⟨r10, y9, h⟩ := t_b1 h
          refine c_si hx hb hml hown hts hK hw hS (fun _ h => h) (As := [.int (r3 >>> ((nI 7) &&& 31)), .int (nI 700)]) (rest := []) (c_L_low hcv (M0 := M) y9) cf_L_low k_397 rfl rfl ⟨Nat.le_of_ble_eq_true rfl, Nat.le_of_ble_eq_true rfl⟩ rfl hl.1 rfl (Nat.le_of_ble_eq_true rfl) ⟨Nat.le_refl _, Nat.le_refl _⟩ dL_build_228 (fun H locs hw hS => ?_)
          refine lv_goto (tgt := 235) hx hb dL_build_231 (by decide) ?_
          exact L235 (f_L_build_L175 L xs n) ih M x2 x3 x4 x5 r3 r5 ((nI 1) + r7) r10 h H locs hw hS ls (lv_sub hl [3, 4, 5, 6, 7, 8, 2, 1, 0] rfl)
  have L158 : ∀ (M : MM) (x2 : Int32) (x3 : Int32), f_L_build_L158 L xs M x2 x3 = some (r, x) → JL p l e ({ frames := 6, cells := 0, slots := 0, locals := 150 } : Room) s md args below meth c D cy ad (MQ below (QI D cy ad r x) args s 0 0 (AD ad)) (M) 11 [(0, .ref (ad 8 0)), (1, .ref b), (2, .int x2), (3, .int x3)] 158 [] := by
    intro M x2 x3 h H locs hw hS ls hl
    unfold f_L_build_L158 at h
    refine lv_iconst (v := nI 1) hx hb dL_build_158 (by decide) ?_
    refine lv_aload_n hx hb dL_build_159 rfl (lv_at hl 1 rfl) ?_
    refine lv_bipush (v := nI 17) hx hb dL_build_160 (by decide) ?_
    obtain ⟨r2, y1, h⟩ := t_b1 h
    refine c_six hx hb hml hown hts hK hw hS (fun _ h => h) hX hbl hbA (As := [.ref b, .int (nI 17)]) (rest := [.int (nI 1)]) (c_L_cell hcv (M0 := M) (b := b) (L := L) (xs := xs) (hbA := hbA) y1) cf_L_cell k_392 rfl rfl ⟨Nat.le_of_ble_eq_true rfl, Nat.le_of_ble_eq_true rfl⟩ rfl hl.1 rfl (Nat.le_of_ble_eq_true rfl) ⟨Nat.le_refl _, Nat.le_refl _⟩ dL_build_162 (fun H locs hw hS => ?_)
    refine lv_iconst (v := nI 5) hx hb dL_build_165 (by decide) ?_
    obtain ⟨r4, y3, h⟩ := t_b1 h
    refine c_si hx hb hml hown hts hK hw hS (fun _ h => h) (As := [.int r2, .int (nI 5)]) (rest := [.int (nI 1)]) (c_L_low hcv (M0 := M) y3) cf_L_low k_397 rfl rfl ⟨Nat.le_of_ble_eq_true rfl, Nat.le_of_ble_eq_true rfl⟩ rfl hl.1 rfl (Nat.le_of_ble_eq_true rfl) ⟨Nat.le_refl _, Nat.le_refl _⟩ dL_build_166 (fun H locs hw hS => ?_)
    refine lv_iadd hx hb dL_build_169 ?_
    refine lv_istore (lv' := [(4, .int ((nI 1) + r4)), (0, .ref (ad 8 0)), (1, .ref b), (2, .int x2), (3, .int x3)]) hx hb dL_build_170 hl (by decide) rfl (fun ls hl => ?_)
    refine lv_iconst (v := nI 0) hx hb dL_build_172 (by decide) ?_
    refine lv_istore (lv' := [(5, .int (nI 0)), (4, .int ((nI 1) + r4)), (0, .ref (ad 8 0)), (1, .ref b), (2, .int x2), (3, .int x3)]) hx hb dL_build_173 hl (by decide) rfl (fun ls hl => ?_)
    exact L175 FU M x2 x3 ((nI 1) + r4) (nI 0) h H locs hw hS ls (lv_sub hl [2, 3, 4, 5, 1, 0] rfl)
  have L18 : ∀ (n : Nat), ∀ (M : MM) (x2 : Int32) (x3 : Int32) (x4 : Int32), f_L_build_L18 L xs n M x2 x3 x4 = some (r, x) → JL p l e ({ frames := 6, cells := 0, slots := 0, locals := 150 } : Room) s md args below meth c D cy ad (MQ below (QI D cy ad r x) args s 0 0 (AD ad)) (M) 11 [(0, .ref (ad 8 0)), (1, .ref b), (2, .int x2), (3, .int x3), (4, .int x4)] 18 [] := by
    intro n
    induction n with
    | zero =>
      intro M x2 x3 x4 h
      cases h
    | succ n ih =>
      intro M x2 x3 x4 h H locs hw hS ls hl
      rw [f_L_build_L18.eq_2] at h
      refine lv_iload hx hb dL_build_18 (lv_at hl 4 rfl) ?_
      refine lv_iload_n hx hb dL_build_20 rfl (lv_at hl 2 rfl) ?_
      refine lv_icmp_ge (tgt := 158) hx hb dL_build_21 (by decide) (fun q1 => ?_) (fun q1 => ?_)
      · replace h := t_pos h q1
        exact L158 M x2 x3 h H locs hw hS ls (lv_sub hl [0, 1, 2, 3] rfl)
      · replace h := t_neg h q1
        refine lv_aload_n hx hb dL_build_24 rfl (lv_at hl 1 rfl) ?_
        refine lv_iconst (v := nI 1) hx hb dL_build_25 (by decide) ?_
        refine lv_iconst (v := nI 2) hx hb dL_build_26 (by decide) ?_
        refine lv_iload hx hb dL_build_27 (lv_at hl 4 rfl) ?_
        refine lv_imul hx hb dL_build_29 ?_
        refine lv_iadd hx hb dL_build_30 ?_
        obtain ⟨r3, y2, h⟩ := t_b1 h
        refine c_six hx hb hml hown hts hK hw hS (fun _ h => h) hX hbl hbA (As := [.ref b, .int ((nI 1) + ((nI 2) * x4))]) (rest := []) (c_L_cell hcv (M0 := M) (b := b) (L := L) (xs := xs) (hbA := hbA) y2) cf_L_cell k_392 rfl rfl ⟨Nat.le_of_ble_eq_true rfl, Nat.le_of_ble_eq_true rfl⟩ rfl hl.1 rfl (Nat.le_of_ble_eq_true rfl) ⟨Nat.le_refl _, Nat.le_refl _⟩ dL_build_31 (fun H locs hw hS => ?_)
        refine lv_istore (lv' := [(5, .int r3), (0, .ref (ad 8 0)), (1, .ref b), (2, .int x2), (3, .int x3), (4, .int x4)]) hx hb dL_build_34 hl (by decide) rfl (fun ls hl => ?_)
        refine lv_aload_n hx hb dL_build_36 rfl (lv_at hl 1 rfl) ?_
        refine lv_iload hx hb dL_build_37 (lv_at hl 0 rfl) ?_
        refine lv_aload_n hx hb dL_build_39 rfl (lv_at hl 2 rfl) ?_
        refine lv_iconst (v := nI 2) hx hb dL_build_40 (by decide) ?_
        refine lv_iconst (v := nI 2) hx hb dL_build_41 (by decide) ?_
        refine lv_iload hx hb dL_build_42 (lv_at hl 5 rfl) ?_
        refine lv_imul hx hb dL_build_44 ?_
        refine lv_iadd hx hb dL_build_45 ?_
        obtain ⟨r5, y4, h⟩ := t_b1 h
        refine c_six hx hb hml hown hts hK hw hS (fun _ h => h) hX hbl hbA (As := [.ref b, .int ((nI 2) + ((nI 2) * x4))]) (rest := [.int r3, .ref (ad 8 0)]) (c_L_cell hcv (M0 := M) (b := b) (L := L) (xs := xs) (hbA := hbA) y4) cf_L_cell k_392 rfl rfl ⟨Nat.le_of_ble_eq_true rfl, Nat.le_of_ble_eq_true rfl⟩ rfl hl.1 rfl (Nat.le_of_ble_eq_true rfl) ⟨Nat.le_refl _, Nat.le_refl _⟩ dL_build_46 (fun H locs hw hS => ?_)
        obtain ⟨r7, M8, y6, h⟩ := t_bd h
        refine c_si hx hb hml hown hts hK hw hS (fun _ h => h) (As := [.ref (ad 8 0), .int r3, .int r5]) (rest := []) (c_L_write hcv (M := M) y6) cf_L_write k_413 rfl rfl ⟨Nat.le_of_ble_eq_true rfl, Nat.le_of_ble_eq_true rfl⟩ rfl hl.1 rfl (Nat.le_of_ble_eq_true rfl) ⟨Nat.le_refl _, Nat.le_refl _⟩ dL_build_49 (fun H locs hw hS => ?_)
        refine lv_istore (lv' := [(6, .int r7), (5, .int r3), (0, .ref (ad 8 0)), (1, .ref b), (2, .int x2), (3, .int x3), (4, .int x4)]) hx hb dL_build_52 hl (by decide) rfl (fun ls hl => ?_)
        refine lv_iload_n hx hb dL_build_54 rfl (lv_at hl 5 rfl) ?_
        refine lv_iload hx hb dL_build_55 (lv_at hl 1 rfl) ?_
        obtain ⟨r10, y9, h⟩ := t_b1 h
        refine c_si hx hb hml hown hts hK hw hS (fun _ h => h) (As := [.int r3]) (rest := [.int x3]) (c_L_rows hcv (M0 := M8) y9) cf_L_rows k_433 rfl rfl ⟨Nat.le_of_ble_eq_true rfl, Nat.le_of_ble_eq_true rfl⟩ rfl hl.1 rfl (Nat.le_of_ble_eq_true rfl) ⟨Nat.le_refl _, Nat.le_refl _⟩ dL_build_57 (fun H locs hw hS => ?_)
        refine lv_iadd hx hb dL_build_60 ?_
        refine lv_istore_n (lv' := [(3, .int (x3 + r10)), (6, .int r7), (5, .int r3), (0, .ref (ad 8 0)), (1, .ref b), (2, .int x2), (4, .int x4)]) hx hb dL_build_61 rfl hl (by decide) rfl (fun ls hl => ?_)
        refine lv_aload_n hx hb dL_build_62 rfl (lv_at hl 3 rfl) ?_
        obtain ⟨r12, M13, y11, h⟩ := t_bd h
        refine c_vi hx hb hml hown hts hK hw hS (fun _ h => h) (As := []) (rest := []) (c_X5_addBlock hcv (M := M8) y11) cf_X5_addBlock k_436 rfl rfl ⟨Nat.le_of_ble_eq_true rfl, Nat.le_of_ble_eq_true rfl⟩ (r_recv hK hw (v_mn (by decide)) E_mn rfl) rfl hl.1 rfl (Nat.le_of_ble_eq_true rfl) ⟨Nat.le_refl _, Nat.le_refl _⟩ dL_build_63 (fun H locs hw hS => ?_)
        refine lv_iload hx hb dL_build_66 (lv_at hl 6 rfl) ?_
        refine lv_icmp_ne (tgt := 150) hx hb dL_build_68 (by decide) (fun q14 => ?_) (fun q14 => ?_)
        · replace h := t_neg h q14
          refine lv_iconst (v := nI 0) hx hb dL_build_150 (by decide) ?_
          have e1 := (t_ret h).1
          have e2 := (t_ret h).2
          exact e_z hx hb hr hlk (Or.inl rfl) hw hS e1 e2 dL_build_151
        · replace h := t_pos h q14
          refine lv_aload_n hx hb dL_build_71 rfl (lv_at hl 3 rfl) ?_
          obtain ⟨r16, M17, y15, h⟩ := t_bd h
          refine c_vi hx hb hml hown hts hK hw hS (fun _ h => h) (As := []) (rest := []) (c_X5_clearText hcv (M := M13) y15) cf_X5_clearText k_478 rfl rfl ⟨Nat.le_of_ble_eq_true rfl, Nat.le_of_ble_eq_true rfl⟩ (r_recv hK hw (v_mn (by decide)) E_mn rfl) rfl hl.1 rfl (Nat.le_of_ble_eq_true rfl) ⟨Nat.le_refl _, Nat.le_refl _⟩ dL_build_72 (fun H locs hw hS => ?_)
          refine lv_iload hx hb dL_build_75 (lv_at hl 1 rfl) ?_
          refine lv_icmp_ne (tgt := 150) hx hb dL_build_77 (by decide) (fun q18 => ?_) (fun q18 => ?_)
          · replace h := t_neg h q18
            refine lv_iconst (v := nI 0) hx hb dL_build_150 (by decide) ?_
            have e1 := (t_ret h).1
            have e2 := (t_ret h).2
            exact e_z hx hb hr hlk (Or.inl rfl) hw hS e1 e2 dL_build_151
          · replace h := t_pos h q18
            refine lv_aload_n hx hb dL_build_80 rfl (lv_at hl 3 rfl) ?_
            refine lv_iload hx hb dL_build_81 (lv_at hl 6 rfl) ?_
            refine lv_iconst (v := nI 0) hx hb dL_build_83 (by decide) ?_
            obtain ⟨r20, y19, h⟩ := t_b1 h
            refine c_vi hx hb hml hown hts hK hw hS (fun _ h => h) (As := [.int x4, .int (nI 0)]) (rest := []) (c_X5_block hcv (M := M17) y19) cf_X5_block k_347 rfl rfl ⟨Nat.le_of_ble_eq_true rfl, Nat.le_of_ble_eq_true rfl⟩ (r_recv hK hw (v_mn (by decide)) E_mn rfl) rfl hl.1 rfl (Nat.le_of_ble_eq_true rfl) ⟨Nat.le_refl _, Nat.le_refl _⟩ dL_build_84 (fun H locs hw hS => ?_)
            refine lv_iload hx hb dL_build_87 (lv_at hl 2 rfl) ?_
            obtain ⟨r22, y21, h⟩ := t_b1 h
            refine c_si hx hb hml hown hts hK hw hS (fun _ h => h) (As := [.int r3]) (rest := [.int r20]) (c_L_layer hcv (M0 := M17) y21) cf_L_layer k_416 rfl rfl ⟨Nat.le_of_ble_eq_true rfl, Nat.le_of_ble_eq_true rfl⟩ rfl hl.1 rfl (Nat.le_of_ble_eq_true rfl) ⟨Nat.le_refl _, Nat.le_refl _⟩ dL_build_89 (fun H locs hw hS => ?_)
            refine lv_icmp_ne (tgt := 150) hx hb dL_build_92 (by decide) (fun q23 => ?_) (fun q23 => ?_)
            · replace h := t_neg h q23
              refine lv_iconst (v := nI 0) hx hb dL_build_150 (by decide) ?_
              have e1 := (t_ret h).1
              have e2 := (t_ret h).2
              exact e_z hx hb hr hlk (Or.inl rfl) hw hS e1 e2 dL_build_151
            · replace h := t_pos h q23
              refine lv_aload_n hx hb dL_build_95 rfl (lv_at hl 3 rfl) ?_
              refine lv_iload hx hb dL_build_96 (lv_at hl 6 rfl) ?_
              refine lv_iconst (v := nI 1) hx hb dL_build_98 (by decide) ?_
              obtain ⟨r25, y24, h⟩ := t_b1 h
              refine c_vi hx hb hml hown hts hK hw hS (fun _ h => h) (As := [.int x4, .int (nI 1)]) (rest := []) (c_X5_block hcv (M := M17) y24) cf_X5_block k_347 rfl rfl ⟨Nat.le_of_ble_eq_true rfl, Nat.le_of_ble_eq_true rfl⟩ (r_recv hK hw (v_mn (by decide)) E_mn rfl) rfl hl.1 rfl (Nat.le_of_ble_eq_true rfl) ⟨Nat.le_refl _, Nat.le_refl _⟩ dL_build_99 (fun H locs hw hS => ?_)
              refine lv_iload hx hb dL_build_102 (lv_at hl 2 rfl) ?_
              obtain ⟨r27, y26, h⟩ := t_b1 h
              refine c_si hx hb hml hown hts hK hw hS (fun _ h => h) (As := [.int r3]) (rest := [.int r25]) (c_L_bottom hcv (M0 := M17) y26) cf_L_bottom k_404 rfl rfl ⟨Nat.le_of_ble_eq_true rfl, Nat.le_of_ble_eq_true rfl⟩ rfl hl.1 rfl (Nat.le_of_ble_eq_true rfl) ⟨Nat.le_refl _, Nat.le_refl _⟩ dL_build_104 (fun H locs hw hS => ?_)
              refine lv_icmp_ne (tgt := 150) hx hb dL_build_107 (by decide) (fun q28 => ?_) (fun q28 => ?_)
              · replace h := t_neg h q28
                refine lv_iconst (v := nI 0) hx hb dL_build_150 (by decide) ?_
                have e1 := (t_ret h).1
                have e2 := (t_ret h).2
                exact e_z hx hb hr hlk (Or.inl rfl) hw hS e1 e2 dL_build_151
              · replace h := t_pos h q28
                refine lv_aload_n hx hb dL_build_110 rfl (lv_at hl 3 rfl) ?_
                refine lv_iload hx hb dL_build_111 (lv_at hl 6 rfl) ?_
                refine lv_iconst (v := nI 2) hx hb dL_build_113 (by decide) ?_
                obtain ⟨r30, y29, h⟩ := t_b1 h
                refine c_vi hx hb hml hown hts hK hw hS (fun _ h => h) (As := [.int x4, .int (nI 2)]) (rest := []) (c_X5_block hcv (M := M17) y29) cf_X5_block k_347 rfl rfl ⟨Nat.le_of_ble_eq_true rfl, Nat.le_of_ble_eq_true rfl⟩ (r_recv hK hw (v_mn (by decide)) E_mn rfl) rfl hl.1 rfl (Nat.le_of_ble_eq_true rfl) ⟨Nat.le_refl _, Nat.le_refl _⟩ dL_build_114 (fun H locs hw hS => ?_)
                refine lv_iload hx hb dL_build_117 (lv_at hl 2 rfl) ?_
                obtain ⟨r32, y31, h⟩ := t_b1 h
                refine c_si hx hb hml hown hts hK hw hS (fun _ h => h) (As := [.int r3]) (rest := [.int r30]) (c_L_top hcv (M0 := M17) y31) cf_L_top k_407 rfl rfl ⟨Nat.le_of_ble_eq_true rfl, Nat.le_of_ble_eq_true rfl⟩ rfl hl.1 rfl (Nat.le_of_ble_eq_true rfl) ⟨Nat.le_refl _, Nat.le_refl _⟩ dL_build_119 (fun H locs hw hS => ?_)
                refine lv_icmp_ne (tgt := 150) hx hb dL_build_122 (by decide) (fun q33 => ?_) (fun q33 => ?_)
                · replace h := t_neg h q33
                  refine lv_iconst (v := nI 0) hx hb dL_build_150 (by decide) ?_
                  have e1 := (t_ret h).1
                  have e2 := (t_ret h).2
                  exact e_z hx hb hr hlk (Or.inl rfl) hw hS e1 e2 dL_build_151
                · replace h := t_pos h q33
                  refine lv_aload_n hx hb dL_build_125 rfl (lv_at hl 3 rfl) ?_
                  refine lv_iload hx hb dL_build_126 (lv_at hl 6 rfl) ?_
                  refine lv_iconst (v := nI 3) hx hb dL_build_128 (by decide) ?_
                  obtain ⟨r35, y34, h⟩ := t_b1 h
                  refine c_vi hx hb hml hown hts hK hw hS (fun _ h => h) (As := [.int x4, .int (nI 3)]) (rest := []) (c_X5_block hcv (M := M17) y34) cf_X5_block k_347 rfl rfl ⟨Nat.le_of_ble_eq_true rfl, Nat.le_of_ble_eq_true rfl⟩ (r_recv hK hw (v_mn (by decide)) E_mn rfl) rfl hl.1 rfl (Nat.le_of_ble_eq_true rfl) ⟨Nat.le_refl _, Nat.le_refl _⟩ dL_build_129 (fun H locs hw hS => ?_)
                  refine lv_iload hx hb dL_build_132 (lv_at hl 2 rfl) ?_
                  obtain ⟨r37, y36, h⟩ := t_b1 h
                  refine c_si hx hb hml hown hts hK hw hS (fun _ h => h) (As := [.int r3]) (rest := [.int r35]) (c_L_rows hcv (M0 := M17) y36) cf_L_rows k_433 rfl rfl ⟨Nat.le_of_ble_eq_true rfl, Nat.le_of_ble_eq_true rfl⟩ rfl hl.1 rfl (Nat.le_of_ble_eq_true rfl) ⟨Nat.le_refl _, Nat.le_refl _⟩ dL_build_134 (fun H locs hw hS => ?_)
                  refine lv_icmp_ne (tgt := 150) hx hb dL_build_137 (by decide) (fun q38 => ?_) (fun q38 => ?_)
                  · replace h := t_neg h q38
                    refine lv_iconst (v := nI 0) hx hb dL_build_150 (by decide) ?_
                    have e1 := (t_ret h).1
                    have e2 := (t_ret h).2
                    exact e_z hx hb hr hlk (Or.inl rfl) hw hS e1 e2 dL_build_151
                  · replace h := t_pos h q38
                    refine lv_aload_n hx hb dL_build_140 rfl (lv_at hl 3 rfl) ?_
                    refine lv_iload hx hb dL_build_141 (lv_at hl 6 rfl) ?_
                    refine lv_iconst (v := nI 4) hx hb dL_build_143 (by decide) ?_
                    obtain ⟨r40, y39, h⟩ := t_b1 h
                    refine c_vi hx hb hml hown hts hK hw hS (fun _ h => h) (As := [.int x4, .int (nI 4)]) (rest := []) (c_X5_block hcv (M := M17) y39) cf_X5_block k_347 rfl rfl ⟨Nat.le_of_ble_eq_true rfl, Nat.le_of_ble_eq_true rfl⟩ (r_recv hK hw (v_mn (by decide)) E_mn rfl) rfl hl.1 rfl (Nat.le_of_ble_eq_true rfl) ⟨Nat.le_refl _, Nat.le_refl _⟩ dL_build_144 (fun H locs hw hS => ?_)
                    refine lv_if_eq (tgt := 152) hx hb dL_build_147 (by decide) (fun q41 => ?_) (fun q41 => ?_)
                    · replace h := t_pos h q41
                      refine lv_iinc (v := (x4 + (nI 1))) (lv' := [(4, .int (x4 + (nI 1))), (3, .int (x3 + r10)), (6, .int r7), (5, .int r3), (0, .ref (ad 8 0)), (1, .ref b), (2, .int x2)]) hx hb dL_build_152 hl (k := 6) rfl rfl (by decide) rfl (fun ls hl => ?_)
                      refine lv_goto (tgt := 18) hx hb dL_build_155 (by decide) ?_
                      exact ih M17 x2 (x3 + r10) (x4 + (nI 1)) h H locs hw hS ls (lv_sub hl [4, 5, 6, 1, 0] rfl)
                    · replace h := t_neg h q41
                      refine lv_iconst (v := nI 0) hx hb dL_build_150 (by decide) ?_
                      have e1 := (t_ret h).1
                      have e2 := (t_ret h).2
                      exact e_z hx hb hr hlk (Or.inl rfl) hw hS e1 e2 dL_build_151
  unfold f_L_build at h
  have main : JL p l e ({ frames := 6, cells := 0, slots := 0, locals := 150 } : Room) s md args below meth c D cy ad (MQ below (QI D cy ad r x) args s 0 0 (AD ad)) (M) 11 [(0, .ref (ad 8 0)), (1, .ref b)] 0 [] := by
    intro H locs hw hS ls hl
    refine lv_iconst (v := nI 1) hx hb dL_build_0 (by decide) ?_
    refine lv_aload_n hx hb dL_build_1 rfl (lv_at hl 1 rfl) ?_
    refine lv_iconst (v := nI 0) hx hb dL_build_2 (by decide) ?_
    obtain ⟨r2, y1, h⟩ := t_b1 h
    refine c_six hx hb hml hown hts hK hw hS (fun _ h => h) hX hbl hbA (As := [.ref b, .int (nI 0)]) (rest := [.int (nI 1)]) (c_L_cell hcv (M0 := M) (b := b) (L := L) (xs := xs) (hbA := hbA) y1) cf_L_cell k_392 rfl rfl ⟨Nat.le_of_ble_eq_true rfl, Nat.le_of_ble_eq_true rfl⟩ rfl hl.1 rfl (Nat.le_of_ble_eq_true rfl) ⟨Nat.le_refl _, Nat.le_refl _⟩ dL_build_3 (fun H locs hw hS => ?_)
    refine lv_bipush (v := nI 7) hx hb dL_build_6 (by decide) ?_
    obtain ⟨r4, y3, h⟩ := t_b1 h
    refine c_si hx hb hml hown hts hK hw hS (fun _ h => h) (As := [.int r2, .int (nI 7)]) (rest := [.int (nI 1)]) (c_L_low hcv (M0 := M) y3) cf_L_low k_397 rfl rfl ⟨Nat.le_of_ble_eq_true rfl, Nat.le_of_ble_eq_true rfl⟩ rfl hl.1 rfl (Nat.le_of_ble_eq_true rfl) ⟨Nat.le_refl _, Nat.le_refl _⟩ dL_build_8 (fun H locs hw hS => ?_)
    refine lv_iadd hx hb dL_build_11 ?_
    refine lv_istore_n (lv' := [(2, .int ((nI 1) + r4)), (0, .ref (ad 8 0)), (1, .ref b)]) hx hb dL_build_12 rfl hl (by decide) rfl (fun ls hl => ?_)
    refine lv_iconst (v := nI 0) hx hb dL_build_13 (by decide) ?_
    refine lv_istore_n (lv' := [(3, .int (nI 0)), (2, .int ((nI 1) + r4)), (0, .ref (ad 8 0)), (1, .ref b)]) hx hb dL_build_14 rfl hl (by decide) rfl (fun ls hl => ?_)
    refine lv_iconst (v := nI 0) hx hb dL_build_15 (by decide) ?_
    refine lv_istore (lv' := [(4, .int (nI 0)), (3, .int (nI 0)), (2, .int ((nI 1) + r4)), (0, .ref (ad 8 0)), (1, .ref b)]) hx hb dL_build_16 hl (by decide) rfl (fun ls hl => ?_)
    exact L18 FU M ((nI 1) + r4) (nI 0) (nI 0) h H locs hw hS ls (lv_sub hl [3, 4, 2, 1, 0] rfl)
  exact main _ _ hw hS ls hl

theorem cf_L_truth : cfS RL yL_truth cL_truth 12 (some .int) 3 := ⟨⟨k_498, k_0, k_499⟩, by decide +kernel⟩
def f_L_truth_L131 (k19 : Int32 → Int32 → Int32 → Int32 → Int32 → Int32 → Option (Int32)) (k44 : Int32 → Int32 → Int32 → Int32 → Int32 → Int32 → Int32 → Int32 → Option (Int32)) (M : MM) (L : Nat) (xs : Nat → Int32) (p0 : Int32) (x3 : Int32) (x4 : Int32) (x6 : Int32) (x7 : Int32) (x8 : Int32) (x9 : Int32) (x10 : Int32) (x11 : Int32) (s0 : Int32) : Option (Int32) :=
  (if x11 ≤ x6 then k44 x3 x4 s0 x6 (x7 + (nI 1)) x8 x9 (x10 + (nI 1)) else k44 x3 x4 s0 x11 (x7 + (nI 1)) x8 x9 (x10 + (nI 1)))
def f_L_truth_L114 (k19 : Int32 → Int32 → Int32 → Int32 → Int32 → Int32 → Option (Int32)) (k44 : Int32 → Int32 → Int32 → Int32 → Int32 → Int32 → Int32 → Int32 → Option (Int32)) (M : MM) (L : Nat) (xs : Nat → Int32) (p0 : Int32) (x3 : Int32) (x5 : Int32) (x6 : Int32) (x7 : Int32) (x8 : Int32) (x9 : Int32) (x10 : Int32) (x11 : Int32) (s0 : Int32) (s1 : Int32) : Option (Int32) :=
  (if x5 ≤ x11 then f_L_truth_L131 k19 k44 M L xs p0 x3 (s0 + s1) x6 x7 x8 x9 x10 x11 x5 else f_L_truth_L131 k19 k44 M L xs p0 x3 (s0 + s1) x6 x7 x8 x9 x10 x11 x11)
def f_L_truth_L158 (k19 : Int32 → Int32 → Int32 → Int32 → Int32 → Int32 → Option (Int32)) (M : MM) (L : Nat) (xs : Nat → Int32) (p0 : Int32) (x3 : Int32) (x4 : Int32) (x5 : Int32) (x6 : Int32) (x7 : Int32) (x8 : Int32) : Option (Int32) :=
  k19 x3 x4 x5 x6 x7 (x8 + (nI 1))
def f_L_truth_L44 (k19 : Int32 → Int32 → Int32 → Int32 → Int32 → Int32 → Option (Int32)) (M : MM) (L : Nat) (xs : Nat → Int32) (p0 : Int32) : Nat → Int32 → Int32 → Int32 → Int32 → Int32 → Int32 → Int32 → Int32 → Option (Int32)
  | 0, _, _, _, _, _, _, _, _ => none
  | n + 1, x3, x4, x5, x6, x7, x8, x9, x10 => b1 (f_L_rows x9) fun r2 => (if r2 ≤ x10 then f_L_truth_L158 k19 M L xs p0 x3 x4 x5 x6 x7 x8 else b1 (f_X5_question M p0 (nI 1)) fun r5 => b1 (f_L_layer x9) fun r7 => (if ((r5 >>> (r7 &&& 31)) &&& (nI 1)) = (nI 1) then b1 (f_L_cell L xs ((nI 2) + ((nI 2) * x8))) fun r10 => b1 (f_L_valueOf x9 r10 x10) fun r12 => b1 (f_X5_question M p0 (nI 2)) fun r14 => (if r12 < r14 then f_L_truth_L114 k19 (f_L_truth_L44 k19 M L xs p0 n) M L xs p0 (x3 + r12) x5 x6 x7 x8 x9 x10 r12 x4 (nI 0) else f_L_truth_L114 k19 (f_L_truth_L44 k19 M L xs p0 n) M L xs p0 (x3 + r12) x5 x6 x7 x8 x9 x10 r12 x4 (nI 1)) else f_L_truth_L158 k19 M L xs p0 x3 x4 x5 x6 x7 x8))
def f_L_truth_L164 (M : MM) (L : Nat) (xs : Nat → Int32) (p0 : Int32) (x3 : Int32) (x4 : Int32) (x5 : Int32) (x6 : Int32) (x7 : Int32) : Option (Int32) :=
  b1 (f_X5_question M p0 (nI 0)) fun r2 => (if x7 = (nI 0) then some (-5 : Int32) else (if r2 = (nI 0) then some x3 else (if r2 = (nI 1) then some x4 else (if r2 = (nI 2) then some x5 else (if r2 = (nI 3) then some x6 else gn x7 (some (((nI 100) * x3) / x7)))))))
def f_L_truth_L19 (M : MM) (L : Nat) (xs : Nat → Int32) (p0 : Int32) : Nat → Int32 → Int32 → Int32 → Int32 → Int32 → Int32 → Option (Int32)
  | 0, _, _, _, _, _, _ => none
  | n + 1, x3, x4, x5, x6, x7, x8 => b1 (f_X5_count M (nI 0)) fun r2 => (if r2 ≤ x8 then f_L_truth_L164 M L xs p0 x3 x4 x5 x6 x7 else b1 (f_L_cell L xs ((nI 1) + ((nI 2) * x8))) fun r5 => f_L_truth_L44 (f_L_truth_L19 M L xs p0 n) M L xs p0 FU x3 x4 x5 x6 x7 x8 r5 (nI 0))
def f_L_truth (M : MM) (L : Nat) (xs : Nat → Int32) (p0 : Int32) : Option (Int32) :=
  f_L_truth_L19 M L xs p0 FU (nI 0) (nI 0) (nI 1000) (-1 : Int32) (nI 0) (nI 0)
set_option maxHeartbeats 4000000 in
set_option maxRecDepth 100000 in
theorem c_L_truth {l : Launch} {D : va_G} {cy : Nat → ClassId} {ad : Nat → Nat → Nat} (hcv : CV ad) {M : MM} {b L : Nat} {xs : Nat → Int32} (hbA : ¬ AD ad b) {p0 : Int32} {r : Int32} (h : f_L_truth M L xs p0 = some r) : Met l yL_truth (.code yL_truth cL_truth 12 (some .int) :: TB) ({ frames := 4, cells := 0, slots := 0, locals := 99 } : Room) (PX D cy ad M b L xs [.ref (ad 8 0), .ref b, .int p0]) (QI D cy ad r M) 0 0 (AD ad) := by
  refine m_inx (by decide +kernel) (Nat.le_of_ble_eq_true rfl) ?_
  intro p e s md args below meth c hC hw hX hbl hS ls hl
  obtain ⟨hx, hb, hr, hml, hown, hts, hK, hlk⟩ := hC
  have hl : lv_has ls 12 [(0, .ref (ad 8 0)), (1, .ref b), (2, .int p0)] := hl
  have L131 : ∀ (k19 : Int32 → Int32 → Int32 → Int32 → Int32 → Int32 → Option (Int32)) (hk19 : ∀ (x3 : Int32) (x4 : Int32) (x5 : Int32) (x6 : Int32) (x7 : Int32) (x8 : Int32), k19 x3 x4 x5 x6 x7 x8 = some r → JL p l e ({ frames := 4, cells := 0, slots := 0, locals := 99 } : Room) s md args below meth c D cy ad (MQ below (QI D cy ad r M) args s 0 0 (AD ad)) (M) 12 [(0, .ref (ad 8 0)), (1, .ref b), (2, .int p0), (3, .int x3), (4, .int x4), (5, .int x5), (6, .int x6), (7, .int x7), (8, .int x8)] 19 []) (k44 : Int32 → Int32 → Int32 → Int32 → Int32 → Int32 → Int32 → Int32 → Option (Int32)) (hk44 : ∀ (x3 : Int32) (x4 : Int32) (x5 : Int32) (x6 : Int32) (x7 : Int32) (x8 : Int32) (x9 : Int32) (x10 : Int32), k44 x3 x4 x5 x6 x7 x8 x9 x10 = some r → JL p l e ({ frames := 4, cells := 0, slots := 0, locals := 99 } : Room) s md args below meth c D cy ad (MQ below (QI D cy ad r M) args s 0 0 (AD ad)) (M) 12 [(0, .ref (ad 8 0)), (1, .ref b), (2, .int p0), (3, .int x3), (4, .int x4), (5, .int x5), (6, .int x6), (7, .int x7), (8, .int x8), (9, .int x9), (10, .int x10)] 44 []), ∀ (x3 : Int32) (x4 : Int32) (x6 : Int32) (x7 : Int32) (x8 : Int32) (x9 : Int32) (x10 : Int32) (x11 : Int32) (s0 : Int32), f_L_truth_L131 k19 k44 M L xs p0 x3 x4 x6 x7 x8 x9 x10 x11 s0 = some r → JL p l e ({ frames := 4, cells := 0, slots := 0, locals := 99 } : Room) s md args below meth c D cy ad (MQ below (QI D cy ad r M) args s 0 0 (AD ad)) (M) 12 [(0, .ref (ad 8 0)), (1, .ref b), (2, .int p0), (3, .int x3), (4, .int x4), (6, .int x6), (7, .int x7), (8, .int x8), (9, .int x9), (10, .int x10), (11, .int x11)] 131 [.int s0] := by
    intro k19 hk19 k44 hk44 x3 x4 x6 x7 x8 x9 x10 x11 s0 h H locs hw hS ls hl
    unfold f_L_truth_L131 at h
    refine lv_istore (lv' := [(5, .int s0), (0, .ref (ad 8 0)), (1, .ref b), (2, .int p0), (3, .int x3), (4, .int x4), (6, .int x6), (7, .int x7), (8, .int x8), (9, .int x9), (10, .int x10), (11, .int x11)]) hx hb dL_truth_131 hl (by decide) rfl (fun ls hl => ?_)
    refine lv_iload hx hb dL_truth_133 (lv_at hl 11 rfl) ?_
    refine lv_iload hx hb dL_truth_135 (lv_at hl 6 rfl) ?_
    refine lv_icmp_le (tgt := 145) hx hb dL_truth_137 (by decide) (fun q1 => ?_) (fun q1 => ?_)
    · replace h := t_pos h q1
      refine lv_iload hx hb dL_truth_145 (lv_at hl 6 rfl) ?_
      refine lv_istore (lv' := [(6, .int x6), (5, .int s0), (0, .ref (ad 8 0)), (1, .ref b), (2, .int p0), (3, .int x3), (4, .int x4), (7, .int x7), (8, .int x8), (9, .int x9), (10, .int x10), (11, .int x11)]) hx hb dL_truth_147 hl (by decide) rfl (fun ls hl => ?_)
      refine lv_iinc (v := (x7 + (nI 1))) (lv' := [(7, .int (x7 + (nI 1))), (6, .int x6), (5, .int s0), (0, .ref (ad 8 0)), (1, .ref b), (2, .int p0), (3, .int x3), (4, .int x4), (8, .int x8), (9, .int x9), (10, .int x10), (11, .int x11)]) hx hb dL_truth_149 hl (k := 7) rfl rfl (by decide) rfl (fun ls hl => ?_)
      refine lv_iinc (v := (x10 + (nI 1))) (lv' := [(10, .int (x10 + (nI 1))), (7, .int (x7 + (nI 1))), (6, .int x6), (5, .int s0), (0, .ref (ad 8 0)), (1, .ref b), (2, .int p0), (3, .int x3), (4, .int x4), (8, .int x8), (9, .int x9), (11, .int x11)]) hx hb dL_truth_152 hl (k := 10) rfl rfl (by decide) rfl (fun ls hl => ?_)
      refine lv_goto (tgt := 44) hx hb dL_truth_155 (by decide) ?_
      exact hk44 x3 x4 s0 x6 (x7 + (nI 1)) x8 x9 (x10 + (nI 1)) h H locs hw hS ls (lv_sub hl [4, 5, 6, 7, 8, 3, 2, 1, 9, 10, 0] rfl)
    · replace h := t_neg h q1
      refine lv_iload hx hb dL_truth_140 (lv_at hl 11 rfl) ?_
      refine lv_goto (tgt := 147) hx hb dL_truth_142 (by decide) ?_
      refine lv_istore (lv' := [(6, .int x11), (5, .int s0), (0, .ref (ad 8 0)), (1, .ref b), (2, .int p0), (3, .int x3), (4, .int x4), (7, .int x7), (8, .int x8), (9, .int x9), (10, .int x10), (11, .int x11)]) hx hb dL_truth_147 hl (by decide) rfl (fun ls hl => ?_)
      refine lv_iinc (v := (x7 + (nI 1))) (lv' := [(7, .int (x7 + (nI 1))), (6, .int x11), (5, .int s0), (0, .ref (ad 8 0)), (1, .ref b), (2, .int p0), (3, .int x3), (4, .int x4), (8, .int x8), (9, .int x9), (10, .int x10), (11, .int x11)]) hx hb dL_truth_149 hl (k := 7) rfl rfl (by decide) rfl (fun ls hl => ?_)
      refine lv_iinc (v := (x10 + (nI 1))) (lv' := [(10, .int (x10 + (nI 1))), (7, .int (x7 + (nI 1))), (6, .int x11), (5, .int s0), (0, .ref (ad 8 0)), (1, .ref b), (2, .int p0), (3, .int x3), (4, .int x4), (8, .int x8), (9, .int x9), (11, .int x11)]) hx hb dL_truth_152 hl (k := 10) rfl rfl (by decide) rfl (fun ls hl => ?_)
      refine lv_goto (tgt := 44) hx hb dL_truth_155 (by decide) ?_
      exact hk44 x3 x4 s0 x11 (x7 + (nI 1)) x8 x9 (x10 + (nI 1)) h H locs hw hS ls (lv_sub hl [4, 5, 6, 7, 8, 3, 2, 1, 9, 10, 0] rfl)
  have L114 : ∀ (k19 : Int32 → Int32 → Int32 → Int32 → Int32 → Int32 → Option (Int32)) (hk19 : ∀ (x3 : Int32) (x4 : Int32) (x5 : Int32) (x6 : Int32) (x7 : Int32) (x8 : Int32), k19 x3 x4 x5 x6 x7 x8 = some r → JL p l e ({ frames := 4, cells := 0, slots := 0, locals := 99 } : Room) s md args below meth c D cy ad (MQ below (QI D cy ad r M) args s 0 0 (AD ad)) (M) 12 [(0, .ref (ad 8 0)), (1, .ref b), (2, .int p0), (3, .int x3), (4, .int x4), (5, .int x5), (6, .int x6), (7, .int x7), (8, .int x8)] 19 []) (k44 : Int32 → Int32 → Int32 → Int32 → Int32 → Int32 → Int32 → Int32 → Option (Int32)) (hk44 : ∀ (x3 : Int32) (x4 : Int32) (x5 : Int32) (x6 : Int32) (x7 : Int32) (x8 : Int32) (x9 : Int32) (x10 : Int32), k44 x3 x4 x5 x6 x7 x8 x9 x10 = some r → JL p l e ({ frames := 4, cells := 0, slots := 0, locals := 99 } : Room) s md args below meth c D cy ad (MQ below (QI D cy ad r M) args s 0 0 (AD ad)) (M) 12 [(0, .ref (ad 8 0)), (1, .ref b), (2, .int p0), (3, .int x3), (4, .int x4), (5, .int x5), (6, .int x6), (7, .int x7), (8, .int x8), (9, .int x9), (10, .int x10)] 44 []), ∀ (x3 : Int32) (x5 : Int32) (x6 : Int32) (x7 : Int32) (x8 : Int32) (x9 : Int32) (x10 : Int32) (x11 : Int32) (s0 : Int32) (s1 : Int32), f_L_truth_L114 k19 k44 M L xs p0 x3 x5 x6 x7 x8 x9 x10 x11 s0 s1 = some r → JL p l e ({ frames := 4, cells := 0, slots := 0, locals := 99 } : Room) s md args below meth c D cy ad (MQ below (QI D cy ad r M) args s 0 0 (AD ad)) (M) 12 [(0, .ref (ad 8 0)), (1, .ref b), (2, .int p0), (3, .int x3), (5, .int x5), (6, .int x6), (7, .int x7), (8, .int x8), (9, .int x9), (10, .int x10), (11, .int x11)] 114 [.int s1, .int s0] := by
    intro k19 hk19 k44 hk44 x3 x5 x6 x7 x8 x9 x10 x11 s0 s1 h H locs hw hS ls hl
    unfold f_L_truth_L114 at h
    refine lv_iadd hx hb dL_truth_114 ?_
    refine lv_istore (lv' := [(4, .int (s0 + s1)), (0, .ref (ad 8 0)), (1, .ref b), (2, .int p0), (3, .int x3), (5, .int x5), (6, .int x6), (7, .int x7), (8, .int x8), (9, .int x9), (10, .int x10), (11, .int x11)]) hx hb dL_truth_115 hl (by decide) rfl (fun ls hl => ?_)
    refine lv_iload hx hb dL_truth_117 (lv_at hl 11 rfl) ?_
    refine lv_iload hx hb dL_truth_119 (lv_at hl 5 rfl) ?_
    refine lv_icmp_ge (tgt := 129) hx hb dL_truth_121 (by decide) (fun q1 => ?_) (fun q1 => ?_)
    · replace h := t_pos h q1
      refine lv_iload hx hb dL_truth_129 (lv_at hl 5 rfl) ?_
      exact L131 k19 hk19 k44 hk44 x3 (s0 + s1) x6 x7 x8 x9 x10 x11 x5 h H locs hw hS ls (lv_sub hl [1, 2, 3, 4, 0, 6, 7, 8, 9, 10, 11] rfl)
    · replace h := t_neg h q1
      refine lv_iload hx hb dL_truth_124 (lv_at hl 11 rfl) ?_
      refine lv_goto (tgt := 131) hx hb dL_truth_126 (by decide) ?_
      exact L131 k19 hk19 k44 hk44 x3 (s0 + s1) x6 x7 x8 x9 x10 x11 x11 h H locs hw hS ls (lv_sub hl [1, 2, 3, 4, 0, 6, 7, 8, 9, 10, 11] rfl)
  have L158 : ∀ (k19 : Int32 → Int32 → Int32 → Int32 → Int32 → Int32 → Option (Int32)) (hk19 : ∀ (x3 : Int32) (x4 : Int32) (x5 : Int32) (x6 : Int32) (x7 : Int32) (x8 : Int32), k19 x3 x4 x5 x6 x7 x8 = some r → JL p l e ({ frames := 4, cells := 0, slots := 0, locals := 99 } : Room) s md args below meth c D cy ad (MQ below (QI D cy ad r M) args s 0 0 (AD ad)) (M) 12 [(0, .ref (ad 8 0)), (1, .ref b), (2, .int p0), (3, .int x3), (4, .int x4), (5, .int x5), (6, .int x6), (7, .int x7), (8, .int x8)] 19 []), ∀ (x3 : Int32) (x4 : Int32) (x5 : Int32) (x6 : Int32) (x7 : Int32) (x8 : Int32), f_L_truth_L158 k19 M L xs p0 x3 x4 x5 x6 x7 x8 = some r → JL p l e ({ frames := 4, cells := 0, slots := 0, locals := 99 } : Room) s md args below meth c D cy ad (MQ below (QI D cy ad r M) args s 0 0 (AD ad)) (M) 12 [(0, .ref (ad 8 0)), (1, .ref b), (2, .int p0), (3, .int x3), (4, .int x4), (5, .int x5), (6, .int x6), (7, .int x7), (8, .int x8)] 158 [] := by
    intro k19 hk19 x3 x4 x5 x6 x7 x8 h H locs hw hS ls hl
    unfold f_L_truth_L158 at h
    refine lv_iinc (v := (x8 + (nI 1))) (lv' := [(8, .int (x8 + (nI 1))), (0, .ref (ad 8 0)), (1, .ref b), (2, .int p0), (3, .int x3), (4, .int x4), (5, .int x5), (6, .int x6), (7, .int x7)]) hx hb dL_truth_158 hl (k := 8) rfl rfl (by decide) rfl (fun ls hl => ?_)
    refine lv_goto (tgt := 19) hx hb dL_truth_161 (by decide) ?_
    exact hk19 x3 x4 x5 x6 x7 (x8 + (nI 1)) h H locs hw hS ls (lv_sub hl [1, 2, 3, 4, 5, 6, 7, 8, 0] rfl)
  have L44 : ∀ (k19 : Int32 → Int32 → Int32 → Int32 → Int32 → Int32 → Option (Int32)) (hk19 : ∀ (x3 : Int32) (x4 : Int32) (x5 : Int32) (x6 : Int32) (x7 : Int32) (x8 : Int32), k19 x3 x4 x5 x6 x7 x8 = some r → JL p l e ({ frames := 4, cells := 0, slots := 0, locals := 99 } : Room) s md args below meth c D cy ad (MQ below (QI D cy ad r M) args s 0 0 (AD ad)) (M) 12 [(0, .ref (ad 8 0)), (1, .ref b), (2, .int p0), (3, .int x3), (4, .int x4), (5, .int x5), (6, .int x6), (7, .int x7), (8, .int x8)] 19 []) (n : Nat), ∀ (x3 : Int32) (x4 : Int32) (x5 : Int32) (x6 : Int32) (x7 : Int32) (x8 : Int32) (x9 : Int32) (x10 : Int32), f_L_truth_L44 k19 M L xs p0 n x3 x4 x5 x6 x7 x8 x9 x10 = some r → JL p l e ({ frames := 4, cells := 0, slots := 0, locals := 99 } : Room) s md args below meth c D cy ad (MQ below (QI D cy ad r M) args s 0 0 (AD ad)) (M) 12 [(0, .ref (ad 8 0)), (1, .ref b), (2, .int p0), (3, .int x3), (4, .int x4), (5, .int x5), (6, .int x6), (7, .int x7), (8, .int x8), (9, .int x9), (10, .int x10)] 44 [] := by
    intro k19 hk19 n
    induction n with
    | zero =>
      intro x3 x4 x5 x6 x7 x8 x9 x10 h
      cases h
    | succ n ih =>
      intro x3 x4 x5 x6 x7 x8 x9 x10 h H locs hw hS ls hl
      rw [f_L_truth_L44.eq_2] at h
      refine lv_iload hx hb dL_truth_44 (lv_at hl 10 rfl) ?_
      refine lv_iload hx hb dL_truth_46 (lv_at hl 9 rfl) ?_
      obtain ⟨r2, y1, h⟩ := t_b1 h
      refine c_si hx hb hml hown hts hK hw hS (fun _ h => h) (As := [.int x9]) (rest := [.int x10]) (c_L_rows hcv (M0 := M) y1) cf_L_rows k_433 rfl rfl ⟨Nat.le_of_ble_eq_true rfl, Nat.le_of_ble_eq_true rfl⟩ rfl hl.1 rfl (Nat.le_of_ble_eq_true rfl) ⟨Nat.le_refl _, Nat.le_refl _⟩ dL_truth_48 (fun H locs hw hS => ?_)
      refine lv_icmp_ge (tgt := 158) hx hb dL_truth_51 (by decide) (fun q3 => ?_) (fun q3 => ?_)
      · replace h := t_pos h q3
        exact L158 k19 hk19 x3 x4 x5 x6 x7 x8 h H locs hw hS ls (lv_sub hl [0, 1, 2, 3, 4, 5, 6, 7, 8] rfl)
      · replace h := t_neg h q3
        refine lv_aload_n hx hb dL_truth_54 rfl (lv_at hl 0 rfl) ?_
        refine lv_iload_n hx hb dL_truth_55 rfl (lv_at hl 2 rfl) ?_
        refine lv_iconst (v := nI 1) hx hb dL_truth_56 (by decide) ?_
        obtain ⟨r5, y4, h⟩ := t_b1 h
        refine c_vi hx hb hml hown hts hK hw hS (fun _ h => h) (As := [.int p0, .int (nI 1)]) (rest := []) (c_X5_question hcv (M := M) y4) cf_X5_question k_361 rfl rfl ⟨Nat.le_of_ble_eq_true rfl, Nat.le_of_ble_eq_true rfl⟩ (r_recv hK hw (v_mn (by decide)) E_mn rfl) rfl hl.1 rfl (Nat.le_of_ble_eq_true rfl) ⟨Nat.le_refl _, Nat.le_refl _⟩ dL_truth_57 (fun H locs hw hS => ?_)
        refine lv_iload hx hb dL_truth_60 (lv_at hl 9 rfl) ?_
        obtain ⟨r7, y6, h⟩ := t_b1 h
        refine c_si hx hb hml hown hts hK hw hS (fun _ h => h) (As := [.int x9]) (rest := [.int r5]) (c_L_layer hcv (M0 := M) y6) cf_L_layer k_416 rfl rfl ⟨Nat.le_of_ble_eq_true rfl, Nat.le_of_ble_eq_true rfl⟩ rfl hl.1 rfl (Nat.le_of_ble_eq_true rfl) ⟨Nat.le_refl _, Nat.le_refl _⟩ dL_truth_62 (fun H locs hw hS => ?_)
        refine lv_ishr hx hb dL_truth_65 ?_
        refine lv_iconst (v := nI 1) hx hb dL_truth_66 (by decide) ?_
        refine lv_iand hx hb dL_truth_67 ?_
        refine lv_iconst (v := nI 1) hx hb dL_truth_68 (by decide) ?_
        refine lv_icmp_ne (tgt := 158) hx hb dL_truth_69 (by decide) (fun q8 => ?_) (fun q8 => ?_)
        · replace h := t_neg h q8
          exact L158 k19 hk19 x3 x4 x5 x6 x7 x8 h H locs hw hS ls (lv_sub hl [0, 1, 2, 3, 4, 5, 6, 7, 8] rfl)
        · replace h := t_pos h q8
          refine lv_iload hx hb dL_truth_72 (lv_at hl 9 rfl) ?_
          refine lv_aload_n hx hb dL_truth_74 rfl (lv_at hl 1 rfl) ?_
          refine lv_iconst (v := nI 2) hx hb dL_truth_75 (by decide) ?_
          refine lv_iconst (v := nI 2) hx hb dL_truth_76 (by decide) ?_
          refine lv_iload hx hb dL_truth_77 (lv_at hl 8 rfl) ?_
          refine lv_imul hx hb dL_truth_79 ?_
          refine lv_iadd hx hb dL_truth_80 ?_
          obtain ⟨r10, y9, h⟩ := t_b1 h
          refine c_six hx hb hml hown hts hK hw hS (fun _ h => h) hX hbl hbA (As := [.ref b, .int ((nI 2) + ((nI 2) * x8))]) (rest := [.int x9]) (c_L_cell hcv (M0 := M) (b := b) (L := L) (xs := xs) (hbA := hbA) y9) cf_L_cell k_392 rfl rfl ⟨Nat.le_of_ble_eq_true rfl, Nat.le_of_ble_eq_true rfl⟩ rfl hl.1 rfl (Nat.le_of_ble_eq_true rfl) ⟨Nat.le_refl _, Nat.le_refl _⟩ dL_truth_81 (fun H locs hw hS => ?_)
          refine lv_iload hx hb dL_truth_84 (lv_at hl 10 rfl) ?_
          obtain ⟨r12, y11, h⟩ := t_b1 h
          refine c_si hx hb hml hown hts hK hw hS (fun _ h => h) (As := [.int x9, .int r10, .int x10]) (rest := []) (c_L_valueOf hcv (M0 := M) y11) cf_L_valueOf k_401 rfl rfl ⟨Nat.le_of_ble_eq_true rfl, Nat.le_of_ble_eq_true rfl⟩ rfl hl.1 rfl (Nat.le_of_ble_eq_true rfl) ⟨Nat.le_refl _, Nat.le_refl _⟩ dL_truth_86 (fun H locs hw hS => ?_)
          refine lv_istore (lv' := [(11, .int r12), (0, .ref (ad 8 0)), (1, .ref b), (2, .int p0), (3, .int x3), (4, .int x4), (5, .int x5), (6, .int x6), (7, .int x7), (8, .int x8), (9, .int x9), (10, .int x10)]) hx hb dL_truth_89 hl (by decide) rfl (fun ls hl => ?_)
          refine lv_iload_n hx hb dL_truth_91 rfl (lv_at hl 4 rfl) ?_
          refine lv_iload hx hb dL_truth_92 (lv_at hl 0 rfl) ?_
          refine lv_iadd hx hb dL_truth_94 ?_
          refine lv_istore_n (lv' := [(3, .int (x3 + r12)), (11, .int r12), (0, .ref (ad 8 0)), (1, .ref b), (2, .int p0), (4, .int x4), (5, .int x5), (6, .int x6), (7, .int x7), (8, .int x8), (9, .int x9), (10, .int x10)]) hx hb dL_truth_95 rfl hl (by decide) rfl (fun ls hl => ?_)
          refine lv_iload hx hb dL_truth_96 (lv_at hl 5 rfl) ?_
          refine lv_iload hx hb dL_truth_98 (lv_at hl 1 rfl) ?_
          refine lv_aload_n hx hb dL_truth_100 rfl (lv_at hl 2 rfl) ?_
          refine lv_iload_n hx hb dL_truth_101 rfl (lv_at hl 4 rfl) ?_
          refine lv_iconst (v := nI 2) hx hb dL_truth_102 (by decide) ?_
          obtain ⟨r14, y13, h⟩ := t_b1 h
          refine c_vi hx hb hml hown hts hK hw hS (fun _ h => h) (As := [.int p0, .int (nI 2)]) (rest := [.int r12, .int x4]) (c_X5_question hcv (M := M) y13) cf_X5_question k_361 rfl rfl ⟨Nat.le_of_ble_eq_true rfl, Nat.le_of_ble_eq_true rfl⟩ (r_recv hK hw (v_mn (by decide)) E_mn rfl) rfl hl.1 rfl (Nat.le_of_ble_eq_true rfl) ⟨Nat.le_refl _, Nat.le_refl _⟩ dL_truth_103 (fun H locs hw hS => ?_)
          refine lv_icmp_lt (tgt := 113) hx hb dL_truth_106 (by decide) (fun q15 => ?_) (fun q15 => ?_)
          · replace h := t_pos h q15
            refine lv_iconst (v := nI 0) hx hb dL_truth_113 (by decide) ?_
            exact L114 k19 hk19 (f_L_truth_L44 k19 M L xs p0 n) ih (x3 + r12) x5 x6 x7 x8 x9 x10 r12 x4 (nI 0) h H locs hw hS ls (lv_sub hl [2, 3, 4, 0, 6, 7, 8, 9, 10, 11, 1] rfl)
          · replace h := t_neg h q15
            refine lv_iconst (v := nI 1) hx hb dL_truth_109 (by decide) ?_
            refine lv_goto (tgt := 114) hx hb dL_truth_110 (by decide) ?_
            exact L114 k19 hk19 (f_L_truth_L44 k19 M L xs p0 n) ih (x3 + r12) x5 x6 x7 x8 x9 x10 r12 x4 (nI 1) h H locs hw hS ls (lv_sub hl [2, 3, 4, 0, 6, 7, 8, 9, 10, 11, 1] rfl)
  have L164 : ∀ (x3 : Int32) (x4 : Int32) (x5 : Int32) (x6 : Int32) (x7 : Int32), f_L_truth_L164 M L xs p0 x3 x4 x5 x6 x7 = some r → JL p l e ({ frames := 4, cells := 0, slots := 0, locals := 99 } : Room) s md args below meth c D cy ad (MQ below (QI D cy ad r M) args s 0 0 (AD ad)) (M) 12 [(0, .ref (ad 8 0)), (2, .int p0), (3, .int x3), (4, .int x4), (5, .int x5), (6, .int x6), (7, .int x7)] 164 [] := by
    intro x3 x4 x5 x6 x7 h H locs hw hS ls hl
    unfold f_L_truth_L164 at h
    refine lv_aload_n hx hb dL_truth_164 rfl (lv_at hl 0 rfl) ?_
    refine lv_iload_n hx hb dL_truth_165 rfl (lv_at hl 1 rfl) ?_
    refine lv_iconst (v := nI 0) hx hb dL_truth_166 (by decide) ?_
    obtain ⟨r2, y1, h⟩ := t_b1 h
    refine c_vi hx hb hml hown hts hK hw hS (fun _ h => h) (As := [.int p0, .int (nI 0)]) (rest := []) (c_X5_question hcv (M := M) y1) cf_X5_question k_361 rfl rfl ⟨Nat.le_of_ble_eq_true rfl, Nat.le_of_ble_eq_true rfl⟩ (r_recv hK hw (v_mn (by decide)) E_mn rfl) rfl hl.1 rfl (Nat.le_of_ble_eq_true rfl) ⟨Nat.le_refl _, Nat.le_refl _⟩ dL_truth_167 (fun H locs hw hS => ?_)
    refine lv_istore (lv' := [(8, .int r2), (0, .ref (ad 8 0)), (2, .int p0), (3, .int x3), (4, .int x4), (5, .int x5), (6, .int x6), (7, .int x7)]) hx hb dL_truth_170 hl (by decide) rfl (fun ls hl => ?_)
    refine lv_iload hx hb dL_truth_172 (lv_at hl 7 rfl) ?_
    refine lv_if_ne (tgt := 182) hx hb dL_truth_174 (by decide) (fun q3 => ?_) (fun q3 => ?_)
    · replace h := t_neg h q3
      refine lv_iload hx hb dL_truth_182 (lv_at hl 0 rfl) ?_
      refine lv_if_ne (tgt := 191) hx hb dL_truth_184 (by decide) (fun q4 => ?_) (fun q4 => ?_)
      · replace h := t_neg h q4
        refine lv_iload hx hb dL_truth_191 (lv_at hl 0 rfl) ?_
        refine lv_iconst (v := nI 1) hx hb dL_truth_193 (by decide) ?_
        refine lv_icmp_ne (tgt := 202) hx hb dL_truth_194 (by decide) (fun q5 => ?_) (fun q5 => ?_)
        · replace h := t_neg h q5
          refine lv_iload hx hb dL_truth_202 (lv_at hl 0 rfl) ?_
          refine lv_iconst (v := nI 2) hx hb dL_truth_204 (by decide) ?_
          refine lv_icmp_ne (tgt := 213) hx hb dL_truth_205 (by decide) (fun q6 => ?_) (fun q6 => ?_)
          · replace h := t_neg h q6
            refine lv_iload hx hb dL_truth_213 (lv_at hl 0 rfl) ?_
            refine lv_iconst (v := nI 3) hx hb dL_truth_215 (by decide) ?_
            refine lv_icmp_ne (tgt := 224) hx hb dL_truth_216 (by decide) (fun q7 => ?_) (fun q7 => ?_)
            · replace h := t_neg h q7
              refine lv_bipush (v := nI 100) hx hb dL_truth_224 (by decide) ?_
              refine lv_iload_n hx hb dL_truth_226 rfl (lv_at hl 3 rfl) ?_
              refine lv_imul hx hb dL_truth_227 ?_
              refine lv_iload hx hb dL_truth_228 (lv_at hl 7 rfl) ?_
              obtain ⟨q8, h⟩ := t_gn h
              refine lv_idiv hx hb dL_truth_230 q8 ?_
              have e1 := Option.some.inj h
              exact e_i hx hb hr hlk hw hS e1 rfl dL_truth_231
            · replace h := t_pos h q7
              refine lv_iload hx hb dL_truth_219 (lv_at hl 6 rfl) ?_
              refine lv_goto (tgt := 231) hx hb dL_truth_221 (by decide) ?_
              have e1 := Option.some.inj h
              exact e_i hx hb hr hlk hw hS e1 rfl dL_truth_231
          · replace h := t_pos h q6
            refine lv_iload hx hb dL_truth_208 (lv_at hl 5 rfl) ?_
            refine lv_goto (tgt := 231) hx hb dL_truth_210 (by decide) ?_
            have e1 := Option.some.inj h
            exact e_i hx hb hr hlk hw hS e1 rfl dL_truth_231
        · replace h := t_pos h q5
          refine lv_iload hx hb dL_truth_197 (lv_at hl 4 rfl) ?_
          refine lv_goto (tgt := 231) hx hb dL_truth_199 (by decide) ?_
          have e1 := Option.some.inj h
          exact e_i hx hb hr hlk hw hS e1 rfl dL_truth_231
      · replace h := t_pos h q4
        refine lv_iload_n hx hb dL_truth_187 rfl (lv_at hl 3 rfl) ?_
        refine lv_goto (tgt := 231) hx hb dL_truth_188 (by decide) ?_
        have e1 := Option.some.inj h
        exact e_i hx hb hr hlk hw hS e1 rfl dL_truth_231
    · replace h := t_pos h q3
      refine lv_bipush (v := -5) hx hb dL_truth_177 (by decide) ?_
      refine lv_goto (tgt := 231) hx hb dL_truth_179 (by decide) ?_
      have e1 := Option.some.inj h
      exact e_i hx hb hr hlk hw hS e1 rfl dL_truth_231
  have L19 : ∀ (n : Nat), ∀ (x3 : Int32) (x4 : Int32) (x5 : Int32) (x6 : Int32) (x7 : Int32) (x8 : Int32), f_L_truth_L19 M L xs p0 n x3 x4 x5 x6 x7 x8 = some r → JL p l e ({ frames := 4, cells := 0, slots := 0, locals := 99 } : Room) s md args below meth c D cy ad (MQ below (QI D cy ad r M) args s 0 0 (AD ad)) (M) 12 [(0, .ref (ad 8 0)), (1, .ref b), (2, .int p0), (3, .int x3), (4, .int x4), (5, .int x5), (6, .int x6), (7, .int x7), (8, .int x8)] 19 [] := by
    intro n
    induction n with
    | zero =>
      intro x3 x4 x5 x6 x7 x8 h
      cases h
    | succ n ih =>
      intro x3 x4 x5 x6 x7 x8 h H locs hw hS ls hl
      rw [f_L_truth_L19.eq_2] at h
      refine lv_iload hx hb dL_truth_19 (lv_at hl 8 rfl) ?_
      refine lv_aload_n hx hb dL_truth_21 rfl (lv_at hl 0 rfl) ?_
      refine lv_iconst (v := nI 0) hx hb dL_truth_22 (by decide) ?_
      obtain ⟨r2, y1, h⟩ := t_b1 h
      refine c_vi hx hb hml hown hts hK hw hS (fun _ h => h) (As := [.int (nI 0)]) (rest := [.int x8]) (c_X5_count hcv (M := M) y1) cf_X5_count k_388 rfl rfl ⟨Nat.le_of_ble_eq_true rfl, Nat.le_of_ble_eq_true rfl⟩ (r_recv hK hw (v_mn (by decide)) E_mn rfl) rfl hl.1 rfl (Nat.le_of_ble_eq_true rfl) ⟨Nat.le_refl _, Nat.le_refl _⟩ dL_truth_23 (fun H locs hw hS => ?_)
      refine lv_icmp_ge (tgt := 164) hx hb dL_truth_26 (by decide) (fun q3 => ?_) (fun q3 => ?_)
      · replace h := t_pos h q3
        exact L164 x3 x4 x5 x6 x7 h H locs hw hS ls (lv_sub hl [0, 2, 3, 4, 5, 6, 7] rfl)
      · replace h := t_neg h q3
        refine lv_aload_n hx hb dL_truth_29 rfl (lv_at hl 1 rfl) ?_
        refine lv_iconst (v := nI 1) hx hb dL_truth_30 (by decide) ?_
        refine lv_iconst (v := nI 2) hx hb dL_truth_31 (by decide) ?_
        refine lv_iload hx hb dL_truth_32 (lv_at hl 8 rfl) ?_
        refine lv_imul hx hb dL_truth_34 ?_
        refine lv_iadd hx hb dL_truth_35 ?_
        obtain ⟨r5, y4, h⟩ := t_b1 h
        refine c_six hx hb hml hown hts hK hw hS (fun _ h => h) hX hbl hbA (As := [.ref b, .int ((nI 1) + ((nI 2) * x8))]) (rest := []) (c_L_cell hcv (M0 := M) (b := b) (L := L) (xs := xs) (hbA := hbA) y4) cf_L_cell k_392 rfl rfl ⟨Nat.le_of_ble_eq_true rfl, Nat.le_of_ble_eq_true rfl⟩ rfl hl.1 rfl (Nat.le_of_ble_eq_true rfl) ⟨Nat.le_refl _, Nat.le_refl _⟩ dL_truth_36 (fun H locs hw hS => ?_)
        refine lv_istore (lv' := [(9, .int r5), (0, .ref (ad 8 0)), (1, .ref b), (2, .int p0), (3, .int x3), (4, .int x4), (5, .int x5), (6, .int x6), (7, .int x7), (8, .int x8)]) hx hb dL_truth_39 hl (by decide) rfl (fun ls hl => ?_)
        refine lv_iconst (v := nI 0) hx hb dL_truth_41 (by decide) ?_
        refine lv_istore (lv' := [(10, .int (nI 0)), (9, .int r5), (0, .ref (ad 8 0)), (1, .ref b), (2, .int p0), (3, .int x3), (4, .int x4), (5, .int x5), (6, .int x6), (7, .int x7), (8, .int x8)]) hx hb dL_truth_42 hl (by decide) rfl (fun ls hl => ?_)
        exact L44 (f_L_truth_L19 M L xs p0 n) ih FU x3 x4 x5 x6 x7 x8 r5 (nI 0) h H locs hw hS ls (lv_sub hl [2, 3, 4, 5, 6, 7, 8, 9, 10, 1, 0] rfl)
  unfold f_L_truth at h
  have main : JL p l e ({ frames := 4, cells := 0, slots := 0, locals := 99 } : Room) s md args below meth c D cy ad (MQ below (QI D cy ad r M) args s 0 0 (AD ad)) (M) 12 [(0, .ref (ad 8 0)), (1, .ref b), (2, .int p0)] 0 [] := by
    intro H locs hw hS ls hl
    refine lv_iconst (v := nI 0) hx hb dL_truth_0 (by decide) ?_
    refine lv_istore_n (lv' := [(3, .int (nI 0)), (0, .ref (ad 8 0)), (1, .ref b), (2, .int p0)]) hx hb dL_truth_1 rfl hl (by decide) rfl (fun ls hl => ?_)
    refine lv_iconst (v := nI 0) hx hb dL_truth_2 (by decide) ?_
    refine lv_istore (lv' := [(4, .int (nI 0)), (3, .int (nI 0)), (0, .ref (ad 8 0)), (1, .ref b), (2, .int p0)]) hx hb dL_truth_3 hl (by decide) rfl (fun ls hl => ?_)
    refine lv_sipush (v := nI 1000) hx hb dL_truth_5 (by decide) ?_
    refine lv_istore (lv' := [(5, .int (nI 1000)), (4, .int (nI 0)), (3, .int (nI 0)), (0, .ref (ad 8 0)), (1, .ref b), (2, .int p0)]) hx hb dL_truth_8 hl (by decide) rfl (fun ls hl => ?_)
    refine lv_iconst (v := -1) hx hb dL_truth_10 (by decide) ?_
    refine lv_istore (lv' := [(6, .int (-1 : Int32)), (5, .int (nI 1000)), (4, .int (nI 0)), (3, .int (nI 0)), (0, .ref (ad 8 0)), (1, .ref b), (2, .int p0)]) hx hb dL_truth_11 hl (by decide) rfl (fun ls hl => ?_)
    refine lv_iconst (v := nI 0) hx hb dL_truth_13 (by decide) ?_
    refine lv_istore (lv' := [(7, .int (nI 0)), (6, .int (-1 : Int32)), (5, .int (nI 1000)), (4, .int (nI 0)), (3, .int (nI 0)), (0, .ref (ad 8 0)), (1, .ref b), (2, .int p0)]) hx hb dL_truth_14 hl (by decide) rfl (fun ls hl => ?_)
    refine lv_iconst (v := nI 0) hx hb dL_truth_16 (by decide) ?_
    refine lv_istore (lv' := [(8, .int (nI 0)), (7, .int (nI 0)), (6, .int (-1 : Int32)), (5, .int (nI 1000)), (4, .int (nI 0)), (3, .int (nI 0)), (0, .ref (ad 8 0)), (1, .ref b), (2, .int p0)]) hx hb dL_truth_17 hl (by decide) rfl (fun ls hl => ?_)
    exact L19 FU (nI 0) (nI 0) (nI 1000) (-1 : Int32) (nI 0) (nI 0) h H locs hw hS ls (lv_sub hl [6, 7, 8, 5, 4, 3, 2, 1, 0] rfl)
  exact main _ _ hw hS ls hl

theorem cf_L_isSound : cfS RL yL_isSound cL_isSound 12 (some .boolean) 4 := ⟨⟨k_495, k_0, k_496⟩, by decide +kernel⟩
def f_L_isSound_L387 (L : Nat) (xs : Nat → Int32) (p0 : Int32) (M : MM) (x4 : Int32) (x5 : Int32) (x9 : Int32) : Option (Int32 × MM) :=
  gd p0 18 (lt1 (gs M 9 (up (M 9) 0 p0.toNatClampNeg x4)) fun M3 => gd ((nI 6) + p0) 18 (lt1 (gs M3 9 (up (M3 9) 0 ((nI 6) + p0).toNatClampNeg x5)) fun M6 => gz x9 (some (x9, M6))))
def f_L_isSound_L283 (L : Nat) (xs : Nat → Int32) (p0 : Int32) (M : MM) (x4 : Int32) (x5 : Int32) (s0 : Int32) : Option (Int32 × MM) :=
  f_L_isSound_L387 L xs p0 M x4 x5 s0
def f_L_isSound_L282 (L : Nat) (xs : Nat → Int32) (p0 : Int32) (M : MM) (x4 : Int32) (x5 : Int32) : Option (Int32 × MM) :=
  f_L_isSound_L283 L xs p0 M x4 x5 (nI 0)
def f_L_isSound_L377 (L : Nat) (xs : Nat → Int32) (p0 : Int32) (M : MM) (x4 : Int32) (x5 : Int32) (x11 : Int32) (s0 : Int32) : Option (Int32 × MM) :=
  gd ((nI 12) + p0) 18 (lt1 (gs M 9 (up (M 9) 0 ((nI 12) + p0).toNatClampNeg x11)) fun M3 => f_L_isSound_L387 L xs p0 M3 x4 x5 s0)
def f_L_isSound_L372 (L : Nat) (xs : Nat → Int32) (p0 : Int32) (M : MM) (x4 : Int32) (x5 : Int32) (x11 : Int32) : Option (Int32 × MM) :=
  f_L_isSound_L377 L xs p0 M x4 x5 x11 (nI 1)
def f_L_isSound_L376 (L : Nat) (xs : Nat → Int32) (p0 : Int32) (M : MM) (x4 : Int32) (x5 : Int32) (x11 : Int32) : Option (Int32 × MM) :=
  f_L_isSound_L377 L xs p0 M x4 x5 x11 (nI 0)
def f_L_isSound_L231 (L : Nat) (xs : Nat → Int32) (p0 : Int32) (M : MM) (x4 : Int32) (x5 : Int32) (x7 : Int32) (x8 : Int32) (s0 : Int32) : Option (Int32 × MM) :=
  (if x8 = (nI 0) then (if s0 = (nI 0) then f_L_isSound_L282 L xs p0 M x4 x5 else b1 (f_X5_question M p0 (nI 8)) fun r24 => (if r24 = (-5 : Int32) then b1 (f_X5_question M p0 (nI 10)) fun r27 => (if r27 = (-5 : Int32) then gd ((nI 12) + p0) 18 ((if (M 9 0 ((nI 12) + p0).toNatClampNeg) = (-5 : Int32) then f_L_isSound_L283 L xs p0 M x4 x5 (nI 1) else f_L_isSound_L282 L xs p0 M x4 x5)) else f_L_isSound_L282 L xs p0 M x4 x5) else f_L_isSound_L282 L xs p0 M x4 x5)) else b1 (f_X5_question M p0 (nI 10)) fun r3 => (if s0 = (nI 0) then f_L_isSound_L376 L xs p0 M x4 x5 r3 else b1 (f_X5_question M p0 (nI 9)) fun r6 => b1 (f_X5_question M p0 (nI 8)) fun r8 => b1 (f_X5_question M p0 (nI 3)) fun r10 => (if r10 < (r6 - r8) then f_L_isSound_L376 L xs p0 M x4 x5 r3 else b1 (f_X5_question M p0 (nI 8)) fun r13 => (if x7 < r13 then f_L_isSound_L376 L xs p0 M x4 x5 r3 else b1 (f_X5_question M p0 (nI 9)) fun r16 => (if r16 < x7 then f_L_isSound_L376 L xs p0 M x4 x5 r3 else gd ((nI 12) + p0) 18 ((if (M 9 0 ((nI 12) + p0).toNatClampNeg) = (-5 : Int32) then f_L_isSound_L372 L xs p0 M x4 x5 r3 else gd ((nI 12) + p0) 18 ((if (M 9 0 ((nI 12) + p0).toNatClampNeg) = r3 then f_L_isSound_L372 L xs p0 M x4 x5 r3 else f_L_isSound_L376 L xs p0 M x4 x5 r3)))))))))
def f_L_isSound_L226 (L : Nat) (xs : Nat → Int32) (p0 : Int32) (M : MM) (x4 : Int32) (x5 : Int32) (x7 : Int32) (x8 : Int32) : Option (Int32 × MM) :=
  f_L_isSound_L231 L xs p0 M x4 x5 x7 x8 (nI 1)
def f_L_isSound_L230 (L : Nat) (xs : Nat → Int32) (p0 : Int32) (M : MM) (x4 : Int32) (x5 : Int32) (x7 : Int32) (x8 : Int32) : Option (Int32 × MM) :=
  f_L_isSound_L231 L xs p0 M x4 x5 x7 x8 (nI 0)
def f_L_isSound_L207 (L : Nat) (xs : Nat → Int32) (p0 : Int32) (M : MM) (x4 : Int32) (x5 : Int32) (x7 : Int32) (x8 : Int32) : Option (Int32 × MM) :=
  (if x8 = (nI 0) then b1 (f_X5_question M p0 (nI 3)) fun r3 => (if (x5 - x4) ≤ r3 then f_L_isSound_L230 L xs p0 M x4 x5 x7 x8 else f_L_isSound_L226 L xs p0 M x4 x5 x7 x8) else f_L_isSound_L226 L xs p0 M x4 x5 x7 x8)
def f_L_isSound_L176 (L : Nat) (xs : Nat → Int32) (p0 : Int32) (M : MM) (x4 : Int32) (x5 : Int32) (x6 : Int32) (x7 : Int32) (x8 : Int32) (x9 : Int32) (s0 : Int32) : Option (Int32 × MM) :=
  (if x9 = (nI 0) then f_L_isSound_L230 L xs p0 M x4 x5 x7 x8 else (if s0 = (nI 0) then f_L_isSound_L207 L xs p0 M x4 x5 x7 x8 else (if x4 = x5 then (if x6 = x7 then (if x8 = (nI 0) then f_L_isSound_L230 L xs p0 M x4 x5 x7 x8 else f_L_isSound_L207 L xs p0 M x4 x5 x7 x8) else f_L_isSound_L230 L xs p0 M x4 x5 x7 x8) else f_L_isSound_L230 L xs p0 M x4 x5 x7 x8)))
def f_L_isSound_L152 (L : Nat) (xs : Nat → Int32) (p0 : Int32) (M : MM) (x4 : Int32) (x5 : Int32) (x6 : Int32) (x7 : Int32) (x8 : Int32) (s0 : Int32) : Option (Int32 × MM) :=
  b1 (f_X5_question M p0 (nI 11)) fun r2 => b1 (f_X5_question M p0 (nI 12)) fun r4 => (if r2 = r4 then f_L_isSound_L176 L xs p0 M x4 x5 x6 x7 x8 s0 (nI 1) else f_L_isSound_L176 L xs p0 M x4 x5 x6 x7 x8 s0 (nI 0))
def f_L_isSound_L151 (L : Nat) (xs : Nat → Int32) (p0 : Int32) (M : MM) (x4 : Int32) (x5 : Int32) (x6 : Int32) (x7 : Int32) (x8 : Int32) : Option (Int32 × MM) :=
  f_L_isSound_L152 L xs p0 M x4 x5 x6 x7 x8 (nI 0)
def f_L_isSound_L49 (L : Nat) (xs : Nat → Int32) (p0 : Int32) (M : MM) (x4 : Int32) (x5 : Int32) (x6 : Int32) (x7 : Int32) (s0 : Int32) : Option (Int32 × MM) :=
  (if x7 = (-5 : Int32) then (if x4 = (-5 : Int32) then (if x5 = (-5 : Int32) then (if x6 = (-5 : Int32) then (if s0 = (nI 0) then b1 (f_X5_question M p0 (nI 11)) fun r15 => (if r15 = (nI 0) then some ((nI 1), M) else some ((nI 0), M)) else some ((nI 0), M)) else some ((nI 0), M)) else some ((nI 0), M)) else some ((nI 0), M)) else (if x7 < x4 then f_L_isSound_L151 L xs p0 M x4 x5 x6 x7 s0 else (if x5 < x7 then f_L_isSound_L151 L xs p0 M x4 x5 x6 x7 s0 else (if x6 < x4 then f_L_isSound_L151 L xs p0 M x4 x5 x6 x7 s0 else (if x5 < x6 then f_L_isSound_L151 L xs p0 M x4 x5 x6 x7 s0 else gd p0 18 ((if x4 < (M 9 0 p0.toNatClampNeg) then f_L_isSound_L151 L xs p0 M x4 x5 x6 x7 s0 else gd ((nI 6) + p0) 18 ((if (M 9 0 ((nI 6) + p0).toNatClampNeg) < x5 then f_L_isSound_L151 L xs p0 M x4 x5 x6 x7 s0 else f_L_isSound_L152 L xs p0 M x4 x5 x6 x7 s0 (nI 1))))))))))
def f_L_isSound (M : MM) (L : Nat) (xs : Nat → Int32) (p0 : Int32) : Option (Int32 × MM) :=
  b1 (f_X5_question M p0 (nI 5)) fun r2 => b1 (f_X5_question M p0 (nI 6)) fun r4 => b1 (f_X5_question M p0 (nI 7)) fun r6 => b1 (f_L_truth M L xs p0) fun r8 => b1 (f_X5_question M p0 (nI 4)) fun r10 => (if r10 = (nI 1) then f_L_isSound_L49 L xs p0 M r2 r4 r6 r8 (nI 1) else f_L_isSound_L49 L xs p0 M r2 r4 r6 r8 (nI 0))
set_option maxHeartbeats 4000000 in
set_option maxRecDepth 100000 in
theorem c_L_isSound {l : Launch} {D : va_G} {cy : Nat → ClassId} {ad : Nat → Nat → Nat} (hcv : CV ad) {M : MM} {b L : Nat} {xs : Nat → Int32} (hbA : ¬ AD ad b) {p0 : Int32} {r : Int32} {x : MM} (h : f_L_isSound M L xs p0 = some (r, x)) : Met l yL_isSound (.code yL_isSound cL_isSound 12 (some .boolean) :: TB) ({ frames := 5, cells := 0, slots := 0, locals := 130 } : Room) (PX D cy ad M b L xs [.ref (ad 8 0), .ref b, .int p0, .ref (ad 9 0)]) (QI D cy ad r x) 0 0 (AD ad) := by
  refine m_inx (by decide +kernel) (Nat.le_of_ble_eq_true rfl) ?_
  intro p e s md args below meth c hC hw hX hbl hS ls hl
  obtain ⟨hx, hb, hr, hml, hown, hts, hK, hlk⟩ := hC
  have hl : lv_has ls 12 [(0, .ref (ad 8 0)), (1, .ref b), (2, .int p0), (3, .ref (ad 9 0))] := hl
  have L387 : ∀ (M : MM) (x4 : Int32) (x5 : Int32) (x9 : Int32), f_L_isSound_L387 L xs p0 M x4 x5 x9 = some (r, x) → JL p l e ({ frames := 5, cells := 0, slots := 0, locals := 130 } : Room) s md args below meth c D cy ad (MQ below (QI D cy ad r x) args s 0 0 (AD ad)) (M) 12 [(2, .int p0), (3, .ref (ad 9 0)), (4, .int x4), (5, .int x5), (9, .int x9)] 387 [] := by
    intro M x4 x5 x9 h H locs hw hS ls hl
    unfold f_L_isSound_L387 at h
    refine lv_aload_n hx hb dL_isSound_387 rfl (lv_at hl 1 rfl) ?_
    refine lv_iload_n hx hb dL_isSound_388 rfl (lv_at hl 0 rfl) ?_
    refine lv_iload hx hb dL_isSound_389 (lv_at hl 2 rfl) ?_
    obtain ⟨q1, h⟩ := t_gd h
    obtain ⟨M3, e2, h⟩ := t_lt h
    refine r_iast hx hb hK hcv hw hS v_ra rfl (fun _ => E_ra) q1 e2.symm dL_isSound_391 (fun H locs hw hS => ?_)
    refine lv_aload_n hx hb dL_isSound_392 rfl (lv_at hl 1 rfl) ?_
    refine lv_bipush (v := nI 6) hx hb dL_isSound_393 (by decide) ?_
    refine lv_iload_n hx hb dL_isSound_395 rfl (lv_at hl 0 rfl) ?_
    refine lv_iadd hx hb dL_isSound_396 ?_
    refine lv_iload hx hb dL_isSound_397 (lv_at hl 3 rfl) ?_
    obtain ⟨q4, h⟩ := t_gd h
    obtain ⟨M6, e5, h⟩ := t_lt h
    refine r_iast hx hb hK hcv hw hS v_ra rfl (fun _ => E_ra) q4 e5.symm dL_isSound_399 (fun H locs hw hS => ?_)
    refine lv_iload hx hb dL_isSound_400 (lv_at hl 4 rfl) ?_
    obtain ⟨q7, h⟩ := t_gz h
    have e1 := (t_ret h).1
    have e2 := (t_ret h).2
    exact e_z hx hb hr hlk q7 hw hS e1 e2 dL_isSound_402
  have L283 : ∀ (M : MM) (x4 : Int32) (x5 : Int32) (s0 : Int32), f_L_isSound_L283 L xs p0 M x4 x5 s0 = some (r, x) → JL p l e ({ frames := 5, cells := 0, slots := 0, locals := 130 } : Room) s md args below meth c D cy ad (MQ below (QI D cy ad r x) args s 0 0 (AD ad)) (M) 12 [(2, .int p0), (3, .ref (ad 9 0)), (4, .int x4), (5, .int x5)] 283 [.int s0] := by
    intro M x4 x5 s0 h H locs hw hS ls hl
    unfold f_L_isSound_L283 at h
    refine lv_istore (lv' := [(9, .int s0), (2, .int p0), (3, .ref (ad 9 0)), (4, .int x4), (5, .int x5)]) hx hb dL_isSound_283 hl (by decide) rfl (fun ls hl => ?_)
    refine lv_goto (tgt := 387) hx hb dL_isSound_285 (by decide) ?_
    exact L387 M x4 x5 s0 h H locs hw hS ls (lv_sub hl [1, 2, 3, 4, 0] rfl)
  have L282 : ∀ (M : MM) (x4 : Int32) (x5 : Int32), f_L_isSound_L282 L xs p0 M x4 x5 = some (r, x) → JL p l e ({ frames := 5, cells := 0, slots := 0, locals := 130 } : Room) s md args below meth c D cy ad (MQ below (QI D cy ad r x) args s 0 0 (AD ad)) (M) 12 [(2, .int p0), (3, .ref (ad 9 0)), (4, .int x4), (5, .int x5)] 282 [] := by
    intro M x4 x5 h H locs hw hS ls hl
    unfold f_L_isSound_L282 at h
    refine lv_iconst (v := nI 0) hx hb dL_isSound_282 (by decide) ?_
    exact L283 M x4 x5 (nI 0) h H locs hw hS ls (lv_sub hl [0, 1, 2, 3] rfl)
  have L377 : ∀ (M : MM) (x4 : Int32) (x5 : Int32) (x11 : Int32) (s0 : Int32), f_L_isSound_L377 L xs p0 M x4 x5 x11 s0 = some (r, x) → JL p l e ({ frames := 5, cells := 0, slots := 0, locals := 130 } : Room) s md args below meth c D cy ad (MQ below (QI D cy ad r x) args s 0 0 (AD ad)) (M) 12 [(2, .int p0), (3, .ref (ad 9 0)), (4, .int x4), (5, .int x5), (11, .int x11)] 377 [.int s0] := by
    intro M x4 x5 x11 s0 h H locs hw hS ls hl
    unfold f_L_isSound_L377 at h
    refine lv_istore (lv' := [(9, .int s0), (2, .int p0), (3, .ref (ad 9 0)), (4, .int x4), (5, .int x5), (11, .int x11)]) hx hb dL_isSound_377 hl (by decide) rfl (fun ls hl => ?_)
    refine lv_aload_n hx hb dL_isSound_379 rfl (lv_at hl 2 rfl) ?_
    refine lv_bipush (v := nI 12) hx hb dL_isSound_380 (by decide) ?_
    refine lv_iload_n hx hb dL_isSound_382 rfl (lv_at hl 1 rfl) ?_
    refine lv_iadd hx hb dL_isSound_383 ?_
    refine lv_iload hx hb dL_isSound_384 (lv_at hl 5 rfl) ?_
    obtain ⟨q1, h⟩ := t_gd h
    obtain ⟨M3, e2, h⟩ := t_lt h
    refine r_iast hx hb hK hcv hw hS v_ra rfl (fun _ => E_ra) q1 e2.symm dL_isSound_386 (fun H locs hw hS => ?_)
    exact L387 M3 x4 x5 s0 h H locs hw hS ls (lv_sub hl [1, 2, 3, 4, 0] rfl)
  have L372 : ∀ (M : MM) (x4 : Int32) (x5 : Int32) (x11 : Int32), f_L_isSound_L372 L xs p0 M x4 x5 x11 = some (r, x) → JL p l e ({ frames := 5, cells := 0, slots := 0, locals := 130 } : Room) s md args below meth c D cy ad (MQ below (QI D cy ad r x) args s 0 0 (AD ad)) (M) 12 [(2, .int p0), (3, .ref (ad 9 0)), (4, .int x4), (5, .int x5), (11, .int x11)] 372 [] := by
    intro M x4 x5 x11 h H locs hw hS ls hl
    unfold f_L_isSound_L372 at h
    refine lv_iconst (v := nI 1) hx hb dL_isSound_372 (by decide) ?_
    refine lv_goto (tgt := 377) hx hb dL_isSound_373 (by decide) ?_
    exact L377 M x4 x5 x11 (nI 1) h H locs hw hS ls (lv_sub hl [0, 1, 2, 3, 4] rfl)
  have L376 : ∀ (M : MM) (x4 : Int32) (x5 : Int32) (x11 : Int32), f_L_isSound_L376 L xs p0 M x4 x5 x11 = some (r, x) → JL p l e ({ frames := 5, cells := 0, slots := 0, locals := 130 } : Room) s md args below meth c D cy ad (MQ below (QI D cy ad r x) args s 0 0 (AD ad)) (M) 12 [(2, .int p0), (3, .ref (ad 9 0)), (4, .int x4), (5, .int x5), (11, .int x11)] 376 [] := by
    intro M x4 x5 x11 h H locs hw hS ls hl
    unfold f_L_isSound_L376 at h
    refine lv_iconst (v := nI 0) hx hb dL_isSound_376 (by decide) ?_
    exact L377 M x4 x5 x11 (nI 0) h H locs hw hS ls (lv_sub hl [0, 1, 2, 3, 4] rfl)
  have L231 : ∀ (M : MM) (x4 : Int32) (x5 : Int32) (x7 : Int32) (x8 : Int32) (s0 : Int32), f_L_isSound_L231 L xs p0 M x4 x5 x7 x8 s0 = some (r, x) → JL p l e ({ frames := 5, cells := 0, slots := 0, locals := 130 } : Room) s md args below meth c D cy ad (MQ below (QI D cy ad r x) args s 0 0 (AD ad)) (M) 12 [(0, .ref (ad 8 0)), (2, .int p0), (3, .ref (ad 9 0)), (4, .int x4), (5, .int x5), (7, .int x7), (8, .int x8)] 231 [.int s0] := by
    intro M x4 x5 x7 x8 s0 h H locs hw hS ls hl
    unfold f_L_isSound_L231 at h
    refine lv_istore (lv' := [(9, .int s0), (0, .ref (ad 8 0)), (2, .int p0), (3, .ref (ad 9 0)), (4, .int x4), (5, .int x5), (7, .int x7), (8, .int x8)]) hx hb dL_isSound_231 hl (by decide) rfl (fun ls hl => ?_)
    refine lv_iload hx hb dL_isSound_233 (lv_at hl 7 rfl) ?_
    refine lv_if_ne (tgt := 288) hx hb dL_isSound_235 (by decide) (fun q1 => ?_) (fun q1 => ?_)
    · replace h := t_neg h q1
      refine lv_aload_n hx hb dL_isSound_288 rfl (lv_at hl 1 rfl) ?_
      refine lv_iload_n hx hb dL_isSound_289 rfl (lv_at hl 2 rfl) ?_
      refine lv_bipush (v := nI 10) hx hb dL_isSound_290 (by decide) ?_
      obtain ⟨r3, y2, h⟩ := t_b1 h
      refine c_vi hx hb hml hown hts hK hw hS (fun _ h => h) (As := [.int p0, .int (nI 10)]) (rest := []) (c_X5_question hcv (M := M) y2) cf_X5_question k_361 rfl rfl ⟨Nat.le_of_ble_eq_true rfl, Nat.le_of_ble_eq_true rfl⟩ (r_recv hK hw (v_mn (by decide)) E_mn rfl) rfl hl.1 rfl (Nat.le_of_ble_eq_true rfl) ⟨Nat.le_refl _, Nat.le_refl _⟩ dL_isSound_292 (fun H locs hw hS => ?_)
      refine lv_istore (lv' := [(11, .int r3), (9, .int s0), (0, .ref (ad 8 0)), (2, .int p0), (3, .ref (ad 9 0)), (4, .int x4), (5, .int x5), (7, .int x7), (8, .int x8)]) hx hb dL_isSound_295 hl (by decide) rfl (fun ls hl => ?_)
      refine lv_iload hx hb dL_isSound_297 (lv_at hl 1 rfl) ?_
      refine lv_if_eq (tgt := 376) hx hb dL_isSound_299 (by decide) (fun q4 => ?_) (fun q4 => ?_)
      · replace h := t_pos h q4
        exact L376 M x4 x5 r3 h H locs hw hS ls (lv_sub hl [3, 4, 5, 6, 0] rfl)
      · replace h := t_neg h q4
        refine lv_aload_n hx hb dL_isSound_302 rfl (lv_at hl 2 rfl) ?_
        refine lv_iload_n hx hb dL_isSound_303 rfl (lv_at hl 3 rfl) ?_
        refine lv_bipush (v := nI 9) hx hb dL_isSound_304 (by decide) ?_
        obtain ⟨r6, y5, h⟩ := t_b1 h
        refine c_vi hx hb hml hown hts hK hw hS (fun _ h => h) (As := [.int p0, .int (nI 9)]) (rest := []) (c_X5_question hcv (M := M) y5) cf_X5_question k_361 rfl rfl ⟨Nat.le_of_ble_eq_true rfl, Nat.le_of_ble_eq_true rfl⟩ (r_recv hK hw (v_mn (by decide)) E_mn rfl) rfl hl.1 rfl (Nat.le_of_ble_eq_true rfl) ⟨Nat.le_refl _, Nat.le_refl _⟩ dL_isSound_306 (fun H locs hw hS => ?_)
        refine lv_aload_n hx hb dL_isSound_309 rfl (lv_at hl 2 rfl) ?_
        refine lv_iload_n hx hb dL_isSound_310 rfl (lv_at hl 3 rfl) ?_
        refine lv_bipush (v := nI 8) hx hb dL_isSound_311 (by decide) ?_
        obtain ⟨r8, y7, h⟩ := t_b1 h
        refine c_vi hx hb hml hown hts hK hw hS (fun _ h => h) (As := [.int p0, .int (nI 8)]) (rest := [.int r6]) (c_X5_question hcv (M := M) y7) cf_X5_question k_361 rfl rfl ⟨Nat.le_of_ble_eq_true rfl, Nat.le_of_ble_eq_true rfl⟩ (r_recv hK hw (v_mn (by decide)) E_mn rfl) rfl hl.1 rfl (Nat.le_of_ble_eq_true rfl) ⟨Nat.le_refl _, Nat.le_refl _⟩ dL_isSound_313 (fun H locs hw hS => ?_)
        refine lv_isub hx hb dL_isSound_316 ?_
        refine lv_aload_n hx hb dL_isSound_317 rfl (lv_at hl 2 rfl) ?_
        refine lv_iload_n hx hb dL_isSound_318 rfl (lv_at hl 3 rfl) ?_
        refine lv_iconst (v := nI 3) hx hb dL_isSound_319 (by decide) ?_
        obtain ⟨r10, y9, h⟩ := t_b1 h
        refine c_vi hx hb hml hown hts hK hw hS (fun _ h => h) (As := [.int p0, .int (nI 3)]) (rest := [.int (r6 - r8)]) (c_X5_question hcv (M := M) y9) cf_X5_question k_361 rfl rfl ⟨Nat.le_of_ble_eq_true rfl, Nat.le_of_ble_eq_true rfl⟩ (r_recv hK hw (v_mn (by decide)) E_mn rfl) rfl hl.1 rfl (Nat.le_of_ble_eq_true rfl) ⟨Nat.le_refl _, Nat.le_refl _⟩ dL_isSound_320 (fun H locs hw hS => ?_)
        refine lv_icmp_gt (tgt := 376) hx hb dL_isSound_323 (by decide) (fun q11 => ?_) (fun q11 => ?_)
        · replace h := t_pos h q11
          exact L376 M x4 x5 r3 h H locs hw hS ls (lv_sub hl [3, 4, 5, 6, 0] rfl)
        · replace h := t_neg h q11
          refine lv_aload_n hx hb dL_isSound_326 rfl (lv_at hl 2 rfl) ?_
          refine lv_iload_n hx hb dL_isSound_327 rfl (lv_at hl 3 rfl) ?_
          refine lv_bipush (v := nI 8) hx hb dL_isSound_328 (by decide) ?_
          obtain ⟨r13, y12, h⟩ := t_b1 h
          refine c_vi hx hb hml hown hts hK hw hS (fun _ h => h) (As := [.int p0, .int (nI 8)]) (rest := []) (c_X5_question hcv (M := M) y12) cf_X5_question k_361 rfl rfl ⟨Nat.le_of_ble_eq_true rfl, Nat.le_of_ble_eq_true rfl⟩ (r_recv hK hw (v_mn (by decide)) E_mn rfl) rfl hl.1 rfl (Nat.le_of_ble_eq_true rfl) ⟨Nat.le_refl _, Nat.le_refl _⟩ dL_isSound_330 (fun H locs hw hS => ?_)
          refine lv_iload hx hb dL_isSound_333 (lv_at hl 7 rfl) ?_
          refine lv_icmp_gt (tgt := 376) hx hb dL_isSound_335 (by decide) (fun q14 => ?_) (fun q14 => ?_)
          · replace h := t_pos h q14
            exact L376 M x4 x5 r3 h H locs hw hS ls (lv_sub hl [3, 4, 5, 6, 0] rfl)
          · replace h := t_neg h q14
            refine lv_iload hx hb dL_isSound_338 (lv_at hl 7 rfl) ?_
            refine lv_aload_n hx hb dL_isSound_340 rfl (lv_at hl 2 rfl) ?_
            refine lv_iload_n hx hb dL_isSound_341 rfl (lv_at hl 3 rfl) ?_
            refine lv_bipush (v := nI 9) hx hb dL_isSound_342 (by decide) ?_
            obtain ⟨r16, y15, h⟩ := t_b1 h
            refine c_vi hx hb hml hown hts hK hw hS (fun _ h => h) (As := [.int p0, .int (nI 9)]) (rest := [.int x7]) (c_X5_question hcv (M := M) y15) cf_X5_question k_361 rfl rfl ⟨Nat.le_of_ble_eq_true rfl, Nat.le_of_ble_eq_true rfl⟩ (r_recv hK hw (v_mn (by decide)) E_mn rfl) rfl hl.1 rfl (Nat.le_of_ble_eq_true rfl) ⟨Nat.le_refl _, Nat.le_refl _⟩ dL_isSound_344 (fun H locs hw hS => ?_)
            refine lv_icmp_gt (tgt := 376) hx hb dL_isSound_347 (by decide) (fun q17 => ?_) (fun q17 => ?_)
            · replace h := t_pos h q17
              exact L376 M x4 x5 r3 h H locs hw hS ls (lv_sub hl [3, 4, 5, 6, 0] rfl)
            · replace h := t_neg h q17
              refine lv_aload_n hx hb dL_isSound_350 rfl (lv_at hl 4 rfl) ?_
              refine lv_bipush (v := nI 12) hx hb dL_isSound_351 (by decide) ?_
              refine lv_iload_n hx hb dL_isSound_353 rfl (lv_at hl 3 rfl) ?_
              refine lv_iadd hx hb dL_isSound_354 ?_
              obtain ⟨q18, h⟩ := t_gd h
              refine r_iald hx hb hK hw v_ra rfl E_ra q18 dL_isSound_355 ?_
              refine lv_bipush (v := -5) hx hb dL_isSound_356 (by decide) ?_
              refine lv_icmp_eq (tgt := 372) hx hb dL_isSound_358 (by decide) (fun q19 => ?_) (fun q19 => ?_)
              · replace h := t_pos h q19
                exact L372 M x4 x5 r3 h H locs hw hS ls (lv_sub hl [3, 4, 5, 6, 0] rfl)
              · replace h := t_neg h q19
                refine lv_aload_n hx hb dL_isSound_361 rfl (lv_at hl 4 rfl) ?_
                refine lv_bipush (v := nI 12) hx hb dL_isSound_362 (by decide) ?_
                refine lv_iload_n hx hb dL_isSound_364 rfl (lv_at hl 3 rfl) ?_
                refine lv_iadd hx hb dL_isSound_365 ?_
                obtain ⟨q20, h⟩ := t_gd h
                refine r_iald hx hb hK hw v_ra rfl E_ra q20 dL_isSound_366 ?_
                refine lv_iload hx hb dL_isSound_367 (lv_at hl 0 rfl) ?_
                refine lv_icmp_ne (tgt := 376) hx hb dL_isSound_369 (by decide) (fun q21 => ?_) (fun q21 => ?_)
                · replace h := t_neg h q21
                  exact L376 M x4 x5 r3 h H locs hw hS ls (lv_sub hl [3, 4, 5, 6, 0] rfl)
                · replace h := t_pos h q21
                  exact L372 M x4 x5 r3 h H locs hw hS ls (lv_sub hl [3, 4, 5, 6, 0] rfl)
    · replace h := t_pos h q1
      refine lv_iload hx hb dL_isSound_238 (lv_at hl 0 rfl) ?_
      refine lv_if_eq (tgt := 282) hx hb dL_isSound_240 (by decide) (fun q22 => ?_) (fun q22 => ?_)
      · replace h := t_pos h q22
        exact L282 M x4 x5 h H locs hw hS ls (lv_sub hl [2, 3, 4, 5] rfl)
      · replace h := t_neg h q22
        refine lv_aload_n hx hb dL_isSound_243 rfl (lv_at hl 1 rfl) ?_
        refine lv_iload_n hx hb dL_isSound_244 rfl (lv_at hl 2 rfl) ?_
        refine lv_bipush (v := nI 8) hx hb dL_isSound_245 (by decide) ?_
        obtain ⟨r24, y23, h⟩ := t_b1 h
        refine c_vi hx hb hml hown hts hK hw hS (fun _ h => h) (As := [.int p0, .int (nI 8)]) (rest := []) (c_X5_question hcv (M := M) y23) cf_X5_question k_361 rfl rfl ⟨Nat.le_of_ble_eq_true rfl, Nat.le_of_ble_eq_true rfl⟩ (r_recv hK hw (v_mn (by decide)) E_mn rfl) rfl hl.1 rfl (Nat.le_of_ble_eq_true rfl) ⟨Nat.le_refl _, Nat.le_refl _⟩ dL_isSound_247 (fun H locs hw hS => ?_)
        refine lv_bipush (v := -5) hx hb dL_isSound_250 (by decide) ?_
        refine lv_icmp_ne (tgt := 282) hx hb dL_isSound_252 (by decide) (fun q25 => ?_) (fun q25 => ?_)
        · replace h := t_neg h q25
          exact L282 M x4 x5 h H locs hw hS ls (lv_sub hl [2, 3, 4, 5] rfl)
        · replace h := t_pos h q25
          refine lv_aload_n hx hb dL_isSound_255 rfl (lv_at hl 1 rfl) ?_
          refine lv_iload_n hx hb dL_isSound_256 rfl (lv_at hl 2 rfl) ?_
          refine lv_bipush (v := nI 10) hx hb dL_isSound_257 (by decide) ?_
          obtain ⟨r27, y26, h⟩ := t_b1 h
          refine c_vi hx hb hml hown hts hK hw hS (fun _ h => h) (As := [.int p0, .int (nI 10)]) (rest := []) (c_X5_question hcv (M := M) y26) cf_X5_question k_361 rfl rfl ⟨Nat.le_of_ble_eq_true rfl, Nat.le_of_ble_eq_true rfl⟩ (r_recv hK hw (v_mn (by decide)) E_mn rfl) rfl hl.1 rfl (Nat.le_of_ble_eq_true rfl) ⟨Nat.le_refl _, Nat.le_refl _⟩ dL_isSound_259 (fun H locs hw hS => ?_)
          refine lv_bipush (v := -5) hx hb dL_isSound_262 (by decide) ?_
          refine lv_icmp_ne (tgt := 282) hx hb dL_isSound_264 (by decide) (fun q28 => ?_) (fun q28 => ?_)
          · replace h := t_neg h q28
            exact L282 M x4 x5 h H locs hw hS ls (lv_sub hl [2, 3, 4, 5] rfl)
          · replace h := t_pos h q28
            refine lv_aload_n hx hb dL_isSound_267 rfl (lv_at hl 3 rfl) ?_
            refine lv_bipush (v := nI 12) hx hb dL_isSound_268 (by decide) ?_
            refine lv_iload_n hx hb dL_isSound_270 rfl (lv_at hl 2 rfl) ?_
            refine lv_iadd hx hb dL_isSound_271 ?_
            obtain ⟨q29, h⟩ := t_gd h
            refine r_iald hx hb hK hw v_ra rfl E_ra q29 dL_isSound_272 ?_
            refine lv_bipush (v := -5) hx hb dL_isSound_273 (by decide) ?_
            refine lv_icmp_ne (tgt := 282) hx hb dL_isSound_275 (by decide) (fun q30 => ?_) (fun q30 => ?_)
            · replace h := t_neg h q30
              exact L282 M x4 x5 h H locs hw hS ls (lv_sub hl [2, 3, 4, 5] rfl)
            · replace h := t_pos h q30
              refine lv_iconst (v := nI 1) hx hb dL_isSound_278 (by decide) ?_
              refine lv_goto (tgt := 283) hx hb dL_isSound_279 (by decide) ?_
              exact L283 M x4 x5 (nI 1) h H locs hw hS ls (lv_sub hl [2, 3, 4, 5] rfl)
  have L226 : ∀ (M : MM) (x4 : Int32) (x5 : Int32) (x7 : Int32) (x8 : Int32), f_L_isSound_L226 L xs p0 M x4 x5 x7 x8 = some (r, x) → JL p l e ({ frames := 5, cells := 0, slots := 0, locals := 130 } : Room) s md args below meth c D cy ad (MQ below (QI D cy ad r x) args s 0 0 (AD ad)) (M) 12 [(0, .ref (ad 8 0)), (2, .int p0), (3, .ref (ad 9 0)), (4, .int x4), (5, .int x5), (7, .int x7), (8, .int x8)] 226 [] := by
    intro M x4 x5 x7 x8 h H locs hw hS ls hl
    unfold f_L_isSound_L226 at h
    refine lv_iconst (v := nI 1) hx hb dL_isSound_226 (by decide) ?_
    refine lv_goto (tgt := 231) hx hb dL_isSound_227 (by decide) ?_
    exact L231 M x4 x5 x7 x8 (nI 1) h H locs hw hS ls (lv_sub hl [0, 1, 2, 3, 4, 5, 6] rfl)
  have L230 : ∀ (M : MM) (x4 : Int32) (x5 : Int32) (x7 : Int32) (x8 : Int32), f_L_isSound_L230 L xs p0 M x4 x5 x7 x8 = some (r, x) → JL p l e ({ frames := 5, cells := 0, slots := 0, locals := 130 } : Room) s md args below meth c D cy ad (MQ below (QI D cy ad r x) args s 0 0 (AD ad)) (M) 12 [(0, .ref (ad 8 0)), (2, .int p0), (3, .ref (ad 9 0)), (4, .int x4), (5, .int x5), (7, .int x7), (8, .int x8)] 230 [] := by
    intro M x4 x5 x7 x8 h H locs hw hS ls hl
    unfold f_L_isSound_L230 at h
    refine lv_iconst (v := nI 0) hx hb dL_isSound_230 (by decide) ?_
    exact L231 M x4 x5 x7 x8 (nI 0) h H locs hw hS ls (lv_sub hl [0, 1, 2, 3, 4, 5, 6] rfl)
  have L207 : ∀ (M : MM) (x4 : Int32) (x5 : Int32) (x7 : Int32) (x8 : Int32), f_L_isSound_L207 L xs p0 M x4 x5 x7 x8 = some (r, x) → JL p l e ({ frames := 5, cells := 0, slots := 0, locals := 130 } : Room) s md args below meth c D cy ad (MQ below (QI D cy ad r x) args s 0 0 (AD ad)) (M) 12 [(0, .ref (ad 8 0)), (2, .int p0), (3, .ref (ad 9 0)), (4, .int x4), (5, .int x5), (7, .int x7), (8, .int x8)] 207 [] := by
    intro M x4 x5 x7 x8 h H locs hw hS ls hl
    unfold f_L_isSound_L207 at h
    refine lv_iload hx hb dL_isSound_207 (lv_at hl 6 rfl) ?_
    refine lv_if_ne (tgt := 226) hx hb dL_isSound_209 (by decide) (fun q1 => ?_) (fun q1 => ?_)
    · replace h := t_neg h q1
      exact L226 M x4 x5 x7 x8 h H locs hw hS ls (lv_sub hl [0, 1, 2, 3, 4, 5, 6] rfl)
    · replace h := t_pos h q1
      refine lv_iload hx hb dL_isSound_212 (lv_at hl 4 rfl) ?_
      refine lv_iload hx hb dL_isSound_214 (lv_at hl 3 rfl) ?_
      refine lv_isub hx hb dL_isSound_216 ?_
      refine lv_aload_n hx hb dL_isSound_217 rfl (lv_at hl 0 rfl) ?_
      refine lv_iload_n hx hb dL_isSound_218 rfl (lv_at hl 1 rfl) ?_
      refine lv_iconst (v := nI 3) hx hb dL_isSound_219 (by decide) ?_
      obtain ⟨r3, y2, h⟩ := t_b1 h
      refine c_vi hx hb hml hown hts hK hw hS (fun _ h => h) (As := [.int p0, .int (nI 3)]) (rest := [.int (x5 - x4)]) (c_X5_question hcv (M := M) y2) cf_X5_question k_361 rfl rfl ⟨Nat.le_of_ble_eq_true rfl, Nat.le_of_ble_eq_true rfl⟩ (r_recv hK hw (v_mn (by decide)) E_mn rfl) rfl hl.1 rfl (Nat.le_of_ble_eq_true rfl) ⟨Nat.le_refl _, Nat.le_refl _⟩ dL_isSound_220 (fun H locs hw hS => ?_)
      refine lv_icmp_le (tgt := 230) hx hb dL_isSound_223 (by decide) (fun q4 => ?_) (fun q4 => ?_)
      · replace h := t_pos h q4
        exact L230 M x4 x5 x7 x8 h H locs hw hS ls (lv_sub hl [0, 1, 2, 3, 4, 5, 6] rfl)
      · replace h := t_neg h q4
        exact L226 M x4 x5 x7 x8 h H locs hw hS ls (lv_sub hl [0, 1, 2, 3, 4, 5, 6] rfl)
  have L176 : ∀ (M : MM) (x4 : Int32) (x5 : Int32) (x6 : Int32) (x7 : Int32) (x8 : Int32) (x9 : Int32) (s0 : Int32), f_L_isSound_L176 L xs p0 M x4 x5 x6 x7 x8 x9 s0 = some (r, x) → JL p l e ({ frames := 5, cells := 0, slots := 0, locals := 130 } : Room) s md args below meth c D cy ad (MQ below (QI D cy ad r x) args s 0 0 (AD ad)) (M) 12 [(0, .ref (ad 8 0)), (2, .int p0), (3, .ref (ad 9 0)), (4, .int x4), (5, .int x5), (6, .int x6), (7, .int x7), (8, .int x8), (9, .int x9)] 176 [.int s0] := by
    intro M x4 x5 x6 x7 x8 x9 s0 h H locs hw hS ls hl
    unfold f_L_isSound_L176 at h
    refine lv_istore (lv' := [(10, .int s0), (0, .ref (ad 8 0)), (2, .int p0), (3, .ref (ad 9 0)), (4, .int x4), (5, .int x5), (6, .int x6), (7, .int x7), (8, .int x8), (9, .int x9)]) hx hb dL_isSound_176 hl (by decide) rfl (fun ls hl => ?_)
    refine lv_iload hx hb dL_isSound_178 (lv_at hl 9 rfl) ?_
    refine lv_if_eq (tgt := 230) hx hb dL_isSound_180 (by decide) (fun q1 => ?_) (fun q1 => ?_)
    · replace h := t_pos h q1
      exact L230 M x4 x5 x7 x8 h H locs hw hS ls (lv_sub hl [1, 2, 3, 4, 5, 7, 8] rfl)
    · replace h := t_neg h q1
      refine lv_iload hx hb dL_isSound_183 (lv_at hl 0 rfl) ?_
      refine lv_if_eq (tgt := 207) hx hb dL_isSound_185 (by decide) (fun q2 => ?_) (fun q2 => ?_)
      · replace h := t_pos h q2
        exact L207 M x4 x5 x7 x8 h H locs hw hS ls (lv_sub hl [1, 2, 3, 4, 5, 7, 8] rfl)
      · replace h := t_neg h q2
        refine lv_iload hx hb dL_isSound_188 (lv_at hl 4 rfl) ?_
        refine lv_iload hx hb dL_isSound_190 (lv_at hl 5 rfl) ?_
        refine lv_icmp_ne (tgt := 230) hx hb dL_isSound_192 (by decide) (fun q3 => ?_) (fun q3 => ?_)
        · replace h := t_neg h q3
          exact L230 M x4 x5 x7 x8 h H locs hw hS ls (lv_sub hl [1, 2, 3, 4, 5, 7, 8] rfl)
        · replace h := t_pos h q3
          refine lv_iload hx hb dL_isSound_195 (lv_at hl 6 rfl) ?_
          refine lv_iload hx hb dL_isSound_197 (lv_at hl 7 rfl) ?_
          refine lv_icmp_ne (tgt := 230) hx hb dL_isSound_199 (by decide) (fun q4 => ?_) (fun q4 => ?_)
          · replace h := t_neg h q4
            exact L230 M x4 x5 x7 x8 h H locs hw hS ls (lv_sub hl [1, 2, 3, 4, 5, 7, 8] rfl)
          · replace h := t_pos h q4
            refine lv_iload hx hb dL_isSound_202 (lv_at hl 8 rfl) ?_
            refine lv_if_eq (tgt := 230) hx hb dL_isSound_204 (by decide) (fun q5 => ?_) (fun q5 => ?_)
            · replace h := t_pos h q5
              exact L230 M x4 x5 x7 x8 h H locs hw hS ls (lv_sub hl [1, 2, 3, 4, 5, 7, 8] rfl)
            · replace h := t_neg h q5
              exact L207 M x4 x5 x7 x8 h H locs hw hS ls (lv_sub hl [1, 2, 3, 4, 5, 7, 8] rfl)
  have L152 : ∀ (M : MM) (x4 : Int32) (x5 : Int32) (x6 : Int32) (x7 : Int32) (x8 : Int32) (s0 : Int32), f_L_isSound_L152 L xs p0 M x4 x5 x6 x7 x8 s0 = some (r, x) → JL p l e ({ frames := 5, cells := 0, slots := 0, locals := 130 } : Room) s md args below meth c D cy ad (MQ below (QI D cy ad r x) args s 0 0 (AD ad)) (M) 12 [(0, .ref (ad 8 0)), (2, .int p0), (3, .ref (ad 9 0)), (4, .int x4), (5, .int x5), (6, .int x6), (7, .int x7), (8, .int x8)] 152 [.int s0] := by
    intro M x4 x5 x6 x7 x8 s0 h H locs hw hS ls hl
    unfold f_L_isSound_L152 at h
    refine lv_istore (lv' := [(9, .int s0), (0, .ref (ad 8 0)), (2, .int p0), (3, .ref (ad 9 0)), (4, .int x4), (5, .int x5), (6, .int x6), (7, .int x7), (8, .int x8)]) hx hb dL_isSound_152 hl (by decide) rfl (fun ls hl => ?_)
    refine lv_aload_n hx hb dL_isSound_154 rfl (lv_at hl 1 rfl) ?_
    refine lv_iload_n hx hb dL_isSound_155 rfl (lv_at hl 2 rfl) ?_
    refine lv_bipush (v := nI 11) hx hb dL_isSound_156 (by decide) ?_
    obtain ⟨r2, y1, h⟩ := t_b1 h
    refine c_vi hx hb hml hown hts hK hw hS (fun _ h => h) (As := [.int p0, .int (nI 11)]) (rest := []) (c_X5_question hcv (M := M) y1) cf_X5_question k_361 rfl rfl ⟨Nat.le_of_ble_eq_true rfl, Nat.le_of_ble_eq_true rfl⟩ (r_recv hK hw (v_mn (by decide)) E_mn rfl) rfl hl.1 rfl (Nat.le_of_ble_eq_true rfl) ⟨Nat.le_refl _, Nat.le_refl _⟩ dL_isSound_158 (fun H locs hw hS => ?_)
    refine lv_aload_n hx hb dL_isSound_161 rfl (lv_at hl 1 rfl) ?_
    refine lv_iload_n hx hb dL_isSound_162 rfl (lv_at hl 2 rfl) ?_
    refine lv_bipush (v := nI 12) hx hb dL_isSound_163 (by decide) ?_
    obtain ⟨r4, y3, h⟩ := t_b1 h
    refine c_vi hx hb hml hown hts hK hw hS (fun _ h => h) (As := [.int p0, .int (nI 12)]) (rest := [.int r2]) (c_X5_question hcv (M := M) y3) cf_X5_question k_361 rfl rfl ⟨Nat.le_of_ble_eq_true rfl, Nat.le_of_ble_eq_true rfl⟩ (r_recv hK hw (v_mn (by decide)) E_mn rfl) rfl hl.1 rfl (Nat.le_of_ble_eq_true rfl) ⟨Nat.le_refl _, Nat.le_refl _⟩ dL_isSound_165 (fun H locs hw hS => ?_)
    refine lv_icmp_ne (tgt := 175) hx hb dL_isSound_168 (by decide) (fun q5 => ?_) (fun q5 => ?_)
    · replace h := t_neg h q5
      refine lv_iconst (v := nI 0) hx hb dL_isSound_175 (by decide) ?_
      exact L176 M x4 x5 x6 x7 x8 s0 (nI 0) h H locs hw hS ls (lv_sub hl [1, 2, 3, 4, 5, 6, 7, 8, 0] rfl)
    · replace h := t_pos h q5
      refine lv_iconst (v := nI 1) hx hb dL_isSound_171 (by decide) ?_
      refine lv_goto (tgt := 176) hx hb dL_isSound_172 (by decide) ?_
      exact L176 M x4 x5 x6 x7 x8 s0 (nI 1) h H locs hw hS ls (lv_sub hl [1, 2, 3, 4, 5, 6, 7, 8, 0] rfl)
  have L151 : ∀ (M : MM) (x4 : Int32) (x5 : Int32) (x6 : Int32) (x7 : Int32) (x8 : Int32), f_L_isSound_L151 L xs p0 M x4 x5 x6 x7 x8 = some (r, x) → JL p l e ({ frames := 5, cells := 0, slots := 0, locals := 130 } : Room) s md args below meth c D cy ad (MQ below (QI D cy ad r x) args s 0 0 (AD ad)) (M) 12 [(0, .ref (ad 8 0)), (2, .int p0), (3, .ref (ad 9 0)), (4, .int x4), (5, .int x5), (6, .int x6), (7, .int x7), (8, .int x8)] 151 [] := by
    intro M x4 x5 x6 x7 x8 h H locs hw hS ls hl
    unfold f_L_isSound_L151 at h
    refine lv_iconst (v := nI 0) hx hb dL_isSound_151 (by decide) ?_
    exact L152 M x4 x5 x6 x7 x8 (nI 0) h H locs hw hS ls (lv_sub hl [0, 1, 2, 3, 4, 5, 6, 7] rfl)
  have L49 : ∀ (M : MM) (x4 : Int32) (x5 : Int32) (x6 : Int32) (x7 : Int32) (s0 : Int32), f_L_isSound_L49 L xs p0 M x4 x5 x6 x7 s0 = some (r, x) → JL p l e ({ frames := 5, cells := 0, slots := 0, locals := 130 } : Room) s md args below meth c D cy ad (MQ below (QI D cy ad r x) args s 0 0 (AD ad)) (M) 12 [(0, .ref (ad 8 0)), (2, .int p0), (3, .ref (ad 9 0)), (4, .int x4), (5, .int x5), (6, .int x6), (7, .int x7)] 49 [.int s0] := by
    intro M x4 x5 x6 x7 s0 h H locs hw hS ls hl
    unfold f_L_isSound_L49 at h
    refine lv_istore (lv' := [(8, .int s0), (0, .ref (ad 8 0)), (2, .int p0), (3, .ref (ad 9 0)), (4, .int x4), (5, .int x5), (6, .int x6), (7, .int x7)]) hx hb dL_isSound_49 hl (by decide) rfl (fun ls hl => ?_)
    refine lv_iload hx hb dL_isSound_51 (lv_at hl 7 rfl) ?_
    refine lv_bipush (v := -5) hx hb dL_isSound_53 (by decide) ?_
    refine lv_icmp_ne (tgt := 100) hx hb dL_isSound_55 (by decide) (fun q1 => ?_) (fun q1 => ?_)
    · replace h := t_neg h q1
      refine lv_iload hx hb dL_isSound_100 (lv_at hl 4 rfl) ?_
      refine lv_iload hx hb dL_isSound_102 (lv_at hl 7 rfl) ?_
      refine lv_icmp_gt (tgt := 151) hx hb dL_isSound_104 (by decide) (fun q2 => ?_) (fun q2 => ?_)
      · replace h := t_pos h q2
        exact L151 M x4 x5 x6 x7 s0 h H locs hw hS ls (lv_sub hl [1, 2, 3, 4, 5, 6, 7, 0] rfl)
      · replace h := t_neg h q2
        refine lv_iload hx hb dL_isSound_107 (lv_at hl 7 rfl) ?_
        refine lv_iload hx hb dL_isSound_109 (lv_at hl 5 rfl) ?_
        refine lv_icmp_gt (tgt := 151) hx hb dL_isSound_111 (by decide) (fun q3 => ?_) (fun q3 => ?_)
        · replace h := t_pos h q3
          exact L151 M x4 x5 x6 x7 s0 h H locs hw hS ls (lv_sub hl [1, 2, 3, 4, 5, 6, 7, 0] rfl)
        · replace h := t_neg h q3
          refine lv_iload hx hb dL_isSound_114 (lv_at hl 4 rfl) ?_
          refine lv_iload hx hb dL_isSound_116 (lv_at hl 6 rfl) ?_
          refine lv_icmp_gt (tgt := 151) hx hb dL_isSound_118 (by decide) (fun q4 => ?_) (fun q4 => ?_)
          · replace h := t_pos h q4
            exact L151 M x4 x5 x6 x7 s0 h H locs hw hS ls (lv_sub hl [1, 2, 3, 4, 5, 6, 7, 0] rfl)
          · replace h := t_neg h q4
            refine lv_iload hx hb dL_isSound_121 (lv_at hl 6 rfl) ?_
            refine lv_iload hx hb dL_isSound_123 (lv_at hl 5 rfl) ?_
            refine lv_icmp_gt (tgt := 151) hx hb dL_isSound_125 (by decide) (fun q5 => ?_) (fun q5 => ?_)
            · replace h := t_pos h q5
              exact L151 M x4 x5 x6 x7 s0 h H locs hw hS ls (lv_sub hl [1, 2, 3, 4, 5, 6, 7, 0] rfl)
            · replace h := t_neg h q5
              refine lv_iload hx hb dL_isSound_128 (lv_at hl 4 rfl) ?_
              refine lv_aload_n hx hb dL_isSound_130 rfl (lv_at hl 3 rfl) ?_
              refine lv_iload_n hx hb dL_isSound_131 rfl (lv_at hl 2 rfl) ?_
              obtain ⟨q6, h⟩ := t_gd h
              refine r_iald hx hb hK hw v_ra rfl E_ra q6 dL_isSound_132 ?_
              refine lv_icmp_lt (tgt := 151) hx hb dL_isSound_133 (by decide) (fun q7 => ?_) (fun q7 => ?_)
              · replace h := t_pos h q7
                exact L151 M x4 x5 x6 x7 s0 h H locs hw hS ls (lv_sub hl [1, 2, 3, 4, 5, 6, 7, 0] rfl)
              · replace h := t_neg h q7
                refine lv_iload hx hb dL_isSound_136 (lv_at hl 5 rfl) ?_
                refine lv_aload_n hx hb dL_isSound_138 rfl (lv_at hl 3 rfl) ?_
                refine lv_bipush (v := nI 6) hx hb dL_isSound_139 (by decide) ?_
                refine lv_iload_n hx hb dL_isSound_141 rfl (lv_at hl 2 rfl) ?_
                refine lv_iadd hx hb dL_isSound_142 ?_
                obtain ⟨q8, h⟩ := t_gd h
                refine r_iald hx hb hK hw v_ra rfl E_ra q8 dL_isSound_143 ?_
                refine lv_icmp_gt (tgt := 151) hx hb dL_isSound_144 (by decide) (fun q9 => ?_) (fun q9 => ?_)
                · replace h := t_pos h q9
                  exact L151 M x4 x5 x6 x7 s0 h H locs hw hS ls (lv_sub hl [1, 2, 3, 4, 5, 6, 7, 0] rfl)
                · replace h := t_neg h q9
                  refine lv_iconst (v := nI 1) hx hb dL_isSound_147 (by decide) ?_
                  refine lv_goto (tgt := 152) hx hb dL_isSound_148 (by decide) ?_
                  exact L152 M x4 x5 x6 x7 s0 (nI 1) h H locs hw hS ls (lv_sub hl [1, 2, 3, 4, 5, 6, 7, 0] rfl)
    · replace h := t_pos h q1
      refine lv_iload hx hb dL_isSound_58 (lv_at hl 4 rfl) ?_
      refine lv_bipush (v := -5) hx hb dL_isSound_60 (by decide) ?_
      refine lv_icmp_ne (tgt := 98) hx hb dL_isSound_62 (by decide) (fun q10 => ?_) (fun q10 => ?_)
      · replace h := t_neg h q10
        refine lv_iconst (v := nI 0) hx hb dL_isSound_98 (by decide) ?_
        have e1 := (t_ret h).1
        have e2 := (t_ret h).2
        exact e_z hx hb hr hlk (Or.inl rfl) hw hS e1 e2 dL_isSound_99
      · replace h := t_pos h q10
        refine lv_iload hx hb dL_isSound_65 (lv_at hl 5 rfl) ?_
        refine lv_bipush (v := -5) hx hb dL_isSound_67 (by decide) ?_
        refine lv_icmp_ne (tgt := 98) hx hb dL_isSound_69 (by decide) (fun q11 => ?_) (fun q11 => ?_)
        · replace h := t_neg h q11
          refine lv_iconst (v := nI 0) hx hb dL_isSound_98 (by decide) ?_
          have e1 := (t_ret h).1
          have e2 := (t_ret h).2
          exact e_z hx hb hr hlk (Or.inl rfl) hw hS e1 e2 dL_isSound_99
        · replace h := t_pos h q11
          refine lv_iload hx hb dL_isSound_72 (lv_at hl 6 rfl) ?_
          refine lv_bipush (v := -5) hx hb dL_isSound_74 (by decide) ?_
          refine lv_icmp_ne (tgt := 98) hx hb dL_isSound_76 (by decide) (fun q12 => ?_) (fun q12 => ?_)
          · replace h := t_neg h q12
            refine lv_iconst (v := nI 0) hx hb dL_isSound_98 (by decide) ?_
            have e1 := (t_ret h).1
            have e2 := (t_ret h).2
            exact e_z hx hb hr hlk (Or.inl rfl) hw hS e1 e2 dL_isSound_99
          · replace h := t_pos h q12
            refine lv_iload hx hb dL_isSound_79 (lv_at hl 0 rfl) ?_
            refine lv_if_ne (tgt := 98) hx hb dL_isSound_81 (by decide) (fun q13 => ?_) (fun q13 => ?_)
            · replace h := t_neg h q13
              refine lv_iconst (v := nI 0) hx hb dL_isSound_98 (by decide) ?_
              have e1 := (t_ret h).1
              have e2 := (t_ret h).2
              exact e_z hx hb hr hlk (Or.inl rfl) hw hS e1 e2 dL_isSound_99
            · replace h := t_pos h q13
              refine lv_aload_n hx hb dL_isSound_84 rfl (lv_at hl 1 rfl) ?_
              refine lv_iload_n hx hb dL_isSound_85 rfl (lv_at hl 2 rfl) ?_
              refine lv_bipush (v := nI 11) hx hb dL_isSound_86 (by decide) ?_
              obtain ⟨r15, y14, h⟩ := t_b1 h
              refine c_vi hx hb hml hown hts hK hw hS (fun _ h => h) (As := [.int p0, .int (nI 11)]) (rest := []) (c_X5_question hcv (M := M) y14) cf_X5_question k_361 rfl rfl ⟨Nat.le_of_ble_eq_true rfl, Nat.le_of_ble_eq_true rfl⟩ (r_recv hK hw (v_mn (by decide)) E_mn rfl) rfl hl.1 rfl (Nat.le_of_ble_eq_true rfl) ⟨Nat.le_refl _, Nat.le_refl _⟩ dL_isSound_88 (fun H locs hw hS => ?_)
              refine lv_if_ne (tgt := 98) hx hb dL_isSound_91 (by decide) (fun q16 => ?_) (fun q16 => ?_)
              · replace h := t_neg h q16
                refine lv_iconst (v := nI 0) hx hb dL_isSound_98 (by decide) ?_
                have e1 := (t_ret h).1
                have e2 := (t_ret h).2
                exact e_z hx hb hr hlk (Or.inl rfl) hw hS e1 e2 dL_isSound_99
              · replace h := t_pos h q16
                refine lv_iconst (v := nI 1) hx hb dL_isSound_94 (by decide) ?_
                refine lv_goto (tgt := 99) hx hb dL_isSound_95 (by decide) ?_
                have e1 := (t_ret h).1
                have e2 := (t_ret h).2
                exact e_z hx hb hr hlk (Or.inr rfl) hw hS e1 e2 dL_isSound_99
  unfold f_L_isSound at h
  have main : JL p l e ({ frames := 5, cells := 0, slots := 0, locals := 130 } : Room) s md args below meth c D cy ad (MQ below (QI D cy ad r x) args s 0 0 (AD ad)) (M) 12 [(0, .ref (ad 8 0)), (1, .ref b), (2, .int p0), (3, .ref (ad 9 0))] 0 [] := by
    intro H locs hw hS ls hl
    refine lv_aload_n hx hb dL_isSound_0 rfl (lv_at hl 0 rfl) ?_
    refine lv_iload_n hx hb dL_isSound_1 rfl (lv_at hl 2 rfl) ?_
    refine lv_iconst (v := nI 5) hx hb dL_isSound_2 (by decide) ?_
    obtain ⟨r2, y1, h⟩ := t_b1 h
    refine c_vi hx hb hml hown hts hK hw hS (fun _ h => h) (As := [.int p0, .int (nI 5)]) (rest := []) (c_X5_question hcv (M := M) y1) cf_X5_question k_361 rfl rfl ⟨Nat.le_of_ble_eq_true rfl, Nat.le_of_ble_eq_true rfl⟩ (r_recv hK hw (v_mn (by decide)) E_mn rfl) rfl hl.1 rfl (Nat.le_of_ble_eq_true rfl) ⟨Nat.le_refl _, Nat.le_refl _⟩ dL_isSound_3 (fun H locs hw hS => ?_)
    refine lv_istore (lv' := [(4, .int r2), (0, .ref (ad 8 0)), (1, .ref b), (2, .int p0), (3, .ref (ad 9 0))]) hx hb dL_isSound_6 hl (by decide) rfl (fun ls hl => ?_)
    refine lv_aload_n hx hb dL_isSound_8 rfl (lv_at hl 1 rfl) ?_
    refine lv_iload_n hx hb dL_isSound_9 rfl (lv_at hl 3 rfl) ?_
    refine lv_bipush (v := nI 6) hx hb dL_isSound_10 (by decide) ?_
    obtain ⟨r4, y3, h⟩ := t_b1 h
    refine c_vi hx hb hml hown hts hK hw hS (fun _ h => h) (As := [.int p0, .int (nI 6)]) (rest := []) (c_X5_question hcv (M := M) y3) cf_X5_question k_361 rfl rfl ⟨Nat.le_of_ble_eq_true rfl, Nat.le_of_ble_eq_true rfl⟩ (r_recv hK hw (v_mn (by decide)) E_mn rfl) rfl hl.1 rfl (Nat.le_of_ble_eq_true rfl) ⟨Nat.le_refl _, Nat.le_refl _⟩ dL_isSound_12 (fun H locs hw hS => ?_)
    refine lv_istore (lv' := [(5, .int r4), (4, .int r2), (0, .ref (ad 8 0)), (1, .ref b), (2, .int p0), (3, .ref (ad 9 0))]) hx hb dL_isSound_15 hl (by decide) rfl (fun ls hl => ?_)
    refine lv_aload_n hx hb dL_isSound_17 rfl (lv_at hl 2 rfl) ?_
    refine lv_iload_n hx hb dL_isSound_18 rfl (lv_at hl 4 rfl) ?_
    refine lv_bipush (v := nI 7) hx hb dL_isSound_19 (by decide) ?_
    obtain ⟨r6, y5, h⟩ := t_b1 h
    refine c_vi hx hb hml hown hts hK hw hS (fun _ h => h) (As := [.int p0, .int (nI 7)]) (rest := []) (c_X5_question hcv (M := M) y5) cf_X5_question k_361 rfl rfl ⟨Nat.le_of_ble_eq_true rfl, Nat.le_of_ble_eq_true rfl⟩ (r_recv hK hw (v_mn (by decide)) E_mn rfl) rfl hl.1 rfl (Nat.le_of_ble_eq_true rfl) ⟨Nat.le_refl _, Nat.le_refl _⟩ dL_isSound_21 (fun H locs hw hS => ?_)
    refine lv_istore (lv' := [(6, .int r6), (5, .int r4), (4, .int r2), (0, .ref (ad 8 0)), (1, .ref b), (2, .int p0), (3, .ref (ad 9 0))]) hx hb dL_isSound_24 hl (by decide) rfl (fun ls hl => ?_)
    refine lv_aload_n hx hb dL_isSound_26 rfl (lv_at hl 3 rfl) ?_
    refine lv_aload_n hx hb dL_isSound_27 rfl (lv_at hl 4 rfl) ?_
    refine lv_iload_n hx hb dL_isSound_28 rfl (lv_at hl 5 rfl) ?_
    obtain ⟨r8, y7, h⟩ := t_b1 h
    refine c_six hx hb hml hown hts hK hw hS (fun _ h => h) hX hbl hbA (As := [.ref (ad 8 0), .ref b, .int p0]) (rest := []) (c_L_truth hcv (M := M) (b := b) (L := L) (xs := xs) (hbA := hbA) y7) cf_L_truth k_497 rfl rfl ⟨Nat.le_of_ble_eq_true rfl, Nat.le_of_ble_eq_true rfl⟩ rfl hl.1 rfl (Nat.le_of_ble_eq_true rfl) ⟨Nat.le_refl _, Nat.le_refl _⟩ dL_isSound_29 (fun H locs hw hS => ?_)
    refine lv_istore (lv' := [(7, .int r8), (6, .int r6), (5, .int r4), (4, .int r2), (0, .ref (ad 8 0)), (1, .ref b), (2, .int p0), (3, .ref (ad 9 0))]) hx hb dL_isSound_32 hl (by decide) rfl (fun ls hl => ?_)
    refine lv_aload_n hx hb dL_isSound_34 rfl (lv_at hl 4 rfl) ?_
    refine lv_iload_n hx hb dL_isSound_35 rfl (lv_at hl 6 rfl) ?_
    refine lv_iconst (v := nI 4) hx hb dL_isSound_36 (by decide) ?_
    obtain ⟨r10, y9, h⟩ := t_b1 h
    refine c_vi hx hb hml hown hts hK hw hS (fun _ h => h) (As := [.int p0, .int (nI 4)]) (rest := []) (c_X5_question hcv (M := M) y9) cf_X5_question k_361 rfl rfl ⟨Nat.le_of_ble_eq_true rfl, Nat.le_of_ble_eq_true rfl⟩ (r_recv hK hw (v_mn (by decide)) E_mn rfl) rfl hl.1 rfl (Nat.le_of_ble_eq_true rfl) ⟨Nat.le_refl _, Nat.le_refl _⟩ dL_isSound_37 (fun H locs hw hS => ?_)
    refine lv_iconst (v := nI 1) hx hb dL_isSound_40 (by decide) ?_
    refine lv_icmp_ne (tgt := 48) hx hb dL_isSound_41 (by decide) (fun q11 => ?_) (fun q11 => ?_)
    · replace h := t_neg h q11
      refine lv_iconst (v := nI 0) hx hb dL_isSound_48 (by decide) ?_
      exact L49 M r2 r4 r6 r8 (nI 0) h H locs hw hS ls (lv_sub hl [4, 6, 7, 3, 2, 1, 0] rfl)
    · replace h := t_pos h q11
      refine lv_iconst (v := nI 1) hx hb dL_isSound_44 (by decide) ?_
      refine lv_goto (tgt := 49) hx hb dL_isSound_45 (by decide) ?_
      exact L49 M r2 r4 r6 r8 (nI 1) h H locs hw hS ls (lv_sub hl [4, 6, 7, 3, 2, 1, 0] rfl)
  exact main _ _ hw hS ls hl

theorem cf_L_areSound : cfS RL yL_areSound cL_areSound 5 (some .boolean) 3 := ⟨⟨k_492, k_0, k_493⟩, by decide +kernel⟩
def f_L_areSound_L5 (L : Nat) (xs : Nat → Int32) : Nat → MM → Int32 → Int32 → Option (Int32 × MM)
  | 0, _, _, _ => none
  | n + 1, M, x3, x4 => b1 (f_X5_count M (nI 1)) fun r2 => (if r2 ≤ x4 then b1 (f_X5_count M (nI 2)) fun r5 => (if x3 = r5 then some ((nI 1), M) else some ((nI 0), M)) else bd (f_L_isSound M L xs x4) fun r8 M9 => (if r8 = (nI 0) then some ((nI 0), M9) else b1 (f_X5_question M9 x4 (nI 4)) fun r12 => f_L_areSound_L5 L xs n M9 (x3 + ((nI 1) - r12)) (x4 + (nI 1))))
def f_L_areSound (M : MM) (L : Nat) (xs : Nat → Int32) : Option (Int32 × MM) :=
  f_L_areSound_L5 L xs FU M (nI 0) (nI 0)
set_option maxHeartbeats 4000000 in
set_option maxRecDepth 100000 in
theorem c_L_areSound {l : Launch} {D : va_G} {cy : Nat → ClassId} {ad : Nat → Nat → Nat} (hcv : CV ad) {M : MM} {b L : Nat} {xs : Nat → Int32} (hbA : ¬ AD ad b) {r : Int32} {x : MM} (h : f_L_areSound M L xs = some (r, x)) : Met l yL_areSound (.code yL_areSound cL_areSound 5 (some .boolean) :: TB) ({ frames := 6, cells := 0, slots := 0, locals := 161 } : Room) (PX D cy ad M b L xs [.ref (ad 8 0), .ref b, .ref (ad 9 0)]) (QI D cy ad r x) 0 0 (AD ad) := by
  refine m_inx (by decide +kernel) (Nat.le_of_ble_eq_true rfl) ?_
  intro p e s md args below meth c hC hw hX hbl hS ls hl
  obtain ⟨hx, hb, hr, hml, hown, hts, hK, hlk⟩ := hC
  have hl : lv_has ls 5 [(0, .ref (ad 8 0)), (1, .ref b), (2, .ref (ad 9 0))] := hl
  have L5 : ∀ (n : Nat), ∀ (M : MM) (x3 : Int32) (x4 : Int32), f_L_areSound_L5 L xs n M x3 x4 = some (r, x) → JL p l e ({ frames := 6, cells := 0, slots := 0, locals := 161 } : Room) s md args below meth c D cy ad (MQ below (QI D cy ad r x) args s 0 0 (AD ad)) (M) 5 [(0, .ref (ad 8 0)), (1, .ref b), (2, .ref (ad 9 0)), (3, .int x3), (4, .int x4)] 5 [] := by
    intro n
    induction n with
    | zero =>
      intro M x3 x4 h
      cases h
    | succ n ih =>
      intro M x3 x4 h H locs hw hS ls hl
      rw [f_L_areSound_L5.eq_2] at h
      refine lv_iload hx hb dL_areSound_5 (lv_at hl 4 rfl) ?_
      refine lv_aload_n hx hb dL_areSound_7 rfl (lv_at hl 0 rfl) ?_
      refine lv_iconst (v := nI 1) hx hb dL_areSound_8 (by decide) ?_
      obtain ⟨r2, y1, h⟩ := t_b1 h
      refine c_vi hx hb hml hown hts hK hw hS (fun _ h => h) (As := [.int (nI 1)]) (rest := [.int x4]) (c_X5_count hcv (M := M) y1) cf_X5_count k_388 rfl rfl ⟨Nat.le_of_ble_eq_true rfl, Nat.le_of_ble_eq_true rfl⟩ (r_recv hK hw (v_mn (by decide)) E_mn rfl) rfl hl.1 rfl (Nat.le_of_ble_eq_true rfl) ⟨Nat.le_refl _, Nat.le_refl _⟩ dL_areSound_9 (fun H locs hw hS => ?_)
      refine lv_icmp_ge (tgt := 46) hx hb dL_areSound_12 (by decide) (fun q3 => ?_) (fun q3 => ?_)
      · replace h := t_pos h q3
        refine lv_iload_n hx hb dL_areSound_46 rfl (lv_at hl 3 rfl) ?_
        refine lv_aload_n hx hb dL_areSound_47 rfl (lv_at hl 0 rfl) ?_
        refine lv_iconst (v := nI 2) hx hb dL_areSound_48 (by decide) ?_
        obtain ⟨r5, y4, h⟩ := t_b1 h
        refine c_vi hx hb hml hown hts hK hw hS (fun _ h => h) (As := [.int (nI 2)]) (rest := [.int x3]) (c_X5_count hcv (M := M) y4) cf_X5_count k_388 rfl rfl ⟨Nat.le_of_ble_eq_true rfl, Nat.le_of_ble_eq_true rfl⟩ (r_recv hK hw (v_mn (by decide)) E_mn rfl) rfl hl.1 rfl (Nat.le_of_ble_eq_true rfl) ⟨Nat.le_refl _, Nat.le_refl _⟩ dL_areSound_49 (fun H locs hw hS => ?_)
        refine lv_icmp_ne (tgt := 59) hx hb dL_areSound_52 (by decide) (fun q6 => ?_) (fun q6 => ?_)
        · replace h := t_neg h q6
          refine lv_iconst (v := nI 0) hx hb dL_areSound_59 (by decide) ?_
          have e1 := (t_ret h).1
          have e2 := (t_ret h).2
          exact e_z hx hb hr hlk (Or.inl rfl) hw hS e1 e2 dL_areSound_60
        · replace h := t_pos h q6
          refine lv_iconst (v := nI 1) hx hb dL_areSound_55 (by decide) ?_
          refine lv_goto (tgt := 60) hx hb dL_areSound_56 (by decide) ?_
          have e1 := (t_ret h).1
          have e2 := (t_ret h).2
          exact e_z hx hb hr hlk (Or.inr rfl) hw hS e1 e2 dL_areSound_60
      · replace h := t_neg h q3
        refine lv_aload_n hx hb dL_areSound_15 rfl (lv_at hl 0 rfl) ?_
        refine lv_aload_n hx hb dL_areSound_16 rfl (lv_at hl 1 rfl) ?_
        refine lv_iload hx hb dL_areSound_17 (lv_at hl 4 rfl) ?_
        refine lv_aload_n hx hb dL_areSound_19 rfl (lv_at hl 2 rfl) ?_
        obtain ⟨r8, M9, y7, h⟩ := t_bd h
        refine c_six hx hb hml hown hts hK hw hS (fun _ h => h) hX hbl hbA (As := [.ref (ad 8 0), .ref b, .int x4, .ref (ad 9 0)]) (rest := []) (c_L_isSound hcv (M := M) (b := b) (L := L) (xs := xs) (hbA := hbA) y7) cf_L_isSound k_494 rfl rfl ⟨Nat.le_of_ble_eq_true rfl, Nat.le_of_ble_eq_true rfl⟩ rfl hl.1 rfl (Nat.le_of_ble_eq_true rfl) ⟨Nat.le_refl _, Nat.le_refl _⟩ dL_areSound_20 (fun H locs hw hS => ?_)
        refine lv_if_ne (tgt := 28) hx hb dL_areSound_23 (by decide) (fun q10 => ?_) (fun q10 => ?_)
        · replace h := t_neg h q10
          refine lv_iload_n hx hb dL_areSound_28 rfl (lv_at hl 3 rfl) ?_
          refine lv_iconst (v := nI 1) hx hb dL_areSound_29 (by decide) ?_
          refine lv_aload_n hx hb dL_areSound_30 rfl (lv_at hl 0 rfl) ?_
          refine lv_iload hx hb dL_areSound_31 (lv_at hl 4 rfl) ?_
          refine lv_iconst (v := nI 4) hx hb dL_areSound_33 (by decide) ?_
          obtain ⟨r12, y11, h⟩ := t_b1 h
          refine c_vi hx hb hml hown hts hK hw hS (fun _ h => h) (As := [.int x4, .int (nI 4)]) (rest := [.int (nI 1), .int x3]) (c_X5_question hcv (M := M9) y11) cf_X5_question k_361 rfl rfl ⟨Nat.le_of_ble_eq_true rfl, Nat.le_of_ble_eq_true rfl⟩ (r_recv hK hw (v_mn (by decide)) E_mn rfl) rfl hl.1 rfl (Nat.le_of_ble_eq_true rfl) ⟨Nat.le_refl _, Nat.le_refl _⟩ dL_areSound_34 (fun H locs hw hS => ?_)
          refine lv_isub hx hb dL_areSound_37 ?_
          refine lv_iadd hx hb dL_areSound_38 ?_
          refine lv_istore_n (lv' := [(3, .int (x3 + ((nI 1) - r12))), (0, .ref (ad 8 0)), (1, .ref b), (2, .ref (ad 9 0)), (4, .int x4)]) hx hb dL_areSound_39 rfl hl (by decide) rfl (fun ls hl => ?_)
          refine lv_iinc (v := (x4 + (nI 1))) (lv' := [(4, .int (x4 + (nI 1))), (3, .int (x3 + ((nI 1) - r12))), (0, .ref (ad 8 0)), (1, .ref b), (2, .ref (ad 9 0))]) hx hb dL_areSound_40 hl (k := 4) rfl rfl (by decide) rfl (fun ls hl => ?_)
          refine lv_goto (tgt := 5) hx hb dL_areSound_43 (by decide) ?_
          exact ih M9 (x3 + ((nI 1) - r12)) (x4 + (nI 1)) h H locs hw hS ls (lv_sub hl [2, 3, 4, 1, 0] rfl)
        · replace h := t_pos h q10
          refine lv_iconst (v := nI 0) hx hb dL_areSound_26 (by decide) ?_
          have e1 := (t_ret h).1
          have e2 := (t_ret h).2
          exact e_z hx hb hr hlk (Or.inl rfl) hw hS e1 e2 dL_areSound_27
  unfold f_L_areSound at h
  have main : JL p l e ({ frames := 6, cells := 0, slots := 0, locals := 161 } : Room) s md args below meth c D cy ad (MQ below (QI D cy ad r x) args s 0 0 (AD ad)) (M) 5 [(0, .ref (ad 8 0)), (1, .ref b), (2, .ref (ad 9 0))] 0 [] := by
    intro H locs hw hS ls hl
    refine lv_iconst (v := nI 0) hx hb dL_areSound_0 (by decide) ?_
    refine lv_istore_n (lv' := [(3, .int (nI 0)), (0, .ref (ad 8 0)), (1, .ref b), (2, .ref (ad 9 0))]) hx hb dL_areSound_1 rfl hl (by decide) rfl (fun ls hl => ?_)
    refine lv_iconst (v := nI 0) hx hb dL_areSound_2 (by decide) ?_
    refine lv_istore (lv' := [(4, .int (nI 0)), (3, .int (nI 0)), (0, .ref (ad 8 0)), (1, .ref b), (2, .ref (ad 9 0))]) hx hb dL_areSound_3 hl (by decide) rfl (fun ls hl => ?_)
    exact L5 FU M (nI 0) (nI 0) h H locs hw hS ls (lv_sub hl [2, 3, 4, 1, 0] rfl)
  exact main _ _ hw hS ls hl


/-! THE CONSTRUCTORS: which cells each makes. Offsets are from the new object, whose own place is the heap's last. -/
def ov (f : Nat → Option va_E) (lo n : Nat) (h : Nat → Option va_E) : Nat → Option va_E := fun a => if lo ≤ a ∧ a < lo + n then h (a - lo) else f a
theorem ov_in {f h : Nat → Option va_E} {lo n d : Nat} (hd : d < n) : ov f lo n h (lo + d) = h d := by
  unfold ov
  rw [if_pos ⟨Nat.le_add_right _ _, by omega⟩, Nat.add_sub_cancel_left]
theorem ov_out {f h : Nat → Option va_E} {lo n a : Nat} (hd : a < lo ∨ lo + n ≤ a) : ov f lo n h a = f a := by
  unfold ov
  rw [if_neg (by omega)]
theorem ov_0 {f h : Nat → Option va_E} {lo n : Nat} (hd : 0 < n) : ov f lo n h lo = h 0 := by
  unfold ov
  rw [if_pos ⟨Nat.le_refl _, by omega⟩, Nat.sub_self]
theorem fu_at {f : Nat → Option va_E} {a : Nat} {e : va_E} : fu f a e a = some e := by simp [fu]
theorem fu_ne {f : Nat → Option va_E} {a b : Nat} {e : va_E} (h : b ≠ a) : fu f a e b = f b := by simp [fu, h]
abbrev bl0 : List Value := [.null, .int 0, .int 0, .int 0, .int 0, .int 0, .int 0, .int 0, .int 0]
abbrev bl1 : List Value := [.null, .null, .int 0, .int 0, .int 0, .int 0, .int 0, .int 0]
abbrev bl2 : List Value := [.null, .int 0, .int 0]
abbrev bl3 : List Value := [.int 0, .int 0, .int 0, .int 0, .int 0, .int 0, .int 0, .int 0]
abbrev bl4 : List Value := [.null, .null, .int 0, .int 0, .int 0, .int 0]
abbrev bl5 : List Value := [.null, .null, .null, .null, .null, .int 0]
theorem cfI_0 : cfI yX0_init cX0_init 1 := ⟨⟨k_69, k_4, k_70⟩, by decide +kernel, by decide +kernel⟩
theorem hfs_0 : ∀ j, j < 9 → defaultValue (tyX0 j) = vp_V bl0 j := by decide +kernel
theorem cfI_1 : cfI yX1_init cX1_init 1 := ⟨⟨k_20, k_2, k_21⟩, by decide +kernel, by decide +kernel⟩
theorem hfs_1 : ∀ j, j < 8 → defaultValue (tyX1 j) = vp_V bl1 j := by decide +kernel
theorem cfI_2 : cfI yX2_init cX2_init 2 := ⟨⟨k_188, k_6, k_189⟩, by decide +kernel, by decide +kernel⟩
theorem hfs_2 : ∀ j, j < 3 → defaultValue (tyX2 j) = vp_V bl2 j := by decide +kernel
theorem cfI_3 : cfI yX3_init cX3_init 1 := ⟨⟨k_117, k_5, k_118⟩, by decide +kernel, by decide +kernel⟩
theorem hfs_3 : ∀ j, j < 8 → defaultValue (tyX3 j) = vp_V bl3 j := by decide +kernel
theorem cfI_4 : cfI yX4_init cX4_init 2 := ⟨⟨k_60, k_3, k_61⟩, by decide +kernel, by decide +kernel⟩
theorem hfs_4 : ∀ j, j < 6 → defaultValue (tyX4 j) = vp_V bl4 j := by decide +kernel
theorem cfI_5 : cfI yX5_init cX5_init 1 := ⟨⟨k_12, k_1, k_13⟩, by decide +kernel, by decide +kernel⟩
theorem hfs_5 : ∀ j, j < 6 → defaultValue (tyX5 j) = vp_V bl5 j := by decide +kernel
/-- a new block: itself, its row of values -/
def bkO (cy : Nat → ClassId) (o : Nat) : Nat → Option va_E := fun d => if d = 0 then some (.inr (0, [.ref (o + 1), .int 0, .int 0, .int 0, .int 0, .int 0, .int 0, .int 0, .int 0])) else some (.inl (cy 0, 16, .inl (fun _ => 0)))
set_option maxHeartbeats 4000000 in
set_option maxRecDepth 100000 in
theorem c_X0_init {l : Launch} {D : va_G} {cy : Nat → ClassId} {f : Nat → Option va_E} {o : Nat} (hfo : f o = some (.inr (0, bl0))) : Met l yX0_init (.code yX0_init cX0_init 1 none :: TB) ({ frames := 1, cells := 1, slots := 16, locals := 20 } : Room) (PC D cy f (o + 1) o) (QC D (ov f o 2 (bkO cy o)) (o + 2) (AN o (o + 1))) 1 16 (AN o (o + 1)) := by
  refine n_in (A := AN o (o + 1)) (by decide +kernel) (by decide) ?_
  intro p e s md args below meth c hC hw hz hS ls hl
  obtain ⟨hx, hb, hr, hml, hown, hts, hK, hlk, hin2⟩ := hC
  generalize hHH : s.heap = H at hw hz
  have hS : va_S (AN o (o + 1)) s.heap H [] := by rw [← hHH]; exact hS
  generalize ([] : List Loc) = locs at hS ⊢
  have hAo : AN o (o + 1) o := Or.inl rfl
  refine lv_aload_n hx hb dX0_init_0 rfl (lv_at hl 0 rfl) ?_
  refine n_obj hx hb hts (hml.trans hl.1.symm) hown k_71 k_15 k_16 dX0_init_1 (Nat.le_of_ble_eq_true rfl) (Nat.le_of_ble_eq_true rfl) (Nat.le_of_ble_eq_true rfl) ?_
  refine lv_aload_n hx hb dX0_init_4 rfl (lv_at hl 0 rfl) ?_
  refine lv_bipush (v := 16) hx hb dX0_init_5 (by decide) ?_
  refine n_newi hx hb hts hK hw hz hS k_56 (N := 16) (by decide) rfl (by decide) (Nat.le_of_ble_eq_true rfl) (Nat.le_of_ble_eq_true rfl) dX0_init_7 (fun H hw hz hS => ?_)
  refine n_putF hx hb hts hown hK hw hz hS (a := o) (ci := 0) (fl := [.null, .int 0, .int 0, .int 0, .int 0, .int 0, .int 0, .int 0, .int 0]) ((fu_ne (by omega)).trans hfo) hAo inX0 rfl tyX0 tyX0_ok nmX0 0 (by decide) k_72 rfl rfl hin2 rfl rfl rfl (Nat.le_of_ble_eq_true rfl) dX0_init_9 (fun H locs hw hz hS => ?_)
  refine n_ret hx hb hr hlk hw hz hS (fun a e ha => ?_) rfl rfl rfl dX0_init_12
  by_cases h1 : a = o
  · subst h1
    rw [fu_at]
    rw [ov_0 (by decide)] at ha
    exact ha
  · rw [fu_ne h1]
    by_cases h2 : a = o + 1
    · subst h2
      rw [fu_at]
      rw [ov_in (by decide)] at ha
      exact ha
    · rw [fu_ne h2]
      rw [ov_out (by omega)] at ha
      exact ha
set_option maxHeartbeats 4000000 in
set_option maxRecDepth 100000 in
theorem c_X3_init {l : Launch} {D : va_G} {cy : Nat → ClassId} {f : Nat → Option va_E} {o : Nat} (hfo : f o = some (.inr (3, bl3))) : Met l yX3_init (.code yX3_init cX3_init 1 none :: TB) ({ frames := 1, cells := 0, slots := 0, locals := 20 } : Room) (PC D cy f (o + 1) o) (QC D f (o + 1) (AN o (o + 1))) 0 0 (AN o (o + 1)) := by
  refine n_in (A := AN o (o + 1)) (by decide +kernel) (by decide) ?_
  intro p e s md args below meth c hC hw hz hS ls hl
  obtain ⟨hx, hb, hr, hml, hown, hts, hK, hlk, hin2⟩ := hC
  generalize hHH : s.heap = H at hw hz
  have hS : va_S (AN o (o + 1)) s.heap H [] := by rw [← hHH]; exact hS
  generalize ([] : List Loc) = locs at hS ⊢
  have hAo : AN o (o + 1) o := Or.inl rfl
  refine lv_aload_n hx hb dX3_init_0 rfl (lv_at hl 0 rfl) ?_
  refine n_obj hx hb hts (hml.trans hl.1.symm) hown k_119 k_15 k_16 dX3_init_1 (Nat.le_of_ble_eq_true rfl) (Nat.le_of_ble_eq_true rfl) (Nat.le_of_ble_eq_true rfl) ?_
  exact n_ret hx hb hr hlk hw hz hS (fun a e ha => ha) rfl rfl rfl dX3_init_4
def txO (cy : Nat → ClassId) (o : Nat) : Nat → Option va_E := fun d => if d = 0 then some (.inr (1, [.ref (o + 1), .ref (o + 2), .int 0, .int 0, .int 0, .int 0, .int 0, .int 0])) else if d = 1 then some (.inl (cy 1, 80, .inl (fun _ => 0))) else some (.inl (cy 0, 16, .inl (fun _ => 0)))
set_option maxHeartbeats 4000000 in
set_option maxRecDepth 100000 in
theorem c_X1_init {l : Launch} {D : va_G} {cy : Nat → ClassId} {f : Nat → Option va_E} {o : Nat} (hfo : f o = some (.inr (1, bl1))) : Met l yX1_init (.code yX1_init cX1_init 1 none :: TB) ({ frames := 1, cells := 2, slots := 96, locals := 20 } : Room) (PC D cy f (o + 1) o) (QC D (ov f o 3 (txO cy o)) (o + 3) (AN o (o + 1))) 2 96 (AN o (o + 1)) := by
  refine n_in (A := AN o (o + 1)) (by decide +kernel) (by decide) ?_
  intro p e s md args below meth c hC hw hz hS ls hl
  obtain ⟨hx, hb, hr, hml, hown, hts, hK, hlk, hin2⟩ := hC
  generalize hHH : s.heap = H at hw hz
  have hS : va_S (AN o (o + 1)) s.heap H [] := by rw [← hHH]; exact hS
  generalize ([] : List Loc) = locs at hS ⊢
  have hAo : AN o (o + 1) o := Or.inl rfl
  refine lv_aload_n hx hb dX1_init_0 rfl (lv_at hl 0 rfl) ?_
  refine n_obj hx hb hts (hml.trans hl.1.symm) hown k_22 k_15 k_16 dX1_init_1 (Nat.le_of_ble_eq_true rfl) (Nat.le_of_ble_eq_true rfl) (Nat.le_of_ble_eq_true rfl) ?_
  refine lv_aload_n hx hb dX1_init_4 rfl (lv_at hl 0 rfl) ?_
  refine lv_bipush (v := 80) hx hb dX1_init_5 (by decide) ?_
  refine n_newc hx hb hts hK hw hz hS k_55 (N := 80) (by decide) rfl (by decide) (Nat.le_of_ble_eq_true rfl) (Nat.le_of_ble_eq_true rfl) dX1_init_7 (fun H hw hz hS => ?_)
  refine n_putF hx hb hts hown hK hw hz hS (a := o) (ci := 1) (fl := [.null, .null, .int 0, .int 0, .int 0, .int 0, .int 0, .int 0]) ((fu_ne (by omega)).trans hfo) hAo inX1 rfl tyX1 tyX1_ok nmX1 0 (by decide) k_23 rfl rfl hin2 rfl rfl rfl (Nat.le_of_ble_eq_true rfl) dX1_init_9 (fun H locs hw hz hS => ?_)
  refine lv_aload_n hx hb dX1_init_12 rfl (lv_at hl 0 rfl) ?_
  refine lv_bipush (v := 16) hx hb dX1_init_13 (by decide) ?_
  refine n_newi hx hb hts hK hw hz hS k_56 (N := 16) (by decide) rfl (by decide) (Nat.le_of_ble_eq_true rfl) (Nat.le_of_ble_eq_true rfl) dX1_init_15 (fun H hw hz hS => ?_)
  refine n_putF hx hb hts hown hK hw hz hS (a := o) (ci := 1) (fl := [.ref (o + 1), .null, .int 0, .int 0, .int 0, .int 0, .int 0, .int 0]) ((fu_ne (by omega)).trans fu_at) hAo inX1 rfl tyX1 tyX1_ok nmX1 1 (by decide) k_24 rfl rfl hin2 rfl rfl rfl (Nat.le_of_ble_eq_true rfl) dX1_init_17 (fun H locs hw hz hS => ?_)
  refine n_ret hx hb hr hlk hw hz hS (fun a e ha => ?_) rfl rfl rfl dX1_init_20
  by_cases h1 : a = o
  · subst h1
    rw [fu_at]
    rw [ov_0 (by decide)] at ha
    exact ha
  · rw [fu_ne h1]
    by_cases h2 : a = o + 2
    · subst h2
      rw [fu_at]
      rw [ov_in (by decide)] at ha
      exact ha
    · rw [fu_ne h2, fu_ne h1]
      by_cases h3 : a = o + 1
      · subst h3
        rw [fu_at]
        rw [ov_in (by decide)] at ha
        exact ha
      · rw [fu_ne h3]
        rw [ov_out (by omega)] at ha
        exact ha
/-- a state under way: i blocks, j questions are made -/
def stP (cy : Nat → ClassId) (o i j : Nat) : Nat → Option va_E := fun d =>
  if d = 0 then some (.inr (4, [.ref (o + 1), .ref (o + 2), .int 0, .int 0, .int 0, .int 0]))
  else if d = 1 then some (.inl (cy 2, 8, rfs (fun k => if k < i then some (o + 3 + 2 * k) else none)))
  else if d = 2 then some (.inl (cy 3, 6, rfs (fun k => if k < j then some (o + 19 + k) else none)))
  else if d < 19 then (if d % 2 = 1 then some (.inr (0, [.ref (o + d + 1), .int 0, .int 0, .int 0, .int 0, .int 0, .int 0, .int 0, .int 0])) else some (.inl (cy 0, 16, .inl (fun _ => 0))))
  else some (.inr (3, [.int 0, .int 0, .int 0, .int 0, .int 0, .int 0, .int 0, .int 0]))
theorem va_up_lt {i v : Nat} {F : Nat → Nat} (hv : v = F i) : va_up (fun k => if k < i then some (F k) else none) i (some v) = (fun k => if k < i + 1 then some (F k) else none) := by
  subst hv
  funext k
  by_cases h : k = i
  · subst h
    simp [va_up]
  · by_cases h2 : k < i
    · have h3 : k < i + 1 := by omega
      simp [va_up, h, h2, h3]
    · have h3 : ¬ k < i + 1 := by omega
      simp [va_up, h, h2, h3]
theorem st_blk {cy : Nat → ClassId} {f : Nat → Option va_E} {o i : Nat} (hi : i < 8) {e1 : va_E} : ∀ a e, ov f o (3 + 2 * (i + 1)) (stP cy o (i + 1) 0) a = some e → fu (ov (fu (ov f o (3 + 2 * i) (stP cy o i 0)) (o + (3 + 2 * i)) e1) (o + (3 + 2 * i)) 2 (bkO cy (o + (3 + 2 * i)))) (o + 1) (.inl (cy 2, 8, rfs (va_up (fun k => if k < i then some (o + 3 + 2 * k) else none) i (some (o + (3 + 2 * i)))))) a = some e := by
  intro a e ha
  by_cases h0 : a < o ∨ o + (3 + 2 * (i + 1)) ≤ a
  · rw [ov_out h0] at ha
    rw [fu_ne (by omega), ov_out (by omega), fu_ne (by omega), ov_out (by omega)]
    exact ha
  · obtain ⟨d, rfl⟩ : ∃ d, a = o + d := ⟨a - o, by omega⟩
    rw [ov_in (by omega)] at ha
    by_cases h1 : d = 1
    · subst h1
      rw [fu_at, va_up_lt (F := fun k => o + 3 + 2 * k) (by omega)]
      exact ha
    · rw [fu_ne (by omega)]
      by_cases h2 : d < 3 + 2 * i
      · rw [ov_out (by omega), fu_ne (by omega), ov_in h2, ← ha]
        simp [stP, h1]
      · by_cases h3 : d = 3 + 2 * i
        · subst h3
          rw [ov_0 (by decide), ← ha]
          have q1 : ¬ (3 + 2 * i = 0) := by omega
          have q2 : ¬ (3 + 2 * i = 1) := by omega
          have q3 : ¬ (3 + 2 * i = 2) := by omega
          have q4 : 3 + 2 * i < 19 := by omega
          have q5 : (3 + 2 * i) % 2 = 1 := by omega
          simp only [stP, bkO, q1, q2, q3, q4, q5, if_true, if_false]
        · have h4 : d = 3 + 2 * i + 1 := by omega
          subst h4
          rw [show o + (3 + 2 * i + 1) = o + (3 + 2 * i) + 1 from rfl, ov_in (by decide), ← ha]
          have q1 : ¬ (3 + 2 * i + 1 = 0) := by omega
          have q2 : ¬ (3 + 2 * i + 1 = 1) := by omega
          have q3 : ¬ (3 + 2 * i + 1 = 2) := by omega
          have q4 : 3 + 2 * i + 1 < 19 := by omega
          have q5 : ¬ (3 + 2 * i + 1) % 2 = 1 := by omega
          simp only [stP, bkO, q1, q2, q3, q4, q5, if_true, if_false]
          rfl
theorem st_que {cy : Nat → ClassId} {f : Nat → Option va_E} {o j : Nat} (hj : j < 6) : ∀ a e, ov f o (19 + (j + 1)) (stP cy o 8 (j + 1)) a = some e → fu (fu (ov f o (19 + j) (stP cy o 8 j)) (o + (19 + j)) (.inr (3, bl3))) (o + 2) (.inl (cy 3, 6, rfs (va_up (fun k => if k < j then some (o + 19 + k) else none) j (some (o + (19 + j)))))) a = some e := by
  intro a e ha
  by_cases h0 : a < o ∨ o + (19 + (j + 1)) ≤ a
  · rw [ov_out h0] at ha
    rw [fu_ne (by omega), fu_ne (by omega), ov_out (by omega)]
    exact ha
  · obtain ⟨d, rfl⟩ : ∃ d, a = o + d := ⟨a - o, by omega⟩
    rw [ov_in (by omega)] at ha
    by_cases h1 : d = 2
    · subst h1
      rw [fu_at, va_up_lt (F := fun k => o + 19 + k) (by omega)]
      exact ha
    · rw [fu_ne (by omega)]
      by_cases h2 : d < 19 + j
      · rw [fu_ne (by omega), ov_in h2, ← ha]
        simp [stP, h1]
      · have h3 : d = 19 + j := by omega
        subst h3
        rw [fu_at, ← ha]
        have q1 : ¬ (19 + j = 0) := by omega
        have q2 : ¬ (19 + j = 1) := by omega
        have q3 : ¬ (19 + j = 2) := by omega
        have q4 : ¬ (19 + j < 19) := by omega
        simp only [stP, q1, q2, q3, q4, if_false]
set_option maxHeartbeats 4000000 in
set_option maxRecDepth 100000 in
theorem c_X4_init {l : Launch} {D : va_G} {cy : Nat → ClassId} {f : Nat → Option va_E} {o : Nat} (hfo : f o = some (.inr (4, bl4))) : Met l yX4_init (.code yX4_init cX4_init 2 none :: TB) ({ frames := 2, cells := 24, slots := 262, locals := 40 } : Room) (PC D cy f (o + 1) o) (QC D (ov f o 25 (stP cy o 8 6)) (o + 25) (AN o (o + 1))) 24 262 (AN o (o + 1)) := by
  refine n_in (A := AN o (o + 1)) (by decide +kernel) (by decide) ?_
  intro p e s md args below meth c hC hw hz hS ls hl
  obtain ⟨hx, hb, hr, hml, hown, hts, hK, hlk, hin2⟩ := hC
  generalize hHH : s.heap = H at hw hz
  have hS : va_S (AN o (o + 1)) s.heap H [] := by rw [← hHH]; exact hS
  generalize ([] : List Loc) = locs at hS ⊢
  have hAo : AN o (o + 1) o := Or.inl rfl
  refine lv_aload_n hx hb dX4_init_0 rfl (lv_at hl 0 rfl) ?_
  refine n_obj hx hb hts (hml.trans hl.1.symm) hown k_62 k_15 k_16 dX4_init_1 (Nat.le_of_ble_eq_true rfl) (Nat.le_of_ble_eq_true rfl) (Nat.le_of_ble_eq_true rfl) ?_
  have hR : ({ frames := 2, cells := 24, slots := 262, locals := 40 } : Room).cells = 24 := rfl
  -- the loop over the questions
  have L51 : ∀ (n j : Nat), j ≤ 6 → 7 ≤ j + n → ∀ (H : Heap) (locs : List Loc), XW D (ov f o (19 + j) (stP cy o 8 j)) H → H.size = o + (19 + j) → va_S (AN o (o + 1)) s.heap H locs → ∀ ls : Array Slot, lv_has ls 2 [(0, .ref o), (1, .int (nI j))] → W p l e ({ frames := 2, cells := 24, slots := 262, locals := 40 } : Room) s md args below meth c H locs (18 + j) (214 + 8 * j) (MQ below (QC D (ov f o 25 (stP cy o 8 6)) (o + 25) (AN o (o + 1))) args s 24 262 (AN o (o + 1))) (F0 md 51 ls []) := by
    intro n
    induction n with
    | zero => intro j h1 h2; omega
    | succ n ih =>
      intro j hj hn H locs hw hz hS ls hl
      refine lv_iload_n hx hb dX4_init_51 rfl (lv_at hl 1 rfl) ?_
      refine lv_bipush (v := nI 6) hx hb dX4_init_52 (by decide) ?_
      refine lv_icmp_ge (tgt := 76) hx hb dX4_init_54 (by decide) (fun q => ?_) (fun q => ?_)
      · have hj6 : j = 6 := by
          have := (nI_leI (by decide) (by omega)).mp q
          omega
        subst hj6
        exact n_ret hx hb hr hlk hw hz hS (fun a e ha => ha) rfl rfl rfl dX4_init_76
      · have hj6 : j < 6 := by
          rcases Nat.lt_or_ge j 6 with h | h
          · exact h
          · exact absurd (nI_le h (by omega)) q
        refine lv_aload_n hx hb dX4_init_57 rfl (lv_at hl 0 rfl) ?_
        refine n_get hx hb hts hown hK hw (a := o) (ci := 4) (fl := [.ref (o + 1), .ref (o + 2), .int 0, .int 0, .int 0, .int 0]) (ov_0 (by omega)) inX4 rfl 1 (by decide) k_162 rfl rfl dX4_init_58 ?_
        refine lv_iload_n hx hb dX4_init_61 rfl (lv_at hl 1 rfl) ?_
        refine n_new hx hb hts hown hK hw hz hS (ci := 3) (fl := bl3) inX3 rfl tyX3 tyX3_ok k_65 k_115 k_5 hfs_3 (by show 18 + j + 1 ≤ 24; omega) (by show 214 + 8 * j + 8 ≤ 262; omega) dX4_init_62 (fun H hw hz hS => ?_)
        refine lv_dup hx hb dX4_init_65 rfl ?_
        refine n_cn hx hb hml hown hts hK hw hz hS (A1 := AN (o + (19 + j)) (o + (19 + j) + 1)) (fun q h => Or.inr (by rcases h with h | h <;> omega)) (c_X3_init fu_at) cfI_3 k_116n rfl rfl ⟨Nat.le_of_ble_eq_true rfl, Nat.le_of_ble_eq_true rfl⟩ hl.1 (Nat.le_of_ble_eq_true rfl) ⟨by show 18 + j + 1 + 0 ≤ 24; omega, by show 214 + 8 * j + 8 + 0 ≤ 262; omega⟩ dX4_init_66 (fun H locs hw hz hS => ?_)
        refine n_aast hx hb hK hw hz hS (t0 := 3) (ci := 3) (n := 6) (fr := fun k => if k < j then some (o + 19 + k) else none) rfl (by rw [fu_ne (by omega), ov_in (by omega)]; rfl) (Or.inr (by omega)) fu_at rfl (vp_in_nI hj6 (by decide)) dX4_init_69 (fun H locs hw hz hS => ?_)
        rw [nI_clamp (by omega)] at hw
        refine lv_iinc (v := nI (j + 1)) (lv' := [(1, .int (nI (j + 1))), (0, .ref o)]) hx hb dX4_init_70 hl (k := 1) rfl (nI_1 j) (by decide) rfl (fun ls hl => ?_)
        refine lv_goto (tgt := 51) hx hb dX4_init_73 (by decide) ?_
        refine W.cs (by omega) (by omega) (ih (j + 1) (by omega) (by omega) H locs (hw.sub (st_que hj6)) (by rw [hz]; omega) hS ls (lv_sub hl [1, 0] rfl))
  -- the loop over the blocks
  have L24 : ∀ (n i : Nat), i ≤ 8 → 9 ≤ i + n → ∀ (H : Heap) (locs : List Loc), XW D (ov f o (3 + 2 * i) (stP cy o i 0)) H → H.size = o + (3 + 2 * i) → va_S (AN o (o + 1)) s.heap H locs → ∀ ls : Array Slot, lv_has ls 2 [(0, .ref o), (1, .int (nI i))] → W p l e ({ frames := 2, cells := 24, slots := 262, locals := 40 } : Room) s md args below meth c H locs (2 + 2 * i) (14 + 25 * i) (MQ below (QC D (ov f o 25 (stP cy o 8 6)) (o + 25) (AN o (o + 1))) args s 24 262 (AN o (o + 1))) (F0 md 24 ls []) := by
    intro n
    induction n with
    | zero => intro i h1 h2; omega
    | succ n ih =>
      intro i hi hn H locs hw hz hS ls hl
      refine lv_iload_n hx hb dX4_init_24 rfl (lv_at hl 1 rfl) ?_
      refine lv_bipush (v := nI 8) hx hb dX4_init_25 (by decide) ?_
      refine lv_icmp_ge (tgt := 49) hx hb dX4_init_27 (by decide) (fun q => ?_) (fun q => ?_)
      · have hi8 : i = 8 := by
          have := (nI_leI (by decide) (by omega)).mp q
          omega
        subst hi8
        refine lv_iconst (v := nI 0) hx hb dX4_init_49 (by decide) ?_
        refine lv_istore_n (lv' := [(1, .int (nI 0)), (0, .ref o)]) hx hb dX4_init_50 rfl hl (by decide) rfl (fun ls hl => ?_)
        exact L51 7 0 (by decide) (by decide) H locs hw hz hS ls (lv_sub hl [1, 0] rfl)
      · have hi8 : i < 8 := by
          rcases Nat.lt_or_ge i 8 with h | h
          · exact h
          · exact absurd (nI_le h (by omega)) q
        refine lv_aload_n hx hb dX4_init_30 rfl (lv_at hl 0 rfl) ?_
        refine n_get hx hb hts hown hK hw (a := o) (ci := 4) (fl := [.ref (o + 1), .ref (o + 2), .int 0, .int 0, .int 0, .int 0]) (ov_0 (by omega)) inX4 rfl 0 (by decide) k_160 rfl rfl dX4_init_31 ?_
        refine lv_iload_n hx hb dX4_init_34 rfl (lv_at hl 1 rfl) ?_
        refine n_new hx hb hts hown hK hw hz hS (ci := 0) (fl := bl0) inX0 rfl tyX0 tyX0_ok k_63 k_67 k_4 hfs_0 (by show 2 + 2 * i + 1 ≤ 24; omega) (by show 14 + 25 * i + 9 ≤ 262; omega) dX4_init_35 (fun H hw hz hS => ?_)
        refine lv_dup hx hb dX4_init_38 rfl ?_
        refine n_cn hx hb hml hown hts hK hw hz hS (A1 := AN (o + (3 + 2 * i)) (o + (3 + 2 * i) + 1)) (fun q h => Or.inr (by rcases h with h | h <;> omega)) (c_X0_init fu_at) cfI_0 k_68n rfl rfl ⟨Nat.le_of_ble_eq_true rfl, Nat.le_of_ble_eq_true rfl⟩ hl.1 (Nat.le_of_ble_eq_true rfl) ⟨by show 2 + 2 * i + 1 + 1 ≤ 24; omega, by show 14 + 25 * i + 9 + 16 ≤ 262; omega⟩ dX4_init_39 (fun H locs hw hz hS => ?_)
        refine n_aast hx hb hK hw hz hS (t0 := 2) (ci := 0) (n := 8) (fr := fun k => if k < i then some (o + 3 + 2 * k) else none) rfl (by rw [ov_out (by omega), fu_ne (by omega), ov_in (by omega)]; rfl) (Or.inr (by omega)) (vs := [.ref (o + (3 + 2 * i) + 1), .int 0, .int 0, .int 0, .int 0, .int 0, .int 0, .int 0, .int 0]) (ov_0 (by decide)) rfl (vp_in_nI hi8 (by decide)) dX4_init_42 (fun H locs hw hz hS => ?_)
        rw [nI_clamp (by omega)] at hw
        refine lv_iinc (v := nI (i + 1)) (lv' := [(1, .int (nI (i + 1))), (0, .ref o)]) hx hb dX4_init_43 hl (k := 1) rfl (nI_1 i) (by decide) rfl (fun ls hl => ?_)
        refine lv_goto (tgt := 24) hx hb dX4_init_46 (by decide) ?_
        refine W.cs (by omega) (by omega) (ih (i + 1) (by omega) (by omega) H locs (hw.sub (st_blk hi8)) (by rw [hz]; omega) hS ls (lv_sub hl [1, 0] rfl))
  refine lv_aload_n hx hb dX4_init_4 rfl (lv_at hl 0 rfl) ?_
  refine lv_bipush (v := 8) hx hb dX4_init_5 (by decide) ?_
  refine n_newq hx hb hts hown hK hK.2.1 hw hz hS (t0 := 2) (N := 8) rfl k_63 (by decide) rfl (by decide) (Nat.le_of_ble_eq_true rfl) (Nat.le_of_ble_eq_true rfl) dX4_init_7 (fun H hw hz hS => ?_)
  refine n_putF hx hb hts hown hK hw hz hS (a := o) (ci := 4) (fl := [.null, .null, .int 0, .int 0, .int 0, .int 0]) ((fu_ne (by omega)).trans hfo) hAo inX4 rfl tyX4 tyX4_ok nmX4 0 (by decide) k_160 rfl rfl hin2 rfl rfl rfl (Nat.le_of_ble_eq_true rfl) dX4_init_10 (fun H locs hw hz hS => ?_)
  refine lv_aload_n hx hb dX4_init_13 rfl (lv_at hl 0 rfl) ?_
  refine lv_bipush (v := 6) hx hb dX4_init_14 (by decide) ?_
  refine n_newq hx hb hts hown hK hK.2.2.1 hw hz hS (t0 := 3) (N := 6) rfl k_65 (by decide) rfl (by decide) (Nat.le_of_ble_eq_true rfl) (Nat.le_of_ble_eq_true rfl) dX4_init_16 (fun H hw hz hS => ?_)
  refine n_putF hx hb hts hown hK hw hz hS (a := o) (ci := 4) (fl := [.ref (o + 1), .null, .int 0, .int 0, .int 0, .int 0]) ((fu_ne (by omega)).trans fu_at) hAo inX4 rfl tyX4 tyX4_ok nmX4 1 (by decide) k_162 rfl rfl hin2 rfl rfl rfl (Nat.le_of_ble_eq_true rfl) dX4_init_19 (fun H locs hw hz hS => ?_)
  refine lv_iconst (v := nI 0) hx hb dX4_init_22 (by decide) ?_
  refine lv_istore_n (lv' := [(1, .int (nI 0)), (0, .ref o)]) hx hb dX4_init_23 rfl hl (by decide) rfl (fun ls hl => ?_)
  refine L24 9 0 (by decide) (by decide) H locs (hw.sub (fun a e ha => ?_)) hz hS ls (lv_sub hl [1, 0] rfl)
  by_cases h1 : a = o
  · subst h1
    rw [fu_at]
    rw [ov_0 (by decide)] at ha
    exact ha
  · rw [fu_ne h1]
    by_cases h2 : a = o + 2
    · subst h2
      rw [fu_at]
      rw [ov_in (by decide)] at ha
      rw [← ha]
      simp [stP]
    · rw [fu_ne h2, fu_ne h1]
      by_cases h3 : a = o + 1
      · subst h3
        rw [fu_at]
        rw [ov_in (by decide)] at ha
        rw [← ha]
        simp [stP]
      · rw [fu_ne h3]
        rw [ov_out (by omega)] at ha
        exact ha
/-- a history under way: i states are made -/
def hiP (cy : Nat → ClassId) (o i : Nat) : Nat → Option va_E := fun d =>
  if d = 0 then some (.inr (2, [.ref (o + 1), .int 0, .int 0]))
  else if d = 1 then some (.inl (cy 4, 4, rfs (fun k => if k < i then some (o + 2 + 25 * k) else none)))
  else stP cy (o + 2 + 25 * ((d - 2) / 25)) 8 6 ((d - 2) % 25)
theorem hi_st {cy : Nat → ClassId} {f : Nat → Option va_E} {o i : Nat} {e1 : va_E} : ∀ a e, ov f o (2 + 25 * (i + 1)) (hiP cy o (i + 1)) a = some e → fu (ov (fu (ov f o (2 + 25 * i) (hiP cy o i)) (o + (2 + 25 * i)) e1) (o + (2 + 25 * i)) 25 (stP cy (o + (2 + 25 * i)) 8 6)) (o + 1) (.inl (cy 4, 4, rfs (va_up (fun k => if k < i then some (o + 2 + 25 * k) else none) i (some (o + (2 + 25 * i)))))) a = some e := by
  intro a e ha
  by_cases h0 : a < o ∨ o + (2 + 25 * (i + 1)) ≤ a
  · rw [ov_out h0] at ha
    rw [fu_ne (by omega), ov_out (by omega), fu_ne (by omega), ov_out (by omega)]
    exact ha
  · obtain ⟨d, rfl⟩ : ∃ d, a = o + d := ⟨a - o, by omega⟩
    rw [ov_in (by omega)] at ha
    by_cases h1 : d = 1
    · subst h1
      rw [fu_at, va_up_lt (F := fun k => o + 2 + 25 * k) (by omega)]
      exact ha
    · rw [fu_ne (by omega)]
      by_cases h2 : d < 2 + 25 * i
      · rw [ov_out (by omega), fu_ne (by omega), ov_in h2, ← ha]
        simp [hiP, h1]
      · obtain ⟨r, rfl⟩ : ∃ r, d = 2 + 25 * i + r := ⟨d - (2 + 25 * i), by omega⟩
        have hr : r < 25 := by omega
        rw [show o + (2 + 25 * i + r) = o + (2 + 25 * i) + r by omega, ov_in hr, ← ha]
        have q1 : ¬ (2 + 25 * i + r = 0) := by omega
        have q2 : (2 + 25 * i + r - 2) / 25 = i := by omega
        have q3 : (2 + 25 * i + r - 2) % 25 = r := by omega
        have q4 : o + (2 + 25 * i) = o + 2 + 25 * i := by omega
        simp only [hiP, q1, h1, q2, q3, q4, if_false]
set_option maxHeartbeats 4000000 in
set_option maxRecDepth 100000 in
theorem c_X2_init {l : Launch} {D : va_G} {cy : Nat → ClassId} {f : Nat → Option va_E} {o : Nat} (hfo : f o = some (.inr (2, bl2))) : Met l yX2_init (.code yX2_init cX2_init 2 none :: TB) ({ frames := 3, cells := 101, slots := 1076, locals := 70 } : Room) (PC D cy f (o + 1) o) (QC D (ov f o 102 (hiP cy o 4)) (o + 102) (AN o (o + 1))) 101 1076 (AN o (o + 1)) := by
  refine n_in (A := AN o (o + 1)) (by decide +kernel) (by decide) ?_
  intro p e s md args below meth c hC hw hz hS ls hl
  obtain ⟨hx, hb, hr, hml, hown, hts, hK, hlk, hin2⟩ := hC
  generalize hHH : s.heap = H at hw hz
  have hS : va_S (AN o (o + 1)) s.heap H [] := by rw [← hHH]; exact hS
  generalize ([] : List Loc) = locs at hS ⊢
  have hAo : AN o (o + 1) o := Or.inl rfl
  refine lv_aload_n hx hb dX2_init_0 rfl (lv_at hl 0 rfl) ?_
  refine n_obj hx hb hts (hml.trans hl.1.symm) hown k_190 k_15 k_16 dX2_init_1 (Nat.le_of_ble_eq_true rfl) (Nat.le_of_ble_eq_true rfl) (Nat.le_of_ble_eq_true rfl) ?_
  have L14 : ∀ (n i : Nat), i ≤ 4 → 5 ≤ i + n → ∀ (H : Heap) (locs : List Loc), XW D (ov f o (2 + 25 * i) (hiP cy o i)) H → H.size = o + (2 + 25 * i) → va_S (AN o (o + 1)) s.heap H locs → ∀ ls : Array Slot, lv_has ls 2 [(0, .ref o), (1, .int (nI i))] → W p l e ({ frames := 3, cells := 101, slots := 1076, locals := 70 } : Room) s md args below meth c H locs (1 + 25 * i) (4 + 268 * i) (MQ below (QC D (ov f o 102 (hiP cy o 4)) (o + 102) (AN o (o + 1))) args s 101 1076 (AN o (o + 1))) (F0 md 14 ls []) := by
    intro n
    induction n with
    | zero => intro i h1 h2; omega
    | succ n ih =>
      intro i hi hn H locs hw hz hS ls hl
      refine lv_iload_n hx hb dX2_init_14 rfl (lv_at hl 1 rfl) ?_
      refine lv_iconst (v := nI 4) hx hb dX2_init_15 (by decide) ?_
      refine lv_icmp_ge (tgt := 38) hx hb dX2_init_16 (by decide) (fun q => ?_) (fun q => ?_)
      · have hi4 : i = 4 := by
          have := (nI_leI (by decide) (by omega)).mp q
          omega
        subst hi4
        exact n_ret hx hb hr hlk hw hz hS (fun a e ha => ha) rfl rfl rfl dX2_init_38
      · have hi4 : i < 4 := by
          rcases Nat.lt_or_ge i 4 with h | h
          · exact h
          · exact absurd (nI_le h (by omega)) q
        refine lv_aload_n hx hb dX2_init_19 rfl (lv_at hl 0 rfl) ?_
        refine n_get hx hb hts hown hK hw (a := o) (ci := 2) (fl := [.ref (o + 1), .int 0, .int 0]) (ov_0 (by omega)) inX2 rfl 0 (by decide) k_194 rfl rfl dX2_init_20 ?_
        refine lv_iload_n hx hb dX2_init_23 rfl (lv_at hl 1 rfl) ?_
        refine n_new hx hb hts hown hK hw hz hS (ci := 4) (fl := bl4) inX4 rfl tyX4 tyX4_ok k_191 k_58 k_3 hfs_4 (by show 1 + 25 * i + 1 ≤ 101; omega) (by show 4 + 268 * i + 6 ≤ 1076; omega) dX2_init_24 (fun H hw hz hS => ?_)
        refine lv_dup hx hb dX2_init_27 rfl ?_
        refine n_cp hx hb hml hown hts hK hw hz hS (A1 := AN (o + (2 + 25 * i)) (o + (2 + 25 * i) + 1)) (fun q h => Or.inr (by rcases h with h | h <;> omega)) (c_X4_init fu_at) cfI_4 k_193 rfl rfl ⟨Nat.le_of_ble_eq_true rfl, Nat.le_of_ble_eq_true rfl⟩ hl.1 (Nat.le_of_ble_eq_true rfl) ⟨by show 1 + 25 * i + 1 + 24 ≤ 101; omega, by show 4 + 268 * i + 6 + 262 ≤ 1076; omega⟩ dX2_init_28 (fun H locs hw hz hS => ?_)
        refine n_aast hx hb hK hw hz hS (t0 := 4) (ci := 4) (n := 4) (fr := fun k => if k < i then some (o + 2 + 25 * k) else none) rfl (by rw [ov_out (by omega), fu_ne (by omega), ov_in (by omega)]; rfl) (Or.inr (by omega)) (vs := [.ref (o + (2 + 25 * i) + 1), .ref (o + (2 + 25 * i) + 2), .int 0, .int 0, .int 0, .int 0]) (ov_0 (by decide)) rfl (vp_in_nI hi4 (by decide)) dX2_init_31 (fun H locs hw hz hS => ?_)
        rw [nI_clamp (by omega)] at hw
        refine lv_iinc (v := nI (i + 1)) (lv' := [(1, .int (nI (i + 1))), (0, .ref o)]) hx hb dX2_init_32 hl (k := 1) rfl (nI_1 i) (by decide) rfl (fun ls hl => ?_)
        refine lv_goto (tgt := 14) hx hb dX2_init_35 (by decide) ?_
        refine W.cs (by omega) (by omega) (ih (i + 1) (by omega) (by omega) H locs (hw.sub hi_st) (by rw [hz]; omega) hS ls (lv_sub hl [1, 0] rfl))
  refine lv_aload_n hx hb dX2_init_4 rfl (lv_at hl 0 rfl) ?_
  refine lv_iconst (v := 4) hx hb dX2_init_5 (by decide) ?_
  refine n_newq hx hb hts hown hK hK.2.2.2 hw hz hS (t0 := 4) (N := 4) rfl k_191 (by decide) rfl (by decide) (Nat.le_of_ble_eq_true rfl) (Nat.le_of_ble_eq_true rfl) dX2_init_6 (fun H hw hz hS => ?_)
  refine n_putF hx hb hts hown hK hw hz hS (a := o) (ci := 2) (fl := [.null, .int 0, .int 0]) ((fu_ne (by omega)).trans hfo) hAo inX2 rfl tyX2 tyX2_ok nmX2 0 (by decide) k_194 rfl rfl hin2 rfl rfl rfl (Nat.le_of_ble_eq_true rfl) dX2_init_9 (fun H locs hw hz hS => ?_)
  refine lv_iconst (v := nI 0) hx hb dX2_init_12 (by decide) ?_
  refine lv_istore_n (lv' := [(1, .int (nI 0)), (0, .ref o)]) hx hb dX2_init_13 rfl hl (by decide) rfl (fun ls hl => ?_)
  refine L14 5 0 (by decide) (by decide) H locs (hw.sub (fun a e ha => ?_)) hz hS ls (lv_sub hl [1, 0] rfl)
  by_cases h1 : a = o
  · subst h1
    rw [fu_at]
    rw [ov_0 (by decide)] at ha
    exact ha
  · rw [fu_ne h1]
    by_cases h3 : a = o + 1
    · subst h3
      rw [fu_at]
      rw [ov_in (by decide)] at ha
      rw [← ha]
      simp [hiP]
    · rw [fu_ne h3]
      rw [ov_out (by omega)] at ha
      exact ha
def mnO (cy : Nat → ClassId) (o : Nat) : Nat → Option va_E := fun d =>
  if d = 0 then some (.inr (5, [.ref (o + 1), .ref (o + 4), .ref (o + 29), .ref (o + 54), .ref (o + 79), .int 0]))
  else if d < 4 then txO cy (o + 1) (d - 1)
  else if d < 29 then stP cy (o + 4) 8 6 (d - 4)
  else if d < 54 then stP cy (o + 29) 8 6 (d - 29)
  else if d < 79 then stP cy (o + 54) 8 6 (d - 54)
  else hiP cy (o + 79) 4 (d - 79)
theorem mn_sub {cy : Nat → ClassId} {f : Nat → Option va_E} {o : Nat} : ∀ a e, ov f o 181 (mnO cy o) a = some e → (fu (fu (ov (fu (fu (ov (fu (fu (ov (fu (fu (ov (fu (fu (ov (fu f (o + 1) (.inr (1, bl1))) (o + 1) 3 (txO cy (o + 1))) o (.inr (5, [.ref (o + 1), .null, .null, .null, .null, .int 0]))) (o + 1 + 3) (.inr (4, bl4))) (o + 1 + 3) 25 (stP cy (o + 1 + 3) 8 6)) o (.inr (5, [.ref (o + 1), .ref (o + 1 + 3), .null, .null, .null, .int 0]))) (o + 1 + 3 + 25) (.inr (4, bl4))) (o + 1 + 3 + 25) 25 (stP cy (o + 1 + 3 + 25) 8 6)) o (.inr (5, [.ref (o + 1), .ref (o + 1 + 3), .ref (o + 1 + 3 + 25), .null, .null, .int 0]))) (o + 1 + 3 + 25 + 25) (.inr (4, bl4))) (o + 1 + 3 + 25 + 25) 25 (stP cy (o + 1 + 3 + 25 + 25) 8 6)) o (.inr (5, [.ref (o + 1), .ref (o + 1 + 3), .ref (o + 1 + 3 + 25), .ref (o + 1 + 3 + 25 + 25), .null, .int 0]))) (o + 1 + 3 + 25 + 25 + 25) (.inr (2, bl2))) (o + 1 + 3 + 25 + 25 + 25) 102 (hiP cy (o + 1 + 3 + 25 + 25 + 25) 4)) o (.inr (5, [.ref (o + 1), .ref (o + 1 + 3), .ref (o + 1 + 3 + 25), .ref (o + 1 + 3 + 25 + 25), .ref (o + 1 + 3 + 25 + 25 + 25), .int 0]))) o (.inr (5, [.ref (o + 1), .ref (o + 1 + 3), .ref (o + 1 + 3 + 25), .ref (o + 1 + 3 + 25 + 25), .ref (o + 1 + 3 + 25 + 25 + 25), .int 0]))) a = some e := by
  intro a e ha
  by_cases h0 : a < o ∨ o + 181 ≤ a
  · rw [ov_out h0] at ha
    rw [fu_ne (by omega), fu_ne (by omega), ov_out (by omega), fu_ne (by omega), fu_ne (by omega), ov_out (by omega), fu_ne (by omega), fu_ne (by omega), ov_out (by omega), fu_ne (by omega), fu_ne (by omega), ov_out (by omega), fu_ne (by omega), fu_ne (by omega), ov_out (by omega), fu_ne (by omega)]
    exact ha
  · obtain ⟨d, rfl⟩ : ∃ d, a = o + d := ⟨a - o, by omega⟩
    rw [ov_in (by omega)] at ha
    unfold mnO at ha
    by_cases h1 : d = 0
    · subst h1
      exact fu_at.trans ha
    · rw [if_neg h1] at ha
      rw [fu_ne (by omega), fu_ne (by omega)]
      by_cases h2 : d < 79
      · rw [ov_out (by omega), fu_ne (by omega), fu_ne (by omega)]
        by_cases h3 : d < 54
        · rw [ov_out (by omega), fu_ne (by omega), fu_ne (by omega)]
          by_cases h4 : d < 29
          · rw [ov_out (by omega), fu_ne (by omega), fu_ne (by omega)]
            by_cases h5 : d < 4
            · rw [ov_out (by omega), fu_ne (by omega), fu_ne (by omega)]
              rw [if_pos h5] at ha
              rw [show o + d = o + 1 + (d - 1) by omega, ov_in (by omega)]
              exact ha
            · rw [if_neg h5, if_pos h4] at ha
              rw [show o + d = o + 1 + 3 + (d - 4) by omega, ov_in (by omega)]
              exact ha
          · rw [if_neg (by omega), if_neg h4, if_pos h3] at ha
            rw [show o + d = o + 1 + 3 + 25 + (d - 29) by omega, ov_in (by omega)]
            exact ha
        · rw [if_neg (by omega), if_neg (by omega), if_neg h3, if_pos h2] at ha
          rw [show o + d = o + 1 + 3 + 25 + 25 + (d - 54) by omega, ov_in (by omega)]
          exact ha
      · rw [if_neg (by omega), if_neg (by omega), if_neg (by omega), if_neg h2] at ha
        rw [show o + d = o + 1 + 3 + 25 + 25 + 25 + (d - 79) by omega, ov_in (by omega)]
        exact ha
set_option maxHeartbeats 4000000 in
set_option maxRecDepth 100000 in
theorem c_X5_init {l : Launch} {D : va_G} {cy : Nat → ClassId} {f : Nat → Option va_E} {o : Nat} (hfo : f o = some (.inr (5, bl5))) : Met l yX5_init (.code yX5_init cX5_init 1 none :: TB) ({ frames := 4, cells := 180, slots := 1987, locals := 100 } : Room) (PC D cy f (o + 1) o) (QC D (ov f o 181 (mnO cy o)) (o + 181) (AN o (o + 1))) 180 1987 (AN o (o + 1)) := by
  refine n_in (A := AN o (o + 1)) (by decide +kernel) (by decide) ?_
  intro p e s md args below meth c hC hw hz hS ls hl
  obtain ⟨hx, hb, hr, hml, hown, hts, hK, hlk, hin2⟩ := hC
  generalize hHH : s.heap = H at hw hz
  have hS : va_S (AN o (o + 1)) s.heap H [] := by rw [← hHH]; exact hS
  generalize ([] : List Loc) = locs at hS ⊢
  have hAo : AN o (o + 1) o := Or.inl rfl
  refine lv_aload_n hx hb dX5_init_0 rfl (lv_at hl 0 rfl) ?_
  refine n_obj hx hb hts (hml.trans hl.1.symm) hown k_14 k_15 k_16 dX5_init_1 (Nat.le_of_ble_eq_true rfl) (Nat.le_of_ble_eq_true rfl) (Nat.le_of_ble_eq_true rfl) ?_
  refine lv_aload_n hx hb dX5_init_4 rfl (lv_at hl 0 rfl) ?_
  refine n_new hx hb hts hown hK hw hz hS (ci := 1) (fl := bl1) inX1 rfl tyX1 tyX1_ok k_17 k_18 k_2 hfs_1 (Nat.le_of_ble_eq_true rfl) (Nat.le_of_ble_eq_true rfl) dX5_init_5 (fun H hw hz hS => ?_)
  refine lv_dup hx hb dX5_init_8 rfl ?_
  refine n_cn hx hb hml hown hts hK hw hz hS (A1 := AN (o + 1) (o + 1 + 1)) (fun q h => Or.inr (by rcases h with h | h <;> omega)) (c_X1_init fu_at) cfI_1 k_19n rfl rfl ⟨Nat.le_of_ble_eq_true rfl, Nat.le_of_ble_eq_true rfl⟩ hl.1 (Nat.le_of_ble_eq_true rfl) ⟨Nat.le_of_ble_eq_true rfl, Nat.le_of_ble_eq_true rfl⟩ dX5_init_9 (fun H locs hw hz hS => ?_)
  refine n_putF hx hb hts hown hK hw hz hS (a := o) (ci := 5) (fl := [.null, .null, .null, .null, .null, .int 0]) ((ov_out (by omega)).trans ((fu_ne (by omega)).trans hfo)) hAo inX5 rfl tyX5 tyX5_ok nmX5 0 (by decide) k_205 rfl rfl hin2 rfl rfl rfl (Nat.le_of_ble_eq_true rfl) dX5_init_12 (fun H locs hw hz hS => ?_)
  refine lv_aload_n hx hb dX5_init_15 rfl (lv_at hl 0 rfl) ?_
  refine n_new hx hb hts hown hK hw hz hS (ci := 4) (fl := bl4) inX4 rfl tyX4 tyX4_ok k_57 k_58 k_3 hfs_4 (Nat.le_of_ble_eq_true rfl) (Nat.le_of_ble_eq_true rfl) dX5_init_16 (fun H hw hz hS => ?_)
  refine lv_dup hx hb dX5_init_19 rfl ?_
  refine n_cp hx hb hml hown hts hK hw hz hS (A1 := AN (o + 1 + 3) (o + 1 + 3 + 1)) (fun q h => Or.inr (by rcases h with h | h <;> omega)) (c_X4_init fu_at) cfI_4 k_59 rfl rfl ⟨Nat.le_of_ble_eq_true rfl, Nat.le_of_ble_eq_true rfl⟩ hl.1 (Nat.le_of_ble_eq_true rfl) ⟨Nat.le_of_ble_eq_true rfl, Nat.le_of_ble_eq_true rfl⟩ dX5_init_20 (fun H locs hw hz hS => ?_)
  refine n_putF hx hb hts hown hK hw hz hS (a := o) (ci := 5) (fl := [.ref (o + 1), .null, .null, .null, .null, .int 0]) ((ov_out (by omega)).trans ((fu_ne (by omega)).trans fu_at)) hAo inX5 rfl tyX5 tyX5_ok nmX5 1 (by decide) k_206 rfl rfl hin2 rfl rfl rfl (Nat.le_of_ble_eq_true rfl) dX5_init_23 (fun H locs hw hz hS => ?_)
  refine lv_aload_n hx hb dX5_init_26 rfl (lv_at hl 0 rfl) ?_
  refine n_new hx hb hts hown hK hw hz hS (ci := 4) (fl := bl4) inX4 rfl tyX4 tyX4_ok k_57 k_58 k_3 hfs_4 (Nat.le_of_ble_eq_true rfl) (Nat.le_of_ble_eq_true rfl) dX5_init_27 (fun H hw hz hS => ?_)
  refine lv_dup hx hb dX5_init_30 rfl ?_
  refine n_cp hx hb hml hown hts hK hw hz hS (A1 := AN (o + 1 + 3 + 25) (o + 1 + 3 + 25 + 1)) (fun q h => Or.inr (by rcases h with h | h <;> omega)) (c_X4_init fu_at) cfI_4 k_59 rfl rfl ⟨Nat.le_of_ble_eq_true rfl, Nat.le_of_ble_eq_true rfl⟩ hl.1 (Nat.le_of_ble_eq_true rfl) ⟨Nat.le_of_ble_eq_true rfl, Nat.le_of_ble_eq_true rfl⟩ dX5_init_31 (fun H locs hw hz hS => ?_)
  refine n_putF hx hb hts hown hK hw hz hS (a := o) (ci := 5) (fl := [.ref (o + 1), .ref (o + 1 + 3), .null, .null, .null, .int 0]) ((ov_out (by omega)).trans ((fu_ne (by omega)).trans fu_at)) hAo inX5 rfl tyX5 tyX5_ok nmX5 2 (by decide) k_207 rfl rfl hin2 rfl rfl rfl (Nat.le_of_ble_eq_true rfl) dX5_init_34 (fun H locs hw hz hS => ?_)
  refine lv_aload_n hx hb dX5_init_37 rfl (lv_at hl 0 rfl) ?_
  refine n_new hx hb hts hown hK hw hz hS (ci := 4) (fl := bl4) inX4 rfl tyX4 tyX4_ok k_57 k_58 k_3 hfs_4 (Nat.le_of_ble_eq_true rfl) (Nat.le_of_ble_eq_true rfl) dX5_init_38 (fun H hw hz hS => ?_)
  refine lv_dup hx hb dX5_init_41 rfl ?_
  refine n_cp hx hb hml hown hts hK hw hz hS (A1 := AN (o + 1 + 3 + 25 + 25) (o + 1 + 3 + 25 + 25 + 1)) (fun q h => Or.inr (by rcases h with h | h <;> omega)) (c_X4_init fu_at) cfI_4 k_59 rfl rfl ⟨Nat.le_of_ble_eq_true rfl, Nat.le_of_ble_eq_true rfl⟩ hl.1 (Nat.le_of_ble_eq_true rfl) ⟨Nat.le_of_ble_eq_true rfl, Nat.le_of_ble_eq_true rfl⟩ dX5_init_42 (fun H locs hw hz hS => ?_)
  refine n_putF hx hb hts hown hK hw hz hS (a := o) (ci := 5) (fl := [.ref (o + 1), .ref (o + 1 + 3), .ref (o + 1 + 3 + 25), .null, .null, .int 0]) ((ov_out (by omega)).trans ((fu_ne (by omega)).trans fu_at)) hAo inX5 rfl tyX5 tyX5_ok nmX5 3 (by decide) k_208 rfl rfl hin2 rfl rfl rfl (Nat.le_of_ble_eq_true rfl) dX5_init_45 (fun H locs hw hz hS => ?_)
  refine lv_aload_n hx hb dX5_init_48 rfl (lv_at hl 0 rfl) ?_
  refine n_new hx hb hts hown hK hw hz hS (ci := 2) (fl := bl2) inX2 rfl tyX2 tyX2_ok k_185 k_186 k_6 hfs_2 (Nat.le_of_ble_eq_true rfl) (Nat.le_of_ble_eq_true rfl) dX5_init_49 (fun H hw hz hS => ?_)
  refine lv_dup hx hb dX5_init_52 rfl ?_
  refine n_cp hx hb hml hown hts hK hw hz hS (A1 := AN (o + 1 + 3 + 25 + 25 + 25) (o + 1 + 3 + 25 + 25 + 25 + 1)) (fun q h => Or.inr (by rcases h with h | h <;> omega)) (c_X2_init fu_at) cfI_2 k_187 rfl rfl ⟨Nat.le_of_ble_eq_true rfl, Nat.le_of_ble_eq_true rfl⟩ hl.1 (Nat.le_of_ble_eq_true rfl) ⟨Nat.le_of_ble_eq_true rfl, Nat.le_of_ble_eq_true rfl⟩ dX5_init_53 (fun H locs hw hz hS => ?_)
  refine n_putF hx hb hts hown hK hw hz hS (a := o) (ci := 5) (fl := [.ref (o + 1), .ref (o + 1 + 3), .ref (o + 1 + 3 + 25), .ref (o + 1 + 3 + 25 + 25), .null, .int 0]) ((ov_out (by omega)).trans ((fu_ne (by omega)).trans fu_at)) hAo inX5 rfl tyX5 tyX5_ok nmX5 4 (by decide) k_209 rfl rfl hin2 rfl rfl rfl (Nat.le_of_ble_eq_true rfl) dX5_init_56 (fun H locs hw hz hS => ?_)
  refine lv_aload_n hx hb dX5_init_59 rfl (lv_at hl 0 rfl) ?_
  refine lv_iconst (v := 0) hx hb dX5_init_60 (by decide) ?_
  refine n_put hx hb hts hown hK hw hz hS (a := o) (ci := 5) (fl := [.ref (o + 1), .ref (o + 1 + 3), .ref (o + 1 + 3 + 25), .ref (o + 1 + 3 + 25 + 25), .ref (o + 1 + 3 + 25 + 25 + 25), .int 0]) fu_at hAo inX5 rfl tyX5 tyX5_ok nmX5 5 (by decide) k_210 rfl rfl rfl rfl (Nat.le_of_ble_eq_true rfl) dX5_init_61 (fun H locs hw hz hS => ?_)
  exact n_ret hx hb hr hlk hw hz hS mn_sub (by omega) rfl rfl dX5_init_64

/-! THE WORLD: all cells of the class and of the reference, at addresses 'ad g c' (a group, a cell of it); what they hold is a memory M g c k.
Groups 0 to 6: states (0 the state that is now, 1 trial, 2 snapshot, 3 to 6 the history's); 7 the text; 8 SureAnswers, History and its row; 9 the law's own row of 18. -/
abbrev SM : Type := Nat → Nat → Int32
abbrev MM : Type := Nat → SM
def sc (m : SM) (c : Nat) (f : Nat → Int32) : SM := fun c' => if c' = c then f else m c'
def up (m : SM) (c k : Nat) (v : Int32) : SM := fun c' k' => if c' = c ∧ k' = k then v else m c' k'
def gs (M : MM) (g : Nat) (m : SM) : MM := fun g' => if g' = g then m else M g'
theorem gs_at {M : MM} {g : Nat} {m : SM} : gs M g m g = m := by simp [gs]
theorem gs_ne {M : MM} {g g2 : Nat} {m : SM} (h : g2 ≠ g) : gs M g m g2 = M g2 := by simp [gs, h]
theorem gs_gs {M : MM} {g : Nat} {m m2 : SM} : gs (gs M g m) g m2 = gs M g m2 := by
  funext x
  by_cases h : x = g <;> simp [gs, h]
theorem gs_self {M : MM} {g : Nat} : gs M g (M g) = M := by
  funext x
  by_cases h : x = g <;> simp [gs, h]
theorem gs_same {M : MM} {g : Nat} {m : SM} (h : M g = m) : gs M g m = M := by rw [← h]; exact gs_self
theorem up_sc {m : SM} {c k : Nat} {v : Int32} : up m c k v = sc m c (upd (m c) k v) := by
  funext x y
  by_cases h : x = c
  · subst h
    simp [up, sc, upd]
  · simp [up, sc, h]
theorem sc_at {m : SM} {c : Nat} {f : Nat → Int32} : sc m c f c = f := by simp [sc]
theorem sc_ne {m : SM} {c c2 : Nat} {f : Nat → Int32} (h : c2 ≠ c) : sc m c f c2 = m c2 := by simp [sc, h]
/-! what a method's function is made of -/
def bd {S β : Type} (o : Option (Int32 × S)) (k : Int32 → S → Option β) : Option β := match o with
  | none => none
  | some x => k x.1 x.2
def b1 {β : Type} (o : Option Int32) (k : Int32 → Option β) : Option β := match o with
  | none => none
  | some x => k x
def lt1 {α β : Type} (e : α) (k : α → β) : β := k e
def gd {β : Type} (i : Int32) (n : Nat) (t : Option β) : Option β := if i < 0 ∨ n ≤ i.toNatClampNeg then none else t
def gz {β : Type} (v : Int32) (t : Option β) : Option β := if v = 0 ∨ v = 1 then t else none
def gn {β : Type} (v : Int32) (t : Option β) : Option β := if v = 0 then none else t
theorem t_bd {S β : Type} {o : Option (Int32 × S)} {k : Int32 → S → Option β} {v : β} (h : bd o k = some v) : ∃ r m, o = some (r, m) ∧ k r m = some v := by
  cases o with
  | none => cases h
  | some x => exact ⟨x.1, x.2, rfl, h⟩
theorem t_b1 {β : Type} {o : Option Int32} {k : Int32 → Option β} {v : β} (h : b1 o k = some v) : ∃ r, o = some r ∧ k r = some v := by
  cases o with
  | none => cases h
  | some x => exact ⟨x, rfl, h⟩
theorem t_lt {α β : Type} {e : α} {k : α → β} {v : β} (h : lt1 e k = v) : ∃ x, x = e ∧ k x = v := ⟨e, rfl, h⟩
theorem t_gd {β : Type} {i : Int32} {n : Nat} {t : Option β} {v : β} (h : gd i n t = some v) : vp_in i n ∧ t = some v := by
  unfold gd at h
  by_cases c : i < 0 ∨ n ≤ i.toNatClampNeg
  · rw [if_pos c] at h; cases h
  · rw [if_neg c] at h; exact ⟨c, h⟩
theorem t_gz {β : Type} {x : Int32} {t : Option β} {v : β} (h : gz x t = some v) : (x = 0 ∨ x = 1) ∧ t = some v := by
  unfold gz at h
  by_cases c : x = 0 ∨ x = 1
  · rw [if_pos c] at h; exact ⟨c, h⟩
  · rw [if_neg c] at h; cases h
theorem t_gn {β : Type} {x : Int32} {t : Option β} {v : β} (h : gn x t = some v) : ¬ x = 0 ∧ t = some v := by
  unfold gn at h
  by_cases c : x = 0
  · rw [if_pos c] at h; cases h
  · rw [if_neg c] at h; exact ⟨c, h⟩
theorem t_pos {α : Type} {c : Prop} [Decidable c] {a b v : α} (h : (if c then a else b) = v) (hc : c) : a = v := by rw [if_pos hc] at h; exact h
theorem t_neg {α : Type} {c : Prop} [Decidable c] {a b v : α} (h : (if c then a else b) = v) (hc : ¬ c) : b = v := by rw [if_neg hc] at h; exact h
theorem vin {i : Int32} {n : Nat} (h : vp_in i n) : i.toNatClampNeg < n := Nat.not_le.mp fun q => h (Or.inr q)
theorem t_ret {S : Type} {a b : Int32} {x y : S} (h : some (a, x) = some (b, y)) : a = b ∧ x = y := by cases h; exact ⟨rfl, rfl⟩
theorem nar_z {v : Int32} (h : v = 0 ∨ v = 1) : narrow .boolean (.int v) = .int v := by
  rcases h with rfl | rfl <;> rfl
theorem fit_z {v : Int32} (h : v = 0 ∨ v = 1) : fits .boolean (.int v) = true := by
  rcases h with rfl | rfl <;> rfl
def FU : Nat := 1000
def mn (x y : Int32) : Int32 := if y < x then y else x
def mx (x y : Int32) : Int32 := if x < y then y else x
theorem gs_atc {M : MM} {g c : Nat} {m : SM} : gs M g m g c = m c := by rw [gs_at]
theorem gs_nec {M : MM} {g g2 c : Nat} {m m2 : SM} (h : g2 ≠ g) (h2 : M g2 = m2) : gs M g m g2 c = m2 c := by rw [gs_ne h, h2]
theorem gs_nem {M : MM} {g g2 : Nat} {m m2 : SM} (h : g2 ≠ g) (h2 : M g2 = m2) : gs M g m g2 = m2 := by rw [gs_ne h, h2]
theorem gs_up {M : MM} {g c k : Nat} {m m1 : SM} {v : Int32} (e : m1 = up m c k v) : gs (gs M g m) g (up (gs M g m g) c k v) = gs M g m1 := by rw [gs_gs, gs_at, e]
theorem gs_sc {M : MM} {g c : Nat} {m m1 : SM} {f : Nat → Int32} (e : m1 = sc m c f) : gs (gs M g m) g (sc (gs M g m g) c f) = gs M g m1 := by rw [gs_gs, gs_at, e]
/-! the cells -/
def vids : List (Nat × Nat) := (List.range 7).flatMap (fun g => (List.range 25).map (fun c => (g, c))) ++ ((List.range 3).map (fun c => (7, c)) ++ ((List.range 3).map (fun c => (8, c)) ++ (List.range 1).map (fun c => (9, c))))
set_option maxRecDepth 100000 in
theorem vids_nd : vids.Nodup := by decide +kernel
theorem v_st {g c : Nat} (hg : g < 7) (hc : c < 25) : (g, c) ∈ vids := List.mem_append_left _ (List.mem_flatMap.mpr ⟨g, List.mem_range.mpr hg, List.mem_map.mpr ⟨c, List.mem_range.mpr hc, rfl⟩⟩)
theorem v_tx {c : Nat} (hc : c < 3) : (7, c) ∈ vids := List.mem_append_right _ (List.mem_append_left _ (List.mem_map.mpr ⟨c, List.mem_range.mpr hc, rfl⟩))
theorem v_mn {c : Nat} (hc : c < 3) : (8, c) ∈ vids := List.mem_append_right _ (List.mem_append_right _ (List.mem_append_left _ (List.mem_map.mpr ⟨c, List.mem_range.mpr hc, rfl⟩)))
theorem v_ra : (9, 0) ∈ vids := List.mem_append_right _ (List.mem_append_right _ (List.mem_append_right _ (List.mem_map.mpr ⟨0, List.mem_range.mpr (by decide), rfl⟩)))
theorem v_bk {g i : Nat} (hg : g < 7) (hi : i < 8) : (g, 3 + i) ∈ vids := v_st hg (by omega)
theorem v_va {g i : Nat} (hg : g < 7) (hi : i < 8) : (g, 11 + i) ∈ vids := v_st hg (by omega)
theorem v_qu {g i : Nat} (hg : g < 7) (hi : i < 6) : (g, 19 + i) ∈ vids := v_st hg (by omega)
abbrev rfs (f : Nat → Option Nat) : (Nat → Int32) ⊕ (Nat → Int64) ⊕ (Nat → UInt32) ⊕ (Nat → UInt64) ⊕ (Nat → Option Nat) := .inr (.inr (.inr (.inr f)))
/-- what a cell holds: its fields' or places' numbers are f; cy: the classes of int[], char[], Block[], Question[], State[] -/
def E (cy : Nat → ClassId) (ad : Nat → Nat → Nat) (q : Nat × Nat) (f : Nat → Int32) : va_E :=
  if q.1 < 7 then
    if q.2 = 0 then .inr (4, [.ref (ad q.1 1), .ref (ad q.1 2), .int (f 2), .int (f 3), .int (f 4), .int (f 5)])
    else if q.2 = 1 then .inl (cy 2, 8, rfs (fun k => some (ad q.1 (3 + k))))
    else if q.2 = 2 then .inl (cy 3, 6, rfs (fun k => some (ad q.1 (19 + k))))
    else if q.2 < 11 then .inr (0, [.ref (ad q.1 (q.2 + 8)), .int (f 1), .int (f 2), .int (f 3), .int (f 4), .int (f 5), .int (f 6), .int (f 7), .int (f 8)])
    else if q.2 < 19 then .inl (cy 0, 16, .inl f)
    else .inr (3, [.int (f 0), .int (f 1), .int (f 2), .int (f 3), .int (f 4), .int (f 5), .int (f 6), .int (f 7)])
  else if q.1 = 7 then
    if q.2 = 0 then .inr (1, [.ref (ad 7 1), .ref (ad 7 2), .int (f 2), .int (f 3), .int (f 4), .int (f 5), .int (f 6), .int (f 7)])
    else if q.2 = 1 then .inl (cy 1, 80, .inl f)
    else .inl (cy 0, 16, .inl f)
  else if q.1 = 8 then
    if q.2 = 0 then .inr (5, [.ref (ad 7 0), .ref (ad 0 0), .ref (ad 1 0), .ref (ad 2 0), .ref (ad 8 1), .int (f 5)])
    else if q.2 = 1 then .inr (2, [.ref (ad 8 2), .int (f 1), .int (f 2)])
    else .inl (cy 4, 4, rfs (fun k => some (ad (3 + k) 0)))
  else .inl (cy 0, 18, .inl f)
section EE
variable {cy : Nat → ClassId} {ad : Nat → Nat → Nat} {g i : Nat} {f : Nat → Int32}
theorem E_st (hg : g < 7) : E cy ad (g, 0) f = .inr (4, [.ref (ad g 1), .ref (ad g 2), .int (f 2), .int (f 3), .int (f 4), .int (f 5)]) := by simp [E, hg]
theorem E_ba (hg : g < 7) : E cy ad (g, 1) f = .inl (cy 2, 8, rfs (fun k => some (ad g (3 + k)))) := by simp [E, hg]
theorem E_qa (hg : g < 7) : E cy ad (g, 2) f = .inl (cy 3, 6, rfs (fun k => some (ad g (19 + k)))) := by simp [E, hg]
theorem E_bk (hg : g < 7) (hi : i < 8) : E cy ad (g, 3 + i) f = .inr (0, [.ref (ad g (11 + i)), .int (f 1), .int (f 2), .int (f 3), .int (f 4), .int (f 5), .int (f 6), .int (f 7), .int (f 8)]) := by
  have h1 : ¬ 3 + i = 0 := by omega
  have h2 : ¬ 3 + i = 1 := by omega
  have h3 : ¬ 3 + i = 2 := by omega
  have h4 : 3 + i < 11 := by omega
  have h5 : 3 + i + 8 = 11 + i := by omega
  simp only [E, hg, h1, h2, h3, h4, h5, if_true, if_false]
theorem E_va (hg : g < 7) (hi : i < 8) : E cy ad (g, 11 + i) f = .inl (cy 0, 16, .inl f) := by
  have h1 : ¬ 11 + i = 0 := by omega
  have h2 : ¬ 11 + i = 1 := by omega
  have h3 : ¬ 11 + i = 2 := by omega
  have h4 : ¬ 11 + i < 11 := by omega
  have h5 : 11 + i < 19 := by omega
  simp only [E, hg, h1, h2, h3, h4, h5, if_true, if_false]
theorem E_qu (hg : g < 7) : E cy ad (g, 19 + i) f = .inr (3, [.int (f 0), .int (f 1), .int (f 2), .int (f 3), .int (f 4), .int (f 5), .int (f 6), .int (f 7)]) := by
  have h1 : ¬ 19 + i = 0 := by omega
  have h2 : ¬ 19 + i = 1 := by omega
  have h3 : ¬ 19 + i = 2 := by omega
  have h4 : ¬ 19 + i < 11 := by omega
  have h5 : ¬ 19 + i < 19 := by omega
  simp only [E, hg, h1, h2, h3, h4, h5, if_true, if_false]
theorem E_tx : E cy ad (7, 0) f = .inr (1, [.ref (ad 7 1), .ref (ad 7 2), .int (f 2), .int (f 3), .int (f 4), .int (f 5), .int (f 6), .int (f 7)]) := by simp [E]
theorem E_tc : E cy ad (7, 1) f = .inl (cy 1, 80, .inl f) := by simp [E]
theorem E_tv : E cy ad (7, 2) f = .inl (cy 0, 16, .inl f) := by simp [E]
theorem E_mn : E cy ad (8, 0) f = .inr (5, [.ref (ad 7 0), .ref (ad 0 0), .ref (ad 1 0), .ref (ad 2 0), .ref (ad 8 1), .int (f 5)]) := by simp [E]
theorem E_hi : E cy ad (8, 1) f = .inr (2, [.ref (ad 8 2), .int (f 1), .int (f 2)]) := by simp [E]
theorem E_sa : E cy ad (8, 2) f = .inl (cy 4, 4, rfs (fun k => some (ad (3 + k) 0))) := by simp [E]
theorem E_ra : E cy ad (9, 0) f = .inl (cy 0, 18, .inl f) := by simp [E]
end EE
def wl (cy : Nat → ClassId) (ad : Nat → Nat → Nat) (M : MM) : va_W := vids.map (fun q => (ad q.1 q.2, E cy ad q (M q.1 q.2)))
def WH (D : va_G) (cy : Nat → ClassId) (ad : Nat → Nat → Nat) (M : MM) (H : Heap) : Prop := va_P D vwCl (wl cy ad M) H
def tyl (cy : Nat → ClassId) : List (ClassId × FieldType) := [(cy 0, .int), (cy 1, .char), (cy 2, .object RX0), (cy 3, .object RX3), (cy 4, .object RX4)]
def NX (U : State) : Prop := ∀ w ∈ NXL, va_Nw w U
def KD (D : va_G) (cy : Nat → ClassId) (U : State) : Prop := va_K D vwCl (tyl cy) U ∧ NX U
def AD (ad : Nat → Nat → Nat) : Nat → Prop := fun x => ∃ q ∈ vids, x = ad q.1 q.2
def CV (ad : Nat → Nat → Nat) : Prop := ∀ q ∈ vids, ∀ q2 ∈ vids, ad q.1 q.2 = ad q2.1 q2.2 → q = q2
theorem NX.warm {s U : State} (hW : s.WarmedH U.vm) (h : NX s) : NX U := fun w hw => by
  obtain ⟨a, i, x, o, rfl⟩ := NXL_nest w hw
  exact va_Nw.warmM hW (h _ hw)
theorem NX.same {u U : State} (hv : u.vm = U.vm) (h : NX u) : NX U := fun w hw => by
  obtain ⟨a, i, x, o, rfl⟩ := NXL_nest w hw
  exact va_Nw.same rfl hv (h _ hw)
theorem KD.warm {D : va_G} {cy : Nat → ClassId} {s U : State} (hW : s.WarmedH U.vm) (h : KD D cy s) : KD D cy U := ⟨va_K.moved hW.alike h.1, h.2.warm hW⟩
theorem wl_at {cy : Nat → ClassId} {ad : Nat → Nat → Nat} {M : MM} {g c : Nat} (h : (g, c) ∈ vids) : ∃ k : Nat, (wl cy ad M)[k]? = some (ad g c, E cy ad (g, c) (M g c)) ∧ vids[k]? = some (g, c) := by
  obtain ⟨k, hk⟩ := List.getElem?_of_mem h
  refine ⟨k, ?_, hk⟩
  unfold wl
  rw [List.getElem?_map, hk]
  rfl
theorem wl_D {cy : Nat → ClassId} {ad : Nat → Nat → Nat} {M : MM} (hcv : CV ad) : va_D (AD ad) (wl cy ad M) := by
  have key : ∀ (k : Nat) (q : Nat × va_E), (wl cy ad M)[k]? = some q → ∃ v, vids[k]? = some v ∧ q.1 = ad v.1 v.2 := by
    intro k q hk
    unfold wl at hk
    rw [List.getElem?_map] at hk
    cases hv : vids[k]? with
    | none => rw [hv] at hk; cases hk
    | some v => rw [hv] at hk; cases hk; exact ⟨v, rfl, rfl⟩
  refine ⟨fun i j p q hi hj hpq => ?_, fun k q hk => ?_⟩
  · obtain ⟨v, h1, h2⟩ := key i p hi
    obtain ⟨w, h3, h4⟩ := key j q hj
    have e : v = w := hcv v (List.mem_of_getElem? h1) w (List.mem_of_getElem? h3) (by rw [← h2, ← h4]; exact hpq)
    exact (List.getElem?_inj (List.getElem?_eq_some_iff.mp h1).1 vids_nd).mp (by rw [h1, h3, e])
  · obtain ⟨v, h1, h2⟩ := key k q hk
    exact ⟨v, List.mem_of_getElem? h1, h2⟩
theorem wl_set {cy : Nat → ClassId} {ad : Nat → Nat → Nat} {M : MM} {g c k : Nat} {f : Nat → Int32} (hk : vids[k]? = some (g, c)) : (wl cy ad M).set k (ad g c, E cy ad (g, c) f) = wl cy ad (gs M g (sc (M g) c f)) := by
  have hl : k < vids.length := (List.getElem?_eq_some_iff.mp hk).1
  apply List.ext_getElem?
  intro n
  by_cases hn : n = k
  · subst hn
    rw [List.getElem?_set_self (by unfold wl; rw [List.length_map]; exact hl)]
    unfold wl
    rw [List.getElem?_map, hk]
    simp [gs_at, sc_at]
  · rw [List.getElem?_set_ne (Ne.symm hn)]
    unfold wl
    rw [List.getElem?_map, List.getElem?_map]
    cases hv : vids[n]? with
    | none => rfl
    | some v =>
      have hne : v ≠ (g, c) := fun e => hn ((List.getElem?_inj (List.getElem?_eq_some_iff.mp hv).1 vids_nd).mp (by rw [hv, hk, e]))
      obtain ⟨g2, c2⟩ := v
      have e : gs M g (sc (M g) c f) g2 c2 = M g2 c2 := by
        by_cases h : g2 = g
        · subst h
          rw [gs_at, sc_ne (fun z => hne (by rw [z]))]
        · rw [gs_ne h]
      simp only [Option.map_some, e]

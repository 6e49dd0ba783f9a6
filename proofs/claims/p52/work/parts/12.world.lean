/-! ===== the abstract machine's heap laid at addresses: q gives each place its address, ty each kind of array its class ===== -/
def am_rv (q : Nat → Nat) (v : Value) : Value := match v with
  | .ref a => .ref (q a)
  | v => v
def am_ra (q : Nat → Nat) (a : vp_A) : vp_A := match a with
  | (n, .inr (.inr (.inr (.inr f)))) => (n, .inr (.inr (.inr (.inr (fun i => if i < n then (f i).map q else none)))))
  | a => a
def am_rc (q : Nat → Nat) (ty : Nat → ClassId) (c : am_C) : va_E := match c with
  | .inl o => .inl (ty o.1, am_ra q o.2)
  | .inr o => .inr (o.1, o.2.map (am_rv q))
def am_rz (q : Nat → Nat) (ty : Nat → ClassId) (h : am_H) : va_W := h.mapIdx (fun k c => (q k, am_rc q ty c))
def am_rl (q : Nat → Nat) (lv : am_L) : List (Nat × Value) := lv.map (fun x => (x.1, am_rv q x.2))
def am_ag (q q1 : Nat → Nat) (lo hi : Nat) : Prop := ∀ j, (j < lo ∨ hi ≤ j) → q1 j = q j
theorem am_rv_cat (q : Nat → Nat) (v : Value) : (am_rv q v).category = v.category := by cases v <;> rfl
theorem am_rz_get {q : Nat → Nat} {ty : Nat → ClassId} {h : am_H} {k : Nat} {c : am_C} (e : h[k]? = some c) : (am_rz q ty h)[k]? = some (q k, am_rc q ty c) := by
  unfold am_rz
  rw [List.getElem?_mapIdx, e]
  rfl
theorem am_rz_set {q : Nat → Nat} {ty : Nat → ClassId} {h : am_H} {k : Nat} {c : am_C} : (am_rz q ty h).set k (q k, am_rc q ty c) = am_rz q ty (h.set k c) := by
  apply List.ext_getElem?
  intro i
  unfold am_rz
  rw [List.getElem?_mapIdx, List.getElem?_set, List.getElem?_set, List.length_mapIdx]
  by_cases e : k = i
  · subst e
    by_cases h1 : k < h.length
    · simp [h1]
    · simp [h1]
  · simp [e, List.getElem?_mapIdx]
theorem am_get_mem {lv : am_L} {i : Nat} {v : Value} (e : am_get lv i = some v) : (i, v) ∈ lv := by
  induction lv with
  | nil => cases e
  | cons a r ih =>
    unfold am_get at e
    cases hb : Nat.beq a.1 i with
    | true =>
      rw [hb] at e
      cases e
      have := Nat.eq_of_beq_eq_true hb
      subst this
      exact List.mem_cons_self
    | false =>
      rw [hb] at e
      exact List.mem_cons_of_mem _ (ih e)
theorem am_has_get {q : Nat → Nat} {ls : Array Slot} {n : Nat} {lv : am_L} (g : lv_has ls n (am_rl q lv)) {i : Nat} {v : Value} (e : am_get lv i = some v) : ls[i]? = some (.val (am_rv q v)) :=
  g.2.2 (i, am_rv q v) (List.mem_map.mpr ⟨(i, v), am_get_mem e, rfl⟩)
theorem am_has_place {q : Nat → Nat} {lv : am_L} {i : Nat} {v : Value} (e : am_get lv i = some v) : ∃ k : Nat, (am_rl q lv)[k]? = some (i, am_rv q v) :=
  List.getElem?_of_mem (List.mem_map.mpr ⟨(i, v), am_get_mem e, rfl⟩)
theorem am_has_pick {q : Nat → Nat} {ls : Array Slot} {n : Nat} {lv : am_L} (ks : Option (List Nat)) (g : lv_has ls n (am_rl q lv)) : lv_has ls n (am_rl q (am_pick ks lv)) := by
  refine ⟨g.1, g.2.1, fun x hx => ?_⟩
  obtain ⟨y, hy, rfl⟩ := List.mem_map.mp hx
  refine g.2.2 _ (List.mem_map.mpr ⟨y, ?_, rfl⟩)
  cases ks with
  | none => exact hy
  | some ks =>
    obtain ⟨k, -, hk⟩ := List.mem_filterMap.mp hy
    exact List.mem_of_find?_eq_some hk
theorem am_rl_set1 {q : Nat → Nat} {i : Nat} {v : Value} {lv : am_L} : (i, am_rv q v) :: (am_rl q lv).filter (fun x => !(x.1 == i) && !(x.1 + 1 == i && x.2.category == 2)) = am_rl q (am_set1 i v lv) := by
  unfold am_set1 am_rl
  rw [List.map_cons, List.filter_map]
  congr 2
  apply List.filter_congr
  intro x _
  simp [Function.comp, am_rv_cat]
theorem am_rl_set2 {q : Nat → Nat} {i : Nat} {v : Value} {lv : am_L} : (i, am_rv q v) :: (am_rl q lv).filter (fun x => !(x.1 == i) && (!(x.1 == i + 1) && !(x.1 + 1 == i && x.2.category == 2))) = am_rl q (am_set2 i v lv) := by
  unfold am_set2 am_rl
  rw [List.map_cons, List.filter_map]
  congr 2
  apply List.filter_congr
  intro x _
  simp [Function.comp, am_rv_cat]
theorem am_nr_rv {q q1 : Nat → Nat} {lo hi : Nat} (g : ∀ j, (j < lo ∨ hi ≤ j) → q1 j = q j) {v : Value} (e : am_nr lo hi v = true) : am_rv q1 v = am_rv q v := by
  cases v with
  | ref a =>
    have h1 : a < lo ∨ hi ≤ a := by
      rcases Nat.lt_or_ge a lo with h | h
      · exact Or.inl h
      · right
        rcases Nat.lt_or_ge a hi with h2 | h2
        · exfalso
          have e1 : Nat.ble lo a = true := Nat.ble_eq.mpr h
          have e2 : Nat.ble (a + 1) hi = true := Nat.ble_eq.mpr h2
          simp only [am_nr, e1, e2] at e
          cases e
        · exact h2
    show Value.ref (q1 a) = Value.ref (q a)
    rw [g a h1]
  | _ => rfl
theorem am_nl_rl {q q1 : Nat → Nat} {lo hi : Nat} (g : ∀ j, (j < lo ∨ hi ≤ j) → q1 j = q j) {lv : am_L} (e : lv.all (fun x => am_nr lo hi x.2) = true) : am_rl q1 lv = am_rl q lv := by
  unfold am_rl
  apply List.map_congr_left
  intro x hx
  rw [am_nr_rv g (List.all_eq_true.mp e x hx)]
theorem am_ns_rv {q q1 : Nat → Nat} {lo hi : Nat} (g : ∀ j, (j < lo ∨ hi ≤ j) → q1 j = q j) {st : List Value} (e : st.all (am_nr lo hi) = true) : st.map (am_rv q1) = st.map (am_rv q) := by
  apply List.map_congr_left
  intro x hx
  exact am_nr_rv g (List.all_eq_true.mp e x hx)
theorem am_nc_rc {q q1 : Nat → Nat} {ty : Nat → ClassId} {lo hi : Nat} (g : ∀ j, (j < lo ∨ hi ≤ j) → q1 j = q j) {c : am_C} (e : am_nc lo hi c = true) : am_rc q1 ty c = am_rc q ty c := by
  cases c with
  | inr o =>
    show Sum.inr (o.1, o.2.map (am_rv q1)) = Sum.inr (o.1, o.2.map (am_rv q))
    rw [am_ns_rv g e]
  | inl o =>
    obtain ⟨t, n, z⟩ := o
    show Sum.inl (ty t, am_ra q1 (n, z)) = Sum.inl (ty t, am_ra q (n, z))
    congr 2
    match z, e with
    | .inl f, _ => rfl
    | .inr (.inl f), _ => rfl
    | .inr (.inr (.inl f)), _ => rfl
    | .inr (.inr (.inr (.inl f))), _ => rfl
    | .inr (.inr (.inr (.inr f))), e =>
      show (n, _) = (n, _)
      congr 5
      funext i
      by_cases hi2 : i < n
      · rw [if_pos hi2, if_pos hi2]
        have e2 := List.all_eq_true.mp e i (List.mem_range.mpr hi2)
        cases hf : f i with
        | none => rfl
        | some a =>
          rw [hf] at e2
          have h9 : Value.ref (q1 a) = Value.ref (q a) := am_nr_rv (q := q) (q1 := q1) g (v := .ref a) e2
          have h8 : q1 a = q a := by injection h9
          show some (q1 a) = some (q a)
          rw [h8]
      · rw [if_neg hi2, if_neg hi2]
theorem am_nh_rz {q q1 : Nat → Nat} {ty : Nat → ClassId} {lo hi : Nat} (g : ∀ j, (j < lo ∨ hi ≤ j) → q1 j = q j) {h : am_H} (hl : h.length ≤ lo) (e : h.all (am_nc lo hi) = true) : am_rz q1 ty h = am_rz q ty h := by
  apply List.ext_getElem?
  intro i
  unfold am_rz
  rw [List.getElem?_mapIdx, List.getElem?_mapIdx]
  cases hi2 : h[i]? with
  | none => rfl
  | some c =>
    have h1 : i < h.length := (List.getElem?_eq_some_iff.mp hi2).1
    show some (q1 i, am_rc q1 ty c) = some (q i, am_rc q ty c)
    rw [g i (Or.inl (by omega)), am_nc_rc g (List.all_eq_true.mp e c (List.mem_of_getElem? hi2))]
theorem am_rz_app {q : Nat → Nat} {ty : Nat → ClassId} {h : am_H} {c : am_C} : am_rz q ty (h ++ [c]) = am_rz q ty h ++ [(q h.length, am_rc q ty c)] := by
  unfold am_rz
  rw [List.mapIdx_append]
  simp

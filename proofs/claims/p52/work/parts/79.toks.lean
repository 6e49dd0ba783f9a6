/-! ===== tokens and codes: what the two readers of texts need of them ===== -/
/-- what a token can be -/
abbrev TV (k v : Nat) : Prop := (k ≤ 7 ∨ isS k = true) ∧ (k = 1 → v ≤ 9999) ∧ (k = 2 → v ≤ 5) ∧ (k = 3 → v ≤ 2)
theorem wi_v (l : List Nat) : TV (wi l).1 (wi l).2 ∧ ¬ (wi l).1 = 0 := by
  unfold wi
  by_cases c0 : l = [116, 97, 107, 101, 115]
  · rw [if_pos c0]; decide
  rw [if_neg c0]
  by_cases c1 : l = [115, 97, 119, 115]
  · rw [if_pos c1]; decide
  rw [if_neg c1]
  by_cases c2 : l = [109, 105, 110, 100, 115]
  · rw [if_pos c2]; decide
  rw [if_neg c2]
  by_cases c3 : l = [111, 114]
  · rw [if_pos c3]; decide
  rw [if_neg c3]
  by_cases c4 : l = [97, 110, 100]
  · rw [if_pos c4]; decide
  rw [if_neg c4]
  by_cases c5 : l = [110, 111, 116]
  · rw [if_pos c5]; decide
  rw [if_neg c5]
  by_cases c6 : l = [109, 111, 114, 101]
  · rw [if_pos c6]; decide
  rw [if_neg c6]
  by_cases c7 : l = [115, 111, 114, 116]
  · rw [if_pos c7]; decide
  rw [if_neg c7]
  by_cases c8 : l = [104, 111, 117, 114]
  · rw [if_pos c8]; decide
  rw [if_neg c8]
  by_cases c9 : l = [116, 104, 105, 110, 103]
  · rw [if_pos c9]; decide
  rw [if_neg c9]
  by_cases c10 : l = [109, 97, 110, 121]
  · rw [if_pos c10]; decide
  rw [if_neg c10]
  by_cases c11 : l = [107, 105, 110, 100]
  · rw [if_pos c11]; decide
  rw [if_neg c11]
  decide
theorem nvN_lt {x : Nat → Nat} {b : Nat} : ∀ j, (∀ i, i < j → isD (x (b + i)) = true) → nvN x b j < 10 ^ j
  | 0, _ => by rw [nvN]; decide
  | j + 1, h => by
    have h1 := nvN_lt j (fun i hi => h i (by omega))
    have h2 := h j (by omega)
    unfold isD at h2
    rw [Bool.and_eq_true] at h2
    have h3 := Nat.le_of_ble_eq_true h2.1
    have h4 := Nat.le_of_ble_eq_true h2.2
    rw [nvN, Nat.pow_succ]
    omega
theorem spn_1 {x : Nat → Nat} {q : Nat → Bool} {d p : Nat} (h : q (x p) = true) (hd : 0 < d) : p < spn x q d p := by
  obtain ⟨d, rfl⟩ : ∃ j, d = j + 1 := ⟨d - 1, by omega⟩
  rw [spn, h, cond_true]
  exact spn_ge d (p + 1)
/-- a token: where it lies -/
theorem lx_ok (x : Nat → Nat) {z p : Nat} (hp : p ≤ z) : p ≤ (lx x z p).1 ∧ (lx x z p).1 ≤ (lx x z p).2.1 ∧ (lx x z p).2.1 ≤ z ∧ (¬ (lx x z p).2.2.1 = 0 → (lx x z p).1 < (lx x z p).2.1) ∧ TV (lx x z p).2.2.1 (lx x z p).2.2.2 := by
  have hb1 := spn_ge (x := x) (q := isB) (z - p) p
  have hb2 := spn_le (x := x) (q := isB) (z - p) p
  generalize hb : spn x isB (z - p) p = b at hb1 hb2
  by_cases hbz : z ≤ b
  · rw [lx_end hb hbz]
    exact ⟨hb1, Nat.le_refl _, by show b ≤ z; omega, fun q => absurd rfl q, (by decide : TV 0 0)⟩
  · cases hL : isL (x b) with
    | true =>
      have he0 := spn_1 (x := x) (q := isL) (d := z - b) (p := b) hL (by omega)
      have he2 := spn_le (x := x) (q := isL) (z - b) b
      rw [lx_word hb hbz hL]
      generalize spn x isL (z - b) b = e at he0 he2
      exact ⟨hb1, Nat.le_of_lt he0, by show e ≤ z; omega, fun _ => he0, (wi_v _).1⟩
    | false =>
      cases hD : isD (x b) with
      | true =>
        have he0 := spn_1 (x := x) (q := isD) (d := z - b) (p := b) hD (by omega)
        have he2 := spn_le (x := x) (q := isD) (z - b) b
        have he3 := spn_q (x := x) (q := isD) (z - b) b
        rw [lx_num hb hbz hL hD]
        generalize spn x isD (z - b) b = e at he0 he2 he3
        by_cases q : e - b ≤ 4
        · rw [if_pos q]
          refine ⟨hb1, Nat.le_of_lt he0, by show e ≤ z; omega, fun _ => he0, Or.inl (by decide : 1 ≤ 7), fun _ => ?_, fun r => (by cases r), fun r => (by cases r)⟩
          have t := nvN_lt (x := x) (b := b) (e - b) (fun i hi => he3 (b + i) (by omega) (by omega))
          have t2 : 10 ^ (e - b) ≤ 10 ^ 4 := Nat.pow_le_pow_right (by omega) q
          show nvN x b (e - b) ≤ 9999
          omega
        · rw [if_neg q]
          exact ⟨hb1, Nat.le_of_lt he0, by show e ≤ z; omega, fun _ => he0, (by decide : TV 7 0)⟩
      | false =>
        rw [lx_sign hb hbz hL hD]
        cases hS : isS (x b) with
        | false => exact ⟨hb1, Nat.le_succ _, by show b + 1 ≤ z; omega, fun _ => Nat.lt_succ_self _, (by decide : TV 7 0)⟩
        | true =>
          refine ⟨hb1, Nat.le_succ _, by show b + 1 ≤ z; omega, fun _ => Nat.lt_succ_self _, Or.inr ?_, fun r => ?_, fun r => ?_, fun r => ?_⟩
          · rw [cond_true]; exact hS
          all_goals (have r : x b = _ := r; rw [r] at hS; cases hS)
/-- its numbers in the class -/
theorem ctk_v {k v : Nat} (h : TV k v) : (k = 0 ∧ ctk k v = 308) ∨ (k = 1 ∧ ctk k v = 307) ∨ (k = 2 ∧ ctk k v = 306) ∨ (k = 3 ∧ ctk k v = 300 + v ∧ v ≤ 2) ∨ (k = 4 ∧ ctk k v = 303) ∨ (k = 5 ∧ ctk k v = 304) ∨ (k = 6 ∧ ctk k v = 305) ∨ (k = 7 ∧ ctk k v = 309) ∨ (40 ≤ k ∧ k ≤ 61 ∧ ctk k v = k) := by
  obtain ⟨h1, -, -, h4⟩ := h
  rcases h1 with h1 | h1
  · match k, h1 with
    | 0, _ => exact Or.inl ⟨rfl, rfl⟩
    | 1, _ => exact Or.inr (Or.inl ⟨rfl, rfl⟩)
    | 2, _ => exact Or.inr (Or.inr (Or.inl ⟨rfl, rfl⟩))
    | 3, _ => exact Or.inr (Or.inr (Or.inr (Or.inl ⟨rfl, rfl, h4 rfl⟩)))
    | 4, _ => exact Or.inr (Or.inr (Or.inr (Or.inr (Or.inl ⟨rfl, rfl⟩))))
    | 5, _ => exact Or.inr (Or.inr (Or.inr (Or.inr (Or.inr (Or.inl ⟨rfl, rfl⟩)))))
    | 6, _ => exact Or.inr (Or.inr (Or.inr (Or.inr (Or.inr (Or.inr (Or.inl ⟨rfl, rfl⟩))))))
    | 7, _ => exact Or.inr (Or.inr (Or.inr (Or.inr (Or.inr (Or.inr (Or.inr (Or.inl ⟨rfl, rfl⟩)))))))
  · unfold isS at h1
    simp only [Bool.or_eq_true, nbt] at h1
    refine Or.inr (Or.inr (Or.inr (Or.inr (Or.inr (Or.inr (Or.inr (Or.inr ⟨by omega, by omega, ?_⟩)))))))
    rcases h1 with h | h | h | h | h | h | h | h <;> (subst h; rfl)
theorem dtk_e {k c : Nat} (hk : k < 2 ^ 31) (hc : c < 2 ^ 31) (h7 : ¬ c = 7) : dtk k = nI c ↔ k = c := by
  unfold dtk
  by_cases h : k = 7
  · rw [if_pos h]
    refine ⟨fun q => absurd (show nI c < 0 from ?_) (nI_pos hc), fun q => by omega⟩
    rw [← q]; decide
  · rw [if_neg h]
    exact nI_eq hk hc
theorem dti {α : Type} {k c : Nat} {A B : α} (hk : k < 2 ^ 31) (hc : c < 2 ^ 31) (h7 : ¬ c = 7) : (if dtk k = nI c then A else B) = if k = c then A else B := by
  by_cases h : k = c
  · rw [if_pos h, if_pos ((dtk_e hk hc h7).mpr h)]
  · rw [if_neg h, if_neg (fun q => h ((dtk_e hk hc h7).mp q))]
theorem dti_t {α : Type} {k c : Nat} {A B : α} (h : k = c) (hk : k < 2 ^ 31) (h7 : ¬ c = 7) : (if dtk k = nI c then A else B) = A := by
  rw [dti hk (h ▸ hk) h7, if_pos h]
theorem dti_f {α : Type} {k c : Nat} {A B : α} (h : ¬ k = c) (hk : k < 2 ^ 31) (hc : c < 2 ^ 31) (h7 : ¬ c = 7) : (if dtk k = nI c then A else B) = B := by
  rw [dti hk hc h7, if_neg h]
/-- which rank a token joins, what sign it is -/
def jl (k : Nat) : Nat := if k = 4 then 0 else if k = 5 then 1 else if k = 60 then 2 else if k = 61 then 2 else if k = 43 then 3 else if k = 45 then 3 else if k = 42 then 4 else 9
def sg (k : Nat) : Nat := if k = 4 then 11 else if k = 5 then 12 else if k = 60 then 14 else if k = 61 then 15 else if k = 43 then 16 else if k = 45 then 17 else if k = 42 then 18 else 0
/-- how a sign binds -/
def rk (c : Nat) : Nat := if c = 0 then 0 else if c = 11 then 1 else if c = 12 then 2 else if c = 13 then 3 else if 15 < c then (if 17 < c then (if c = 18 then 6 else 7) else 5) else 4
theorem jl_c (k : Nat) : (k = 4 ∧ jl k = 0 ∧ sg k = 11) ∨ (k = 5 ∧ jl k = 1 ∧ sg k = 12) ∨ (k = 60 ∧ jl k = 2 ∧ sg k = 14) ∨ (k = 61 ∧ jl k = 2 ∧ sg k = 15) ∨ (k = 43 ∧ jl k = 3 ∧ sg k = 16) ∨ (k = 45 ∧ jl k = 3 ∧ sg k = 17) ∨ (k = 42 ∧ jl k = 4 ∧ sg k = 18) ∨ (¬ k = 4 ∧ ¬ k = 5 ∧ ¬ k = 60 ∧ ¬ k = 61 ∧ ¬ k = 43 ∧ ¬ k = 45 ∧ ¬ k = 42 ∧ jl k = 9) := by
  by_cases h1 : k = 4
  · subst h1; exact Or.inl ⟨rfl, rfl, rfl⟩
  by_cases h2 : k = 5
  · subst h2; exact Or.inr (Or.inl ⟨rfl, rfl, rfl⟩)
  by_cases h3 : k = 60
  · subst h3; exact Or.inr (Or.inr (Or.inl ⟨rfl, rfl, rfl⟩))
  by_cases h4 : k = 61
  · subst h4; exact Or.inr (Or.inr (Or.inr (Or.inl ⟨rfl, rfl, rfl⟩)))
  by_cases h5 : k = 43
  · subst h5; exact Or.inr (Or.inr (Or.inr (Or.inr (Or.inl ⟨rfl, rfl, rfl⟩))))
  by_cases h6 : k = 45
  · subst h6; exact Or.inr (Or.inr (Or.inr (Or.inr (Or.inr (Or.inl ⟨rfl, rfl, rfl⟩)))))
  by_cases h7 : k = 42
  · subst h7; exact Or.inr (Or.inr (Or.inr (Or.inr (Or.inr (Or.inr (Or.inl ⟨rfl, rfl, rfl⟩))))))
  refine Or.inr (Or.inr (Or.inr (Or.inr (Or.inr (Or.inr (Or.inr ⟨h1, h2, h3, h4, h5, h6, h7, ?_⟩))))))
  unfold jl
  rw [if_neg h1, if_neg h2, if_neg h3, if_neg h4, if_neg h5, if_neg h6, if_neg h7]
/-- what a sign of a rank is -/
theorem sg_r {k r : Nat} (h : jl k = r) (hr : r ≤ 4) : 4 ≤ k ∧ k ≤ 61 ∧ 11 ≤ sg k ∧ sg k ≤ 18 ∧ ¬ sg k = 13 ∧ rk (sg k) = [1, 2, 4, 5, 6].getD r 0 ∧ (sg k ≤ 12 ↔ r ≤ 1) := by
  rcases jl_c k with ⟨h1, h2, h3⟩ | ⟨h1, h2, h3⟩ | ⟨h1, h2, h3⟩ | ⟨h1, h2, h3⟩ | ⟨h1, h2, h3⟩ | ⟨h1, h2, h3⟩ | ⟨h1, h2, h3⟩ | ⟨-, -, -, -, -, -, -, h2⟩
  all_goals first | omega | (rw [h3]; obtain rfl : r = _ := h.symm.trans h2; exact ⟨by omega, by omega, by decide, by decide, by decide, by decide, by decide⟩)
/-! sequences of codes, stacks of signs -/
def SQ (g : Nat → Int32) : List Nat → Nat → (Nat → Int32) → Prop
  | [], _, _ => True
  | c :: cs, q, f => f q = g c ∧ SQ g cs (q + 1) f
def STK : List Nat → (Nat → Int32) → Prop
  | [], _ => True
  | a :: H, f => f H.length = nI a ∧ STK H f
/-- how many of not and of - before one -/
def cn19 : List Nat → Nat
  | [] => 0
  | a :: H => cn19 H + (if a = 13 then 1 else if a = 19 then 1 else 0)
def TOP (l : Nat) : List Nat → Prop
  | [] => True
  | a :: _ => a < 20 ∧ rk a < l
def RK (l : Nat) (A : List Nat) : Prop := ∀ c, c ∈ A → c < 20 ∧ l ≤ rk c
def hl : List Nat → Nat → Option Nat
  | [], d => some d
  | c :: cs, d => (hgt c d).bind (hl cs)
section
variable {g : Nat → Int32} {f f2 : Nat → Int32}
theorem SQ_ap : ∀ {a b : List Nat} {q : Nat}, SQ g (a ++ b) q f ↔ SQ g a q f ∧ SQ g b (q + a.length) f
  | [], b, q => ⟨fun h => ⟨trivial, h⟩, fun h => h.2⟩
  | c :: a, b, q => by
    show (f q = g c ∧ SQ g (a ++ b) (q + 1) f) ↔ (f q = g c ∧ SQ g a (q + 1) f) ∧ SQ g b (q + (a.length + 1)) f
    rw [SQ_ap (a := a), show q + 1 + a.length = q + (a.length + 1) from by omega]
    exact ⟨fun h => ⟨⟨h.1, h.2.1⟩, h.2.2⟩, fun h => ⟨h.1.1, h.1.2, h.2⟩⟩
theorem SQ_fr : ∀ {a : List Nat} {q : Nat}, (∀ i, q ≤ i → i < q + a.length → f2 i = f i) → SQ g a q f → SQ g a q f2
  | [], _, _, _ => trivial
  | c :: a, q, h, k => ⟨(h q (Nat.le_refl q) (by show q < q + (a.length + 1); omega)).trans k.1, SQ_fr (fun i h1 h2 => h i (by omega) (by show i < q + (a.length + 1); omega)) k.2⟩
theorem SQ_at : ∀ {a : List Nat} {q i : Nat}, SQ g a q f → i < a.length → f (q + i) = g (a.getD i 0)
  | [], _, _, _, h => absurd h (Nat.not_lt_zero _)
  | c :: a, q, 0, k, _ => k.1
  | c :: a, q, i + 1, k, h => by
    have := SQ_at (i := i) k.2 (Nat.lt_of_succ_lt_succ h)
    rw [show q + 1 + i = q + (i + 1) from by omega] at this
    exact this
theorem STK_fr : ∀ {H : List Nat}, (∀ i, i < H.length → f2 i = f i) → STK H f → STK H f2
  | [], _, _ => trivial
  | a :: H, h, k => ⟨(h _ (Nat.lt_succ_self _)).trans k.1, STK_fr (fun i hi => h i (Nat.lt_succ_of_lt hi)) k.2⟩
theorem TOP_m {a b : Nat} {H : List Nat} (h : a ≤ b) (k : TOP a H) : TOP b H := by
  cases H with
  | nil => trivial
  | cons c H => exact ⟨k.1, Nat.lt_of_lt_of_le k.2 h⟩
theorem RK_m {a b : Nat} {H : List Nat} (h : a ≤ b) (k : RK b H) : RK a H := fun c hc => ⟨(k c hc).1, Nat.le_trans h (k c hc).2⟩
theorem RK_n {a : Nat} : RK a [] := fun _ h => (by cases h)
theorem RK_ap {l : Nat} {A B : List Nat} (h : RK l A) (k : RK l B) : RK l (A ++ B) := fun c hc => by
  rcases List.mem_append.mp hc with q | q
  · exact h c q
  · exact k c q
theorem RK_1 {l c : Nat} (h : c < 20) (k : l ≤ rk c) : RK l [c] := fun d hd => by
  rw [List.mem_singleton.mp hd]; exact ⟨h, k⟩
theorem cn_ap : ∀ {A B : List Nat}, cn19 (A ++ B) = cn19 A + cn19 B
  | [], B => (Nat.zero_add _).symm
  | a :: A, B => by
    show cn19 (A ++ B) + _ = cn19 A + _ + cn19 B
    rw [cn_ap (A := A)]
    omega
theorem hl_ap : ∀ {a b : List Nat} {d : Nat}, hl (a ++ b) d = (hl a d).bind (hl b)
  | [], b, d => rfl
  | c :: a, b, d => by
    show (hgt c d).bind (hl (a ++ b)) = ((hgt c d).bind (hl a)).bind (hl b)
    cases hgt c d with
    | none => rfl
    | some e => exact hl_ap (a := a)
theorem hl_t {a b : List Nat} {d e : Nat} (h : hl a d = some e) : hl (a ++ b) d = hl b e := by
  rw [hl_ap, h]; rfl
theorem hl_hts {c : Nat → Nat} : ∀ {cs : List Nat} {s d : Nat}, hl cs d = some 1 → (∀ i, i < cs.length → c (s + i) = cs.getD i 0) → hts c cs.length s d
  | [], s, d, h, _ => by
    show d = 1
    exact Option.some.inj h
  | a :: cs, s, d, h, k => by
    have h : (hgt a d).bind (hl cs) = some 1 := h
    have k0 : c s = a := k 0 (Nat.succ_pos _)
    cases he : hgt a d with
    | none => rw [he] at h; cases h
    | some e =>
      rw [he] at h
      refine ⟨e, by rw [k0]; exact he, hl_hts h (fun i hi => ?_)⟩
      rw [show s + 1 + i = s + (i + 1) from by omega]
      exact k (i + 1) (Nat.succ_lt_succ hi)
end
theorem hgt_num {v d : Nat} (hv : v ≤ 9999) (hd : d + 1 ≤ 64) : hgt (100000 + v) d = some (d + 1) := by
  unfold hgt
  rw [Nat.ble_eq_true_of_le (by omega : 100000 ≤ 100000 + v), Nat.ble_eq_true_of_le (by omega : 100000 + v ≤ 109999), Nat.ble_eq_true_of_le hd]; rfl
theorem hgt_nam {v d : Nat} (hv : v ≤ 5) (hd : d + 1 ≤ 64) : hgt v d = some (d + 1) := by
  unfold hgt
  rw [Nat.ble_eq_true_of_le hv, Bool.or_true, Nat.ble_eq_true_of_le hd]; rfl
theorem hgt_un {c d : Nat} (hc : c = 13 ∨ c = 19) : hgt c (d + 1) = some (d + 1) := by
  rcases hc with rfl | rfl
  · unfold hgt
    rw [Nat.ble_eq_true_of_le (by omega : 1 ≤ d + 1)]; rfl
  · unfold hgt
    rw [Nat.ble_eq_true_of_le (by omega : 1 ≤ d + 1)]; rfl
theorem hgt_bin {c d : Nat} (h1 : 11 ≤ c) (h2 : c ≤ 18) (h3 : ¬ c = 13) : hgt c (d + 2) = some (d + 1) := by
  have e2 : Nat.ble 2 (d + 2) = true := Nat.ble_eq_true_of_le (by omega)
  have e1 : Nat.ble 1 (d + 2) = true := Nat.ble_eq_true_of_le (by omega)
  have h : c = 11 ∨ c = 12 ∨ c = 14 ∨ c = 15 ∨ c = 16 ∨ c = 17 ∨ c = 18 := by omega
  rcases h with rfl | rfl | rfl | rfl | rfl | rfl | rfl <;> (unfold hgt; rw [e2]; rfl)

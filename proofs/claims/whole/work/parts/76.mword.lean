/-! ===== the model's words, and its next token ===== -/
/-- the model's words in their order -/
def MW : List (List Nat) := [[116, 97, 107, 101, 115], [115, 97, 119, 115], [109, 105, 110, 100, 115], [109, 111, 114, 101], [115, 111, 114, 116], [104, 111, 117, 114], [116, 104, 105, 110, 103], [109, 97, 110, 121], [107, 105, 110, 100], [111, 114], [97, 110, 100], [110, 111, 116]]
def mr (i : Nat) : List Nat := MW.getD i [] ++ List.replicate (8 - (MW.getD i []).length) 32
/-- letters from a on, then blanks, against a row -/
def pe (x : Nat → Nat) (e : Nat) : Nat → List Nat → Bool
  | _, [] => true
  | a, c :: cs => Nat.beq c (if e ≤ a then 32 else x a) && pe x e (a + 1) cs
/-- the first of the words that the letters are -/
def fiw (l : List Nat) : List (List Nat) → Nat → Nat
  | [], k => k
  | W :: Ws, k => if l = W then k else fiw l Ws (k + 1)
section
variable {x : Nat → Nat} {z : Nat} {w : am_W}
theorem lts_n {a e : Nat} (h : e ≤ a) : lts x a e = [] := by
  unfold lts
  rw [Nat.sub_eq_zero_of_le h]; rfl
theorem pe_b {e : Nat} : ∀ (r a : Nat), (∀ t, a ≤ t → t < e → ¬ x t = 32) → e - a ≤ r → (pe x e a (List.replicate r 32) = true ↔ e ≤ a)
  | 0, a, hx, hr => ⟨fun _ => by omega, fun _ => rfl⟩
  | r + 1, a, hx, hr => by
    show (Nat.beq 32 (if e ≤ a then 32 else x a) && pe x e (a + 1) (List.replicate r 32)) = true ↔ _
    by_cases q : e ≤ a
    · rw [if_pos q, show Nat.beq 32 32 = true from rfl, Bool.true_and, pe_b r (a + 1) (fun t h1 h2 => hx t (by omega) h2) (by omega)]
      exact ⟨fun _ => q, fun _ => by omega⟩
    · rw [if_neg q, nbf (fun u => hx a (Nat.le_refl a) (by omega) u.symm), Bool.false_and]
      exact ⟨(fun u => nomatch u), (fun u => absurd u q)⟩
theorem pe_w {e : Nat} : ∀ (W : List Nat) (r a : Nat), (∀ t, a ≤ t → t < e → ¬ x t = 32) → (∀ c, c ∈ W → ¬ c = 32) → e - a ≤ W.length + r → (pe x e a (W ++ List.replicate r 32) = true ↔ lts x a e = W)
  | [], r, a, hx, hW, hr => by
    rw [List.nil_append, pe_b r a hx (by rw [List.length_nil] at hr; omega)]
    refine ⟨fun q => lts_n q, fun q => ?_⟩
    by_cases h : a < e
    · rw [lts_c h] at q; cases q
    · omega
  | c :: W, r, a, hx, hW, hr => by
    rw [List.length_cons] at hr
    show (Nat.beq c (if e ≤ a then 32 else x a) && pe x e (a + 1) (W ++ List.replicate r 32)) = true ↔ _
    by_cases q : e ≤ a
    · rw [if_pos q, nbf (hW c (List.mem_cons_self ..)), Bool.false_and, lts_n q]
      exact ⟨(fun u => nomatch u), (fun u => nomatch u)⟩
    · rw [if_neg q, lts_c (by omega), Bool.and_eq_true, nbt, pe_w W r (a + 1) (fun t h1 h2 => hx t (by omega) h2) (fun c hc => hW c (List.mem_cons_of_mem _ hc)) (by omega)]
      exact ⟨fun u => by rw [u.1, u.2], fun u => ⟨(List.cons.inj u).1.symm, (List.cons.inj u).2⟩⟩
theorem mr_all : ((List.range 12).all fun i => (List.range 8).all fun j => decide (([116, 97, 107, 101, 115, 32, 32, 32, 115, 97, 119, 115, 32, 32, 32, 32, 109, 105, 110, 100, 115, 32, 32, 32, 109, 111, 114, 101, 32, 32, 32, 32, 115, 111, 114, 116, 32, 32, 32, 32, 104, 111, 117, 114, 32, 32, 32, 32, 116, 104, 105, 110, 103, 32, 32, 32, 109, 97, 110, 121, 32, 32, 32, 32, 107, 105, 110, 100, 32, 32, 32, 32, 111, 114, 32, 32, 32, 32, 32, 32, 97, 110, 100, 32, 32, 32, 32, 32, 110, 111, 116, 32, 32, 32, 32, 32] : List Int32).getD (8 * i + j) 0 = nI ((mr i).getD j 0)) && Nat.ble ((mr i).getD j 0) 255) = true := by decide +kernel
theorem ABC_r (h : ABC w) {i j : Nat} (hi : i < 12) (hj : j < 8) : w.1 66 (8 * i + j) = nI ((mr i).getD j 0) ∧ (mr i).getD j 0 < 256 := by
  have h1 := List.all_eq_true.mp (List.all_eq_true.mp mr_all i (List.mem_range.mpr hi)) j (List.mem_range.mpr hj)
  rw [Bool.and_eq_true, decide_eq_true_eq] at h1
  have := Nat.le_of_ble_eq_true h1.2
  exact ⟨(h (8 * i + j) (by omega)).trans h1.1, by omega⟩
/-- a row against the letters -/
theorem D_row (h : DT x z w) (hA : ABC w) {p e i : Nat} (hi : i < 12) (he : e ≤ z) (hp : p ≤ e) (r2 : Int32 → Int32 → Int32 → am_W → Option (Int32 × am_W)) : ∀ (d j F : Nat) (cs : List Nat) (sm : Bool), j + d = 8 → cs.length = d → (∀ t, t < d → (mr i).getD (j + t) 0 = cs.getD t 0) → d < F → L_Mod_wordFrom_26 r2 F (nI p) (nI e) (nI i) (bi sm) (nI j) w = F_Mod_wordFrom_88 r2 (nI p) (nI e) (nI i) (bi (sm && pe x e (p + j) cs)) w := by
  have hz := h.1
  intro d
  induction d with
  | zero =>
    intro j F cs sm hj hl hc hF
    obtain ⟨F, rfl⟩ : ∃ j, F = j + 1 := ⟨F - 1, by omega⟩
    have : cs = [] := List.length_eq_zero_iff.mp hl
    subst this
    show F_Mod_wordFrom_26 _ _ _ _ _ _ _ _ = _
    unfold F_Mod_wordFrom_26
    rw [ile_t (by omega) (by omega), show pe x e (p + j) [] = true from rfl, Bool.and_true]
  | succ d ih =>
    intro j F cs sm hj hl hc hF
    obtain ⟨F, rfl⟩ : ∃ j, F = j + 1 := ⟨F - 1, by omega⟩
    cases cs with
    | nil => cases hl
    | cons c cs =>
      have hl : cs.length = d := Nat.succ.inj hl
      obtain ⟨g1, g2⟩ := ABC_r hA hi (show j < 8 by omega)
      have g0 : (mr i).getD j 0 = c := hc 0 (by omega)
      rw [g0] at g1 g2
      have nx : ∀ b : Bool, L_Mod_wordFrom_26 r2 F (nI p) (nI e) (nI i) (bi b) (nI (j + 1)) w = F_Mod_wordFrom_88 r2 (nI p) (nI e) (nI i) (bi (b && pe x e (p + (j + 1)) cs)) w := fun b => ih (j + 1) F cs b (by omega) hl (fun t ht => by
        have := hc (t + 1) (by omega)
        rw [show j + (t + 1) = j + 1 + t from by omega] at this
        exact this) (by omega)
      have nx0 : L_Mod_wordFrom_26 r2 F (nI p) (nI e) (nI i) (nI 0) (nI (j + 1)) w = F_Mod_wordFrom_88 r2 (nI p) (nI e) (nI i) (bi false) w := nx false
      have nx1 : L_Mod_wordFrom_26 r2 F (nI p) (nI e) (nI i) (nI 1) (nI (j + 1)) w = F_Mod_wordFrom_88 r2 (nI p) (nI e) (nI i) (bi (pe x e (p + (j + 1)) cs)) w := nx true
      show F_Mod_wordFrom_26 _ _ _ _ _ _ _ _ = _
      unfold F_Mod_wordFrom_26
      rw [ile_f (by omega) (by omega)]
      cases sm with
      | false => exact iz_t rfl
      | true =>
        rw [if_neg (show ¬ bi true = 0 by decide), pk_mul, nI_add, in_nI (by omega : 8 * i + j < 96) (by omega), am_ckT, nI_add, nI_clamp (by omega), g1]
        have fin : ∀ y, y < 256 → F_Mod_wordFrom_72 r2 (L_Mod_wordFrom_26 r2 F) (nI p) (nI e) (nI i) (nI j) (nI y) (nI c) w = F_Mod_wordFrom_88 r2 (nI p) (nI e) (nI i) (bi (Nat.beq c y && pe x e (p + j + 1) cs)) w := fun y hy => by
          unfold F_Mod_wordFrom_72 F_Mod_wordFrom_80
          rw [ieq_b (by omega) (by omega), nI_add, nx0, nx1]
          cases Nat.beq c y <;> rfl
        rw [Bool.true_and, pe]
        by_cases q : e ≤ p + j
        · rw [ile_t q (by omega), if_pos q]
          exact fin 32 (by omega)
        · obtain ⟨k1, k2⟩ := h.2.2 (p + j) (by omega)
          rw [ile_f (by omega) (by omega), if_neg q, in_nI (by omega : p + j < 160) (by omega), am_ckT, nI_clamp (by omega), k1]
          exact fin (x (p + j)) k2
theorem mr_len : ((List.range 12).all fun i => Nat.beq (mr i).length 8 && (MW.getD i []).all fun c => !(Nat.beq c 32)) = true := by decide +kernel
theorem mw_len : ((List.range 12).all fun i => Nat.ble (MW.getD i []).length 8) = true := by decide +kernel
theorem D_wf (h : DT x z w) (hA : ABC w) {p e : Nat} (he : e ≤ z) (hp : p ≤ e) (hx : ∀ t, p ≤ t → t < e → ¬ x t = 32) : ∀ (Ws : List (List Nat)) (i F : Nat), i + Ws.length = 12 → (∀ t, t < Ws.length → MW.getD (i + t) [] = Ws.getD t []) → Ws.length < F → L_Mod_wordFrom_2 F (nI p) (nI e) (nI i) w = some (nI (fiw (lts x p e) Ws i), w)
  | [], i, F, hi, hW, hF => by
    obtain ⟨F, rfl⟩ : ∃ j, F = j + 1 := ⟨F - 1, by omega⟩
    have hi : i = 12 := hi
    subst hi
    rfl
  | W :: Ws, i, F, hi, hW, hF => by
    obtain ⟨F, rfl⟩ : ∃ j, F = j + 1 := ⟨F - 1, by omega⟩
    have hz := h.1
    rw [List.length_cons] at hi hF
    have hi12 : i < 12 := by omega
    have nx := D_wf h hA he hp hx Ws (i + 1) F (by omega) (fun t ht => by
      have := hW (t + 1) (by rw [List.length_cons]; omega)
      rw [show i + (t + 1) = i + 1 + t from by omega] at this
      exact this) (by omega)
    have hWi : MW.getD i [] = W := hW 0 (by rw [List.length_cons]; omega)
    have hml := List.all_eq_true.mp mr_len i (List.mem_range.mpr hi12)
    rw [Bool.and_eq_true, nbt, hWi] at hml
    have hm8 := Nat.le_of_ble_eq_true (List.all_eq_true.mp mw_len i (List.mem_range.mpr hi12))
    rw [hWi] at hm8
    have rw1 : ∀ sm : Bool, L_Mod_wordFrom_26 (L_Mod_wordFrom_2 F) am_NF (nI p) (nI e) (nI i) (bi sm) (nI 0) w = _ := fun sm => D_row h hA hi12 he hp (L_Mod_wordFrom_2 F) 8 0 am_NF (mr i) sm rfl hml.1 (fun t _ => by rw [Nat.zero_add]) (by show 8 < 4000; omega)
    have rw0 : L_Mod_wordFrom_26 (L_Mod_wordFrom_2 F) am_NF (nI p) (nI e) (nI i) (nI 0) (nI 0) w = _ := rw1 false
    have rw2 : L_Mod_wordFrom_26 (L_Mod_wordFrom_2 F) am_NF (nI p) (nI e) (nI i) (nI 1) (nI 0) w = _ := rw1 true
    show F_Mod_wordFrom_2 _ _ _ _ _ = _
    unfold F_Mod_wordFrom_2 F_Mod_wordFrom_21
    rw [ile_f (by omega) (by omega), pk_sub hp, rw0, rw2, fiw]
    unfold F_Mod_wordFrom_88
    rw [bi_ite, bi_ite, nI_add, nx, Bool.false_and, cond_false, Bool.true_and]
    by_cases q : 8 < e - p
    · rw [ilt_t q (by omega), if_neg (fun u => by
        rw [← u] at hm8
        unfold lts at hm8
        rw [List.length_map, List.length_range] at hm8
        omega)]
    · rw [ilt_f (by omega) (by omega)]
      have hpe := pe_w (x := x) (e := e) W (8 - W.length) (p + 0) (fun t h1 h2 => hx t (by omega) h2) (fun c hc => by
        have := List.all_eq_true.mp hml.2 c hc
        intro u
        rw [u] at this
        cases this) (by omega)
      have hmr : mr i = W ++ List.replicate (8 - W.length) 32 := by rw [mr, hWi]
      rw [← hmr, Nat.add_zero] at hpe
      rw [Nat.add_zero]
      cases hb : pe x e p (mr i) with
      | true => rw [if_pos (hpe.mp hb)]; rfl
      | false => rw [if_neg (fun u => by rw [hpe.mpr u] at hb; cases hb)]; rfl
theorem D_wordFrom (h : DT x z w) (hA : ABC w) {p e : Nat} (he : e ≤ z) (hp : p ≤ e) (hx : ∀ t, p ≤ t → t < e → ¬ x t = 32) : F_Mod_wordFrom (nI p) (nI e) w = some (nI (fiw (lts x p e) MW 0), w) := by
  unfold F_Mod_wordFrom
  exact D_wf h hA he hp hx MW 0 am_NF rfl (fun t _ => by rw [Nat.zero_add]) (by show 12 < 4000; omega)
end

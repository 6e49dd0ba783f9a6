/-! ===== the class's words and signs; its next token ===== -/
def WSL : List Nat := [116, 97, 107, 101, 115, 32, 115, 97, 119, 115, 32, 109, 105, 110, 100, 115, 32, 111, 114, 32, 97, 110, 100, 32, 110, 111, 116, 32, 109, 111, 114, 101, 32, 115, 111, 114, 116, 32, 104, 111, 117, 114, 32, 116, 104, 105, 110, 103, 32, 109, 97, 110, 121, 32, 107, 105, 110, 100, 32]
def WS (i : Nat) : Nat := WSL.getD i 0
theorem ws_all : ((List.range 59).all fun i => am_cix (nI i) (nI 59) && (am_ch ((((am_byt.getD 2 []).getD i 0 &&& nI 255).toUInt32 % 65536).toInt32) && decide ((((am_byt.getD 2 []).getD i 0 &&& nI 255).toUInt32 % 65536).toInt32 = nI (WS i)))) = true := by decide +kernel
theorem S_charAt {i : Nat} (hi : i < 59) (w : am_W) : F_JstrcharAt5068e_3000002 (nI i) w = some (nI (WS i), w) := by
  have h := List.all_eq_true.mp ws_all i (List.mem_range.mpr hi)
  rw [Bool.and_eq_true, Bool.and_eq_true, decide_eq_true_eq] at h
  obtain ⟨h1, h2, h3⟩ := h
  have hL : F_JstrisLatin1aae02_3000002 w = some (nI 1, w) := rfl
  unfold F_JstrcharAt5068e_3000002 F_JlatcharAt3b067_3001002
  rw [hL, bn_s]
  dsimp only
  rw [if_neg (by decide), h1, in_nI hi (by omega), nI_clamp (by omega), h2, am_ckT, am_ckT, am_ckT, bn_s]
  dsimp only
  rw [h2, am_ckT, h3]
theorem S_wlen (w : am_W) : F_Jstrlength8abf5_3000002 w = some (nI 59, w) := by
  have hc : F_Jstrcoder7d493_3000002 w = some (nI 0, w) := by
    unfold F_Jstrcoder7d493_3000002 F_Jstrcoder7d493_3000002_14
    rw [if_neg (by decide)]; rfl
  unfold F_Jstrlength8abf5_3000002
  rw [hc, bn_s]
  dsimp only
  rw [show nI 59 >>> (nI 0 &&& 31) = nI 59 from by decide]
/-- the words one by one, against the letters -/
def wn (x : Nat → Nat) (p e : Nat) : List Nat → Nat → Nat → Bool → Option Nat
  | [], _, _, _ => none
  | c :: cs, k, a, sm => bif Nat.beq c 32 then (bif sm && Nat.beq a e then some k else wn x p e cs (k + 1) p true) else wn x p e cs k (a + 1) (sm && (Nat.ble (a + 1) e && Nat.beq (x a) c))
def wnI : Option Nat → Int32
  | none => -nI 1
  | some k => nI k
theorem S_wn {x : Nat → Nat} {z p e : Nat} {w : am_W} (h : RB x z w) (h1 : w.1 18 1 = nI p) (h2 : w.1 18 2 = nI e) (he : e ≤ z) : ∀ (cs : List Nat) (i k a F : Nat) (sm : Bool), i + cs.length = 59 → (∀ j, j < cs.length → WS (i + j) = cs.getD j 0) → a < 1000 → cs.length < F → p ≤ 160 → (∀ c, c ∈ cs → c < 256) → a + cs.length < 1000 → L_Read_wordNumber_12 F (nI k) (nI a) (bi sm) (nI i) w = some (wnI (wn x p e cs k a sm), w)
  | [], i, k, a, F, sm, hi, hw, ha, hF, hp, hc, hl => by
    obtain ⟨F, rfl⟩ : ∃ j, F = j + 1 := ⟨F - 1, by omega⟩
    have hi : i = 59 := hi
    show F_Read_wordNumber_12 _ _ _ _ _ _ = _
    unfold F_Read_wordNumber_12
    rw [S_wlen, bn_s]
    dsimp only
    rw [ile_t (by omega) (by omega)]; rfl
  | c :: cs, i, k, a, F, sm, hi, hw, ha, hF, hp, hc, hl => by
    obtain ⟨F, rfl⟩ : ∃ j, F = j + 1 := ⟨F - 1, by omega⟩
    have hz := h.1
    rw [List.length_cons] at hi hF hl
    have hi59 : i < 59 := by omega
    have hwi : WS i = c := hw 0 (by rw [List.length_cons]; omega)
    have hc0 : c < 256 := hc c (List.mem_cons_self ..)
    have nx : ∀ (k a : Nat) (sm : Bool), a < 1000 → a + cs.length < 1000 → L_Read_wordNumber_12 F (nI k) (nI a) (bi sm) (nI (i + 1)) w = some (wnI (wn x p e cs k a sm), w) := fun k a sm ha hl => S_wn h h1 h2 he cs (i + 1) k a F sm (by omega) (fun j hj => by
      have := hw (j + 1) (by rw [List.length_cons]; omega)
      rw [show i + (j + 1) = i + 1 + j from by omega] at this
      exact this) ha (by omega) hp (fun c hcm => hc c (List.mem_cons_of_mem _ hcm)) hl
    have nx0 : L_Read_wordNumber_12 F (nI k) (nI (a + 1)) (nI 0) (nI (i + 1)) w = _ := nx k (a + 1) false (by omega) (by omega)
    have nx1 : L_Read_wordNumber_12 F (nI k) (nI (a + 1)) (nI 1) (nI (i + 1)) w = _ := nx k (a + 1) true (by omega) (by omega)
    have nxp : L_Read_wordNumber_12 F (nI (k + 1)) (nI p) (nI 1) (nI (i + 1)) w = _ := nx (k + 1) p true (by omega) (by omega)
    show F_Read_wordNumber_12 _ _ _ _ _ _ = _
    unfold F_Read_wordNumber_12 F_Read_wordNumber_87 F_Read_wordNumber_65 F_Read_wordNumber_66 F_Read_wordNumber_97
    rw [S_wlen, bn_s]
    dsimp only
    rw [ile_f (by omega) (by omega), S_charAt hi59, hwi, bn_s]
    dsimp only
    rw [ieq_b (by omega) (by omega), bi_ite, bi_ite, h1, h2, nI_add, nI_add, nI_add, nx0, nx1, nxp, wn]
    cases hb : Nat.beq c 32 with
    | true =>
      rw [cond_true, cond_true]
      cases sm with
      | false => rfl
      | true =>
        rw [cond_true, Bool.true_and]
        by_cases q : a = e
        · rw [ieq_t q, q, Nat.beq_refl]; rfl
        · rw [ieq_f q (by omega) (by omega), nbf q]; rfl
    | false =>
      rw [cond_false, cond_false]
      cases sm with
      | false => rfl
      | true =>
        rw [cond_true, Bool.true_and]
        by_cases q : e ≤ a
        · rw [ile_t q (by omega), show Nat.ble (a + 1) e = false from Bool.eq_false_iff.mpr (fun r => by have := Nat.le_of_ble_eq_true r; omega)]; rfl
        · obtain ⟨g1, g2⟩ := h.2.2 a (by omega)
          rw [ile_f (by omega) (by omega), in_nI (by omega : a < 160) (by omega), am_ckT, nI_clamp (by omega), g1, ieq_b (by omega) (by omega), Nat.ble_eq_true_of_le (by omega), Bool.true_and]
          cases Nat.beq (x a) c <;> rfl
theorem lts_c {x : Nat → Nat} {b e : Nat} (h : b < e) : lts x b e = x b :: lts x (b + 1) e := by
  unfold lts
  rw [show e - b = (e - (b + 1)) + 1 from by omega, List.range_succ_eq_map, List.map_cons, List.map_map]
  refine congrArg (fun q => _ :: q) (List.map_congr_left (fun j _ => ?_))
  show x (b + (j + 1)) = x (b + 1 + j)
  rw [show b + (j + 1) = b + 1 + j from by omega]
theorem lts_0 {x : Nat → Nat} {b : Nat} : lts x b b = [] := by
  unfold lts
  rw [Nat.sub_self]; rfl
/-- the words against the letters, a word at a time -/
theorem wn_w {x : Nat → Nat} {p e : Nat} : ∀ (W : List Nat) (cs : List Nat) (k a : Nat) (sm : Bool), (∀ c, c ∈ W → Nat.beq c 32 = false) → (sm = true → a ≤ e) → wn x p e (W ++ 32 :: cs) k a sm = if sm = true ∧ lts x a e = W then some k else wn x p e cs (k + 1) p true
  | [], cs, k, a, sm, hW, ha => by
    show (bif Nat.beq 32 32 then (bif sm && Nat.beq a e then some k else wn x p e cs (k + 1) p true) else _) = _
    rw [show Nat.beq 32 32 = true from rfl, cond_true]
    cases sm with
    | false => rw [if_neg (fun q => by cases q.1)]; rfl
    | true =>
      rw [Bool.true_and]
      by_cases q : a = e
      · rw [q, Nat.beq_refl, if_pos ⟨rfl, lts_0⟩]; rfl
      · have := ha rfl
        rw [nbf q, if_neg (fun r => by
          have r2 := r.2
          rw [lts_c (by omega)] at r2
          cases r2)]; rfl
  | c :: W, cs, k, a, sm, hW, ha => by
    show (bif Nat.beq c 32 then _ else wn x p e (W ++ 32 :: cs) k (a + 1) (sm && (Nat.ble (a + 1) e && Nat.beq (x a) c))) = _
    rw [hW c (List.mem_cons_self ..), cond_false, wn_w W cs k (a + 1) _ (fun c hc => hW c (List.mem_cons_of_mem _ hc)) (fun q => by
      rw [Bool.and_eq_true, Bool.and_eq_true] at q
      exact Nat.le_of_ble_eq_true q.2.1)]
    cases sm with
    | false => rw [if_neg (fun q => by cases q.1), if_neg (fun q => by cases q.1)]
    | true =>
      rw [Bool.true_and]
      by_cases q : a < e
      · rw [Nat.ble_eq_true_of_le q, Bool.true_and, lts_c q]
        by_cases r : x a = c
        · rw [r, Nat.beq_refl]
          by_cases t : lts x (a + 1) e = W
          · rw [if_pos ⟨rfl, t⟩, if_pos ⟨rfl, by rw [t]⟩]
          · rw [if_neg (fun u => t u.2), if_neg (fun u => t (List.cons.inj u.2).2)]
        · rw [nbf r, if_neg (fun u => by cases u.1), if_neg (fun u => r (List.cons.inj u.2).1)]
      · have he : a = e := by have := ha rfl; omega
        rw [show Nat.ble (a + 1) e = false from Bool.eq_false_iff.mpr (fun r => by have := Nat.le_of_ble_eq_true r; omega), Bool.false_and, if_neg (fun u => by cases u.1), he, lts_0, if_neg (fun u => by cases u.2)]
/-- the class's number of a word -/
def wc (l : List Nat) : Option Nat := if l = [116, 97, 107, 101, 115] then some 0 else if l = [115, 97, 119, 115] then some 1 else if l = [109, 105, 110, 100, 115] then some 2 else if l = [111, 114] then some 3 else if l = [97, 110, 100] then some 4 else if l = [110, 111, 116] then some 5 else if l = [109, 111, 114, 101] then some 6 else if l = [115, 111, 114, 116] then some 7 else if l = [104, 111, 117, 114] then some 8 else if l = [116, 104, 105, 110, 103] then some 9 else if l = [109, 97, 110, 121] then some 10 else if l = [107, 105, 110, 100] then some 11 else none
theorem wn_all {x : Nat → Nat} {p e : Nat} (h : p ≤ e) : wn x p e WSL 0 p true = wc (lts x p e) := by
  have st : ∀ (W cs : List Nat) (k : Nat), (∀ c, c ∈ W → Nat.beq c 32 = false) → wn x p e (W ++ 32 :: cs) k p true = if lts x p e = W then some k else wn x p e cs (k + 1) p true := fun W cs k hW => by
    rw [wn_w W cs k p true hW (fun _ => h)]
    by_cases q : lts x p e = W
    · rw [if_pos ⟨rfl, q⟩, if_pos q]
    · rw [if_neg (fun r => q r.2), if_neg q]
  have e0 : WSL = [116, 97, 107, 101, 115] ++ 32 :: ([115, 97, 119, 115] ++ 32 :: ([109, 105, 110, 100, 115] ++ 32 :: ([111, 114] ++ 32 :: ([97, 110, 100] ++ 32 :: ([110, 111, 116] ++ 32 :: ([109, 111, 114, 101] ++ 32 :: ([115, 111, 114, 116] ++ 32 :: ([104, 111, 117, 114] ++ 32 :: ([116, 104, 105, 110, 103] ++ 32 :: ([109, 97, 110, 121] ++ 32 :: ([107, 105, 110, 100] ++ 32 :: []))))))))))) := rfl
  rw [e0, st _ _ _ (by decide), st _ _ _ (by decide), st _ _ _ (by decide), st _ _ _ (by decide), st _ _ _ (by decide), st _ _ _ (by decide), st _ _ _ (by decide), st _ _ _ (by decide), st _ _ _ (by decide), st _ _ _ (by decide), st _ _ _ (by decide), st _ _ _ (by decide)]
  rfl
theorem S_wordNumber {x : Nat → Nat} {z p e : Nat} {w : am_W} (h : RB x z w) (h1 : w.1 18 1 = nI p) (h2 : w.1 18 2 = nI e) (hpe : p ≤ e) (he : e ≤ z) : F_Read_wordNumber w = some (wnI (wc (lts x p e)), w) := by
  have hz := h.1
  unfold F_Read_wordNumber
  rw [h1]
  have h9 := S_wn h h1 h2 he WSL 0 0 p am_NF true rfl (fun j _ => by rw [Nat.zero_add]; rfl) (by omega) (by show 59 < 4000; omega) (by omega) (by decide) (by show p + 59 < 1000; omega)
  rw [wn_all hpe] at h9
  exact h9
/-- the class's token of a word -/
theorem S_scanEnd {x : Nat → Nat} {z p e : Nat} {w : am_W} (h : RB x z w) (h1 : w.1 18 1 = nI p) (h2 : w.1 18 2 = nI e) (hpe : p ≤ e) (he : e ≤ z) : ∃ w2, F_Read_scanWord_43 w = some (nI (ctk (wi (lts x p e)).1 (wi (lts x p e)).2), w2) ∧ (w2 = w ∨ ∃ y, w2 = wsf w 18 4 y) ∧ ((wi (lts x p e)).1 = 2 → w2.1 18 4 = nI (wi (lts x p e)).2) := by
  unfold F_Read_scanWord_43 F_Read_scanWord_81
  rw [S_wordNumber h h1 h2 hpe he, bn_s]
  generalize lts x p e = l
  unfold wc wi
  have key : ∀ (k a b : Nat), k < 12 → (if k < 6 then 300 + k else 306) = ctk a b → (a = 2 → k = 6 + b) → ∃ w2, (if 0 ≤ (wnI (some k), w).1 then (am_lt (wsf (wnI (some k), w).2 18 4 ((wnI (some k), w).1 - (nI 6))) fun w2 => if (nI 6) ≤ (wnI (some k), w).1 then some (nI 306, w2) else some ((nI 300) + (wnI (some k), w).1, w2)) else (some ((nI 309), (wnI (some k), w).2))) = some (nI (ctk a b), w2) ∧ (w2 = w ∨ ∃ y, w2 = wsf w 18 4 y) ∧ (a = 2 → w2.1 18 4 = nI b) := fun k a b hk hc hv => by
    dsimp only
    refine ⟨wsf w 18 4 (nI k - nI 6), ?_, Or.inr ⟨_, rfl⟩, fun q => ?_⟩
    · rw [if_pos (show (0 : Int32) ≤ wnI (some k) from nI_le (a := 0) (Nat.zero_le k) (by omega)), am_ltU]
      show (if nI 6 ≤ nI k then some (nI 306, _) else some (nI 300 + nI k, _)) = _
      by_cases q : k < 6
      · rw [ile_f q (by omega), nI_add, ← hc, if_pos q]; rfl
      · rw [ile_t (by omega) (by omega), ← hc, if_neg q]; rfl
    · rw [wsf_at, hv q, pk_sub (by omega), show 6 + b - 6 = b from by omega]
  by_cases c0 : l = [116, 97, 107, 101, 115]
  · rw [if_pos c0, if_pos c0]; exact key 0 3 0 (by omega) rfl (by omega)
  rw [if_neg c0, if_neg c0]
  by_cases c1 : l = [115, 97, 119, 115]
  · rw [if_pos c1, if_pos c1]; exact key 1 3 1 (by omega) rfl (by omega)
  rw [if_neg c1, if_neg c1]
  by_cases c2 : l = [109, 105, 110, 100, 115]
  · rw [if_pos c2, if_pos c2]; exact key 2 3 2 (by omega) rfl (by omega)
  rw [if_neg c2, if_neg c2]
  by_cases c3 : l = [111, 114]
  · rw [if_pos c3, if_pos c3]; exact key 3 4 0 (by omega) rfl (by omega)
  rw [if_neg c3, if_neg c3]
  by_cases c4 : l = [97, 110, 100]
  · rw [if_pos c4, if_pos c4]; exact key 4 5 0 (by omega) rfl (by omega)
  rw [if_neg c4, if_neg c4]
  by_cases c5 : l = [110, 111, 116]
  · rw [if_pos c5, if_pos c5]; exact key 5 6 0 (by omega) rfl (by omega)
  rw [if_neg c5, if_neg c5]
  by_cases c6 : l = [109, 111, 114, 101]
  · rw [if_pos c6, if_pos c6]; exact key 6 2 0 (by omega) rfl (by omega)
  rw [if_neg c6, if_neg c6]
  by_cases c7 : l = [115, 111, 114, 116]
  · rw [if_pos c7, if_pos c7]; exact key 7 2 1 (by omega) rfl (by omega)
  rw [if_neg c7, if_neg c7]
  by_cases c8 : l = [104, 111, 117, 114]
  · rw [if_pos c8, if_pos c8]; exact key 8 2 2 (by omega) rfl (by omega)
  rw [if_neg c8, if_neg c8]
  by_cases c9 : l = [116, 104, 105, 110, 103]
  · rw [if_pos c9, if_pos c9]; exact key 9 2 3 (by omega) rfl (by omega)
  rw [if_neg c9, if_neg c9]
  by_cases ca : l = [109, 97, 110, 121]
  · rw [if_pos ca, if_pos ca]; exact key 10 2 4 (by omega) rfl (by omega)
  rw [if_neg ca, if_neg ca]
  by_cases cb : l = [107, 105, 110, 100]
  · rw [if_pos cb, if_pos cb]; exact key 11 2 5 (by omega) rfl (by omega)
  rw [if_neg cb, if_neg cb]
  refine ⟨w, ?_, Or.inl rfl, fun q => by cases q⟩
  dsimp only
  rw [if_neg (show ¬ (0 : Int32) ≤ wnI none from by decide)]; rfl

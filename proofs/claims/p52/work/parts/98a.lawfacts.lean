/-! ===== facts the law asks for: none waits for itself, who can ever go can go first or behind some, sawing nothing suffices just for those ===== -/
theorem ite_rf {α β : Type} {a : β} {hd : Decidable (a = a)} {x y : α} : (@ite α (a = a) hd x y) = x := if_pos rfl
theorem bst_0 {x : Nat → Option Int32} (h0 : x 0 = some (nI 0)) (hv : ∀ j q, x j = some q → ∃ k, k < 2 ^ 31 ∧ q = nI k) : ∀ i, bst x (i + 1) = some (0, nI 0)
  | 0 => by rw [bst, h0]; rfl
  | i + 1 => by
    rw [bst, bst_0 h0 hv i]
    cases hx : x (i + 1) with
    | none => rfl
    | some p =>
      obtain ⟨k, hk, rfl⟩ := hv _ _ hx
      exact if_pos (nI_le (Nat.zero_le _) hk)
theorem bst_n0 {x : Nat → Option Int32} (h0 : x 0 = none) {i : Nat} (hi : i < 2 ^ 31) : ¬ b1 (bst x i) = 0 := by
  cases h : bst x i with
  | none => exact fun q => absurd q (by decide)
  | some r =>
    obtain ⟨b, q⟩ := r
    have h1 := bst_val h
    have h2 := bst_lt h
    have h3 : ¬ b = 0 := fun e => by rw [e, h0] at h1; cases h1
    exact nI_ne0 (by omega) (by omega)
theorem pcS_0 (x : Nat → Int32) : ∀ m, pcS x 0 m = nI 0
  | 0 => rfl
  | m + 1 => by
    rw [pcS, pcS_0 x m, Nat.zero_testBit]
    rfl
theorem pcS_n {x : Nat → Int32} {set : Nat} : ∀ {m : Nat}, (∀ l, l < m → ∃ k, k ≤ 99 ∧ x l = nI k) → ∃ k, k ≤ 99 * m ∧ pcS x set m = nI k
  | 0, _ => ⟨0, by omega, rfl⟩
  | m + 1, h => by
    obtain ⟨k, hk, e⟩ := pcS_n (set := set) (fun l hl => h l (Nat.lt_succ_of_lt hl))
    obtain ⟨j, hj, e2⟩ := h m (Nat.lt_succ_self m)
    rw [pcS, e, e2]
    cases set.testBit m
    · exact ⟨k, by omega, by rw [cond_false, nI_add]; rfl⟩
    · exact ⟨k + j, by omega, by rw [cond_true, nI_add]⟩
theorem one_in {G t : Nat} (ht : t < 32) : ((nI (2 ^ t) &&& (nI G ^^^ (-nI 1))) = 0) ↔ G.testBit t = true := by
  have key : ∀ i, i < 32 → bt (nI (2 ^ t) &&& (nI G ^^^ (-nI 1))) i = (decide (t = i) && !G.testBit i) := fun i hi => by
    rw [b_and, b_not _ hi, b_nI hi, b_nI hi, Nat.testBit_two_pow]
  constructor
  · intro h
    have h2 := key t ht
    rw [h, decide_eq_true rfl, Bool.true_and] at h2
    have h3 : bt 0 t = false := b_0 t
    rw [h3] at h2
    cases hG : G.testBit t
    · rw [hG] at h2; cases h2
    · rfl
  · intro h
    refine b_z (fun i hi => ?_)
    rw [key i hi]
    by_cases e : t = i
    · subst e; rw [h]; simp
    · rw [decide_eq_false e]; rfl
section
variable {n m g s : Nat} {v : am_V}
theorem aw_self {t : Nat} : aw m v g s t t = false := by
  unfold aw
  rw [List.any_eq_false]
  intro l _
  unfold ho
  cases Nat.beq (v 4 l) t <;> simp
theorem gal_evr (hn : n ≤ 8) {t : Nat} (h : (gal n m v 0 s 0).testBit t = true) : evr v t = true := by
  have hc : cls n m v 0 s (mkN (evr v) n) := fun u => by
    cases hc : cd n m v 0 s (mkN (evr v) n) u
    · rfl
    · unfold cd cg at hc
      rw [mkN_t] at hc
      simp only [Bool.and_eq_true, Bool.not_eq_true', decide_eq_true_eq] at hc
      obtain ⟨h1, _, h2, h3, _⟩ := hc
      rw [h2, decide_eq_true h1] at h3
      cases h3
  have h2 := git_min (n := n) (m := m) (v := v) (x := 0) (s := s) hc 8 0 (fun i hi => by rw [Nat.zero_testBit] at hi; cases hi) t h
  rw [mkN_t, Bool.and_eq_true] at h2
  exact h2.2
theorem rc_has {t : Nat} : ∀ (d S : Nat), rcN n m v 0 s 0 d S → S.testBit t = true → ∃ Y, rc n m v 0 s 0 Y ∧ cd n m v 0 s Y t = true
  | 0, S, h, ht => by rw [show S = 0 from h, Nat.zero_testBit] at ht; cases ht
  | d + 1, S, h, ht => by
    obtain ⟨S1, u, h1, h2, rfl⟩ := h
    by_cases e : u = t
    · subst e
      exact ⟨S1, ⟨d, h1⟩, h2⟩
    · refine rc_has d S1 h1 ?_
      rwa [Nat.testBit_or, Nat.testBit_two_pow, decide_eq_false e, Bool.or_false] at ht
theorem first_ge (hn : n ≤ 8) {t : Nat} (h : (gal n m v 0 s 0).testBit t = true) : ∃ k, k < 2 ^ 31 ∧ b2 (-nI 1) (bst (aho n m v 0 s 0 t) (2 ^ n)) = nI k := by
  obtain ⟨d, hd⟩ := rc_gal (n := n) (m := m) (v := v) (x := 0) (s := s) (g := 0) hn
  obtain ⟨Y, h1, h2⟩ := rc_has d _ hd h
  have hY : Y < 2 ^ n := rc_lt (Nat.two_pow_pos n) h1
  have hc : cg m v Y s t = true := by
    unfold cd at h2
    simp only [Bool.and_eq_true] at h2
    exact h2.2.2.2
  cases hb : bst (aho n m v 0 s 0 t) (2 ^ n) with
  | none =>
    have h3 := bst_none hb Y hY
    unfold aho at h3
    rw [rc_ahd hn h1 hc] at h3
    cases h3
  | some r =>
    obtain ⟨b, q⟩ := r
    exact aho_v b q (bst_val hb)
theorem first_0 (hn : n ≤ 8) {t : Nat} (h : cg m v 0 s t = true) : b2 (-nI 1) (bst (aho n m v 0 s 0 t) (2 ^ n)) = nI 0 := by
  obtain ⟨i, hi⟩ : ∃ i, 2 ^ n = i + 1 := ⟨2 ^ n - 1, by have := Nat.two_pow_pos n; omega⟩
  have h0 : aho n m v 0 s 0 t 0 = some (nI 0) := by
    unfold aho
    rw [rc_ahd hn rc_g h]
    rfl
  rw [hi, bst_0 h0 aho_v]
  rfl
theorem saw_0 {te tc : Nat → Nat → Nat} {f : Nat} (hm : m ≤ 10) (hx : ∀ l, l < m → ∃ k, k ≤ 99 ∧ sw v te tc f l = nI k) {t : Nat} (ht : t < 32) : (b1 (bst (sx n m v te tc f g s (nI (2 ^ t))) (2 ^ m)) = 0) ↔ (gal n m v 0 s g).testBit t = true := by
  have h1 : sbb 0 (mk (shu v g s) m) = true := by
    unfold sbb
    refine decide_eq_true (b_z (fun i hi => ?_))
    rw [b_and, b_0i]
    rfl
  have hp : 2 ^ m ≤ 2 ^ 10 := Nat.pow_le_pow_right (by omega) hm
  have e0 : sx n m v te tc f g s (nI (2 ^ t)) 0 = bif (gal n m v 0 s g).testBit t then some (nI 0) else none := by
    unfold sx
    rw [h1, Nat.or_zero, pcS_0]
    cases hG : (gal n m v 0 s g).testBit t
    · rw [decide_eq_false (fun q => by rw [(one_in ht).mp q] at hG; cases hG)]; rfl
    · rw [decide_eq_true ((one_in ht).mpr hG)]; rfl
  have hv : ∀ j q, sx n m v te tc f g s (nI (2 ^ t)) j = some q → ∃ k, k < 2 ^ 31 ∧ q = nI k := fun j q h => by
    unfold sx at h
    cases hx1 : (sbb j (mk (shu v g s) m) && decide ((nI (2 ^ t) &&& (nI (gal n m v 0 (s ||| j) g) ^^^ (-nI 1))) = 0)) with
    | false => rw [hx1] at h; cases h
    | true =>
      rw [hx1] at h
      obtain ⟨k, hk, e⟩ := pcS_n (set := j) hx
      have h : some (pcS (sw v te tc f) j m) = some q := h
      cases h
      exact ⟨k, by omega, e⟩
  cases hG : (gal n m v 0 s g).testBit t with
  | false =>
    rw [hG] at e0
    exact ⟨fun q => absurd q (bst_n0 e0 (by omega)), fun q => by cases q⟩
  | true =>
    rw [hG] at e0
    obtain ⟨i, hi⟩ : ∃ i, 2 ^ m = i + 1 := ⟨2 ^ m - 1, by have := Nat.two_pow_pos m; omega⟩
    rw [hi, bst_0 e0 hv]
    exact ⟨fun _ => rfl, fun _ => rfl⟩
theorem shu_or {l j : Nat} : shu v g (s ||| 2 ^ j) l = (shu v g s l && !(Nat.beq l j)) := by
  unfold shu
  rw [Nat.testBit_or, Nat.testBit_two_pow]
  by_cases e : j = l
  · subst e; rw [decide_eq_true rfl, Nat.beq_refl]; simp
  · rw [decide_eq_false e, nbf (fun q => e q.symm)]; simp
theorem ho_un {t l : Nat} (h : shu v g s l = false) : ho v g s t l = false := by
  unfold ho fx
  rw [h]; simp
end
theorem lb_all : ∀ g, g < 16 → F_W_lbits 0 (fun _ => nI 0) (lN g) = some (nI (pc g 10)) := by decide +kernel
theorem W_lbits {L : Nat} {xs : Nat → Int32} {g : Nat} (hg : g < 16) : F_W_lbits L xs (lN g) = some (nI (pc g 10)) := lb_all g hg
theorem bi_all : ((List.range 512).all fun k => decide (F_W_bits 0 (fun _ => nI 0) (nI k) = some (nI (pc k 10)))) = true := by decide +kernel
theorem W_bits {L : Nat} {xs : Nat → Int32} {k : Nat} (hk : k < 512) : F_W_bits L xs (nI k) = some (nI (pc k 10)) := of_decide_eq_true (List.all_eq_true.mp bi_all k (List.mem_range.mpr hk))
theorem go_left : ∀ n, n < 5 → ∀ g, g < 16 → ∀ t, t < 4 → g.testBit t = false → nI n - nI (pc (g ||| 2 ^ t) 10) = nI n - nI (pc g 10) - nI 1 := by decide +kernel

/-! ===== the law's own last: passes until nobody goes ===== -/
def psN (n m : Nat) (v : am_V) (s : Nat) : Nat → Nat → Nat
  | 0, h => h
  | k + 1, h => psN n m v s k (isq n m v 0 s n 0 h false).1
section
variable {n m s : Nat} {v : am_V}
theorem isq_fix {h : Nat} (hc : cls n m v 0 s h) : ∀ k i b, isq n m v 0 s k i h b = (h, b)
  | 0, _, _ => rfl
  | k + 1, i, b => by
    rw [isq, hc i]
    exact isq_fix hc k (i + 1) b
theorem psN_fix {h : Nat} (hc : cls n m v 0 s h) : ∀ k, psN n m v s k h = h
  | 0 => rfl
  | k + 1 => by
    rw [psN, isq_fix hc]
    exact psN_fix hc k
theorem psN_sub : ∀ k h, sub h (psN n m v s k h)
  | 0, _ => sub_r _
  | k + 1, h => by
    rw [psN]
    exact sub_t (isq_sub n 0 h false) (psN_sub k _)
theorem psN_min {X : Nat} (hX : cls n m v 0 s X) : ∀ k h, sub h X → sub (psN n m v s k h) X
  | 0, _, q => q
  | k + 1, h, q => by
    rw [psN]
    exact psN_min hX k _ (isq_min hX n 0 h false q)
theorem psN_cls (hn : n ≤ 8) : ∀ k h, left h 8 ≤ k → cls n m v 0 s (psN n m v s k h)
  | 0, h, hk => fun t => by
    cases hc : cd n m v 0 s (psN n m v s 0 h) t
    · rfl
    · obtain ⟨h1, h2⟩ := cd_not hc
      have h3 := left_z (g := h) 8 (by omega) t (by omega : t < 8)
      rw [show psN n m v s 0 h = h from rfl, h3] at h2
      cases h2
  | k + 1, h, hk => by
    rw [psN]
    cases hb : (isq n m v 0 s n 0 h false).2 with
    | false =>
      obtain ⟨e1, e2⟩ := isq_f n 0 h hb
      have hc : cls n m v 0 s h := fun t => by
        by_cases ht : t < n
        · exact e2 t (Nat.zero_le _) (by omega)
        · unfold cd
          rw [decide_eq_false ht]; rfl
      rw [e1, psN_fix hc]
      exact hc
    | true =>
      have := isq_l hn n 0 h hb
      exact psN_cls hn k _ (by omega)
theorem psN_gal (hn : n ≤ 8) (h : Nat) : psN n m v s 8 h = gal n m v 0 s h := gal_eq hn (psN_sub 8 h) (psN_cls hn 8 h (left_le8 h 8)) (fun X h1 h2 => psN_min h2 8 h h1)
theorem isq_lt : ∀ k i h b, i + k ≤ n → h < 2 ^ n → (isq n m v 0 s k i h b).1 < 2 ^ n
  | 0, _, _, _, _, q => q
  | k + 1, i, h, b, hi, q => by
    rw [isq]
    cases cd n m v 0 s h i
    · exact isq_lt k (i + 1) h b (by omega) q
    · exact isq_lt k (i + 1) _ true (by omega) (or_lt q (Nat.pow_lt_pow_right (by omega) (by omega)))
end
section
variable {L : Nat} {xs : Nat → Int32} {g s : Nat}
theorem WR_g {r : Nat → Int64} (h : WR L xs g s r) (x : Nat) : WR L xs x s (vp_updL r 0 (lN x)) := by
  refine ⟨pk_uLs, ?_, ?_, fun l hl => ?_⟩
  · rw [pk_uLn (by omega)]; exact h.2.1
  · rw [pk_uLn (by omega)]; exact h.2.2.1
  · rw [pk_uLn (by omega), pk_uLn (by omega), pk_uLn (by omega)]; exact h.2.2.2 l hl
theorem WR_s {r : Nat → Int64} (h : WR L xs g s r) (x : Nat) : WR L xs g x (vp_updL r 1 (lN x)) := by
  refine ⟨?_, pk_uLs, ?_, fun l hl => ?_⟩
  · rw [pk_uLn (by omega)]; exact h.1
  · rw [pk_uLn (by omega)]; exact h.2.2.1
  · rw [pk_uLn (by omega), pk_uLn (by omega), pk_uLn (by omega)]; exact h.2.2.2 l hl
theorem W_lastI (hL : L ≤ 260) {w : am_W} {r : Nat → Int64} (h : WR L xs g s r) (hs : s < 2 ^ 10) {r7 : Int64 → Int32 → am_U → Option (Int32 × am_U)} {a2 : Int64} {a4 : Int32} : ∀ (d i k x : Nat) (b : Bool), i + d = wN L xs → d < k → x < 2 ^ wN L xs → L_W_last_17 L xs r7 k a2 a4 (nI i) (w, vp_updL r 0 (lN x)) = r7 a2 (a4 + nI 1) (w, vp_updL r 0 (lN (isq (wN L xs) (wM L xs) (wV L xs) 0 s d i x b).1)) := by
  have hm := wM_lt (L := L) (xs := xs)
  have hn := wN_lt (L := L) (xs := xs)
  have hp : 2 ^ wN L xs ≤ 2 ^ 4 := Nat.pow_le_pow_right (by omega) hn.2
  intro d
  induction d with
  | zero =>
    intro i k x b hi hk hx
    obtain ⟨k, rfl⟩ : ∃ j, k = j + 1 := ⟨k - 1, by omega⟩
    have hi : i = wN L xs := hi
    show F_W_last_17 _ _ _ _ _ _ _ _ = _
    unfold F_W_last_17
    rw [W_things hL, bn_V, hi, ile_t (by omega) (by omega)]
    rfl
  | succ d ih =>
    intro i k x b hi hk hx
    obtain ⟨k, rfl⟩ : ∃ j, k = j + 1 := ⟨k - 1, by omega⟩
    have hin : i < wN L xs := by omega
    have hk1 : wK L xs i < 6 := by unfold wK; omega
    have hx2 : x ||| 2 ^ i < 2 ^ wN L xs := or_lt hx (Nat.pow_lt_pow_right (by omega) hin)
    have hW := WR_g h x
    have hc := W_can (u := (w, vp_updL r 0 (lN x))) hL hW (by omega) hs hin
    have i1 := ih (i + 1) k x b (by omega) (by omega) hx
    have i2 := ih (i + 1) k (x ||| 2 ^ i) true (by omega) (by omega) hx2
    show F_W_last_17 _ _ _ _ _ _ _ _ = _
    unfold F_W_last_17 F_W_last_56
    simp (disch := omega) only [W_things hL, bn_V, ile_f, W_kind hL, ieq_b, hc, bi_ite, am_ckI, nI_clamp, am_ltV, hst_n, upL_upL, pk_uLs, l_one, lN_or, nI_add]
    have e : cd (wN L xs) (wM L xs) (wV L xs) 0 s x i = (!(Nat.beq (wK L xs i) 5) && cg (wM L xs) (wV L xs) x s i) := by
      unfold cd evr
      rw [decide_eq_true hin, Nat.zero_testBit]
      rfl
    rw [isq, e]
    cases Nat.beq (wK L xs i) 5
    · cases cg (wM L xs) (wV L xs) x s i
      · exact i1
      · exact i2
    · exact i1
theorem W_lastO (hL : L ≤ 260) {w : am_W} {r : Nat → Int64} (h : WR L xs g s r) (hs : s < 2 ^ 10) {a2 : Int64} : ∀ (d i k x : Nat), i + d = 8 → d < k → x < 2 ^ wN L xs → L_W_last_7 L xs k a2 (nI i) (w, vp_updL r 0 (lN x)) = some (nI (psN (wN L xs) (wM L xs) (wV L xs) s d x), (w, vp_updL r 0 a2)) := by
  have hn := wN_lt (L := L) (xs := xs)
  intro d
  induction d with
  | zero =>
    intro i k x hi hk hx
    obtain ⟨k, rfl⟩ : ∃ j, k = j + 1 := ⟨k - 1, by omega⟩
    have hi : i = 8 := hi
    show F_W_last_7 _ _ _ _ _ _ = _
    unfold F_W_last_7
    simp (disch := omega) only [hi, ile_t, am_ckI, nI_clamp, am_ltV, hst_n, upL_upL, pk_uLs, lN_i]
    rfl
  | succ d ih =>
    intro i k x hi hk hx
    obtain ⟨k, rfl⟩ : ∃ j, k = j + 1 := ⟨k - 1, by omega⟩
    show F_W_last_7 _ _ _ _ _ _ = _
    unfold F_W_last_7
    rw [ile_f (by omega) (by omega), W_lastI hL h hs (wN L xs) 0 am_NF x false (by omega) (by show _ < 4000; omega) hx, nI_add, psN]
    exact ih (i + 1) k _ (by omega) (by omega) (isq_lt _ _ _ _ (by omega) hx)
theorem W_last (hL : L ≤ 260) {u : am_U} (h : WR L xs g s u.2) (hg : g < 2 ^ wN L xs) (hs : s < 2 ^ 10) : F_W_last L xs u = some (nI (gal (wN L xs) (wM L xs) (wV L xs) 0 s g), u) := by
  have hn := wN_lt (L := L) (xs := xs)
  obtain ⟨w, r⟩ := u
  unfold F_W_last
  rw [am_ckI (by omega) (by omega), nI_clamp (by omega), h.1]
  have e := W_lastO (w := w) hL h hs (a2 := lN g) 8 0 am_NF g (by omega) (by show _ < 4000; omega) hg
  rw [psN_gal (by omega), upL_e h.1] at e
  exact e
end

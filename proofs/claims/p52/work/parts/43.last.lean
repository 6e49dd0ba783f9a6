/-! ===== who is gone at last: both systems find the least closed set ===== -/
def mkN (p : Nat → Bool) : Nat → Nat
  | 0 => 0
  | n + 1 => mkN p n ||| (bif p n then 2 ^ n else 0)
theorem mk_N (p : Nat → Bool) : ∀ n, mk p n = nI (mkN p n)
  | 0 => rfl
  | n + 1 => by
    rw [mk, mkN, mk_N p n]
    cases p n
    · exact nx_or _ _
    · exact nx_or _ _
theorem mkN_t (p : Nat → Bool) : ∀ (n i : Nat), (mkN p n).testBit i = (decide (i < n) && p i)
  | 0, i => by rw [mkN, Nat.zero_testBit]; simp
  | n + 1, i => by
    rw [mkN, Nat.testBit_or, mkN_t p n i]
    cases hp : p n
    · rw [cond_false, Nat.zero_testBit, Bool.or_false]
      by_cases h : i = n
      · subst h; simp [hp]
      · rw [show decide (i < n + 1) = decide (i < n) from decide_eq_decide.mpr (by omega)]
    · rw [cond_true, Nat.testBit_two_pow]
      by_cases h : i = n
      · subst h; simp [hp]
      · rw [show decide (i < n + 1) = decide (i < n) from decide_eq_decide.mpr (by omega), decide_eq_false (fun q : n = i => h q.symm), Bool.or_false]
theorem mkN_lt (p : Nat → Bool) (n : Nat) : mkN p n < 2 ^ n := Nat.lt_pow_two_of_testBit _ (fun i hi => by rw [mkN_t, decide_eq_false (by omega), Bool.false_and])
theorem mkN_c {p q : Nat → Bool} {n : Nat} (h : ∀ i, i < n → p i = q i) : mkN p n = mkN q n := Nat.eq_of_testBit_eq (fun i => by
  rw [mkN_t, mkN_t]
  by_cases hi : i < n
  · rw [h i hi]
  · rw [decide_eq_false hi, Bool.false_and, Bool.false_and])
theorem mkN_z {p : Nat → Bool} {n : Nat} : mkN p n = 0 ↔ ∀ i, i < n → p i = false := by
  constructor
  · intro h i hi
    have h2 := mkN_t p n i
    rw [h, Nat.zero_testBit, decide_eq_true hi, Bool.true_and] at h2
    exact h2.symm
  · intro h
    exact Nat.eq_of_testBit_eq (fun i => by
      rw [mkN_t, Nat.zero_testBit]
      by_cases hi : i < n
      · rw [h i hi, Bool.and_false]
      · rw [decide_eq_false hi, Bool.false_and])
theorem or_lt {a b n : Nat} (ha : a < 2 ^ n) (hb : b < 2 ^ n) : a ||| b < 2 ^ n := Nat.or_lt_two_pow ha hb
/-- a is part of b -/
def sub (a b : Nat) : Prop := ∀ i, a.testBit i = true → b.testBit i = true
theorem sub_r (a : Nat) : sub a a := fun _ h => h
theorem sub_t {a b c : Nat} (h : sub a b) (k : sub b c) : sub a c := fun i q => k i (h i q)
theorem sub_or {a b : Nat} : sub a (a ||| b) := fun i h => by rw [Nat.testBit_or, h, Bool.true_or]
theorem sub_eq {a b : Nat} (h : sub a b) (k : sub b a) : a = b := Nat.eq_of_testBit_eq (fun i => Bool.eq_iff_iff.mpr ⟨h i, k i⟩)
/-- how many of the first k aren't in g -/
def left (g : Nat) : Nat → Nat
  | 0 => 0
  | k + 1 => left g k + bif g.testBit k then 0 else 1
theorem left_le8 (g : Nat) : ∀ k, left g k ≤ k
  | 0 => Nat.le_refl _
  | k + 1 => by
    have h := left_le8 g k
    rw [left]
    cases g.testBit k
    · show _ + 1 ≤ _; omega
    · show _ + 0 ≤ _; omega
theorem left_le {g h : Nat} (hs : sub g h) : ∀ k, left h k ≤ left g k
  | 0 => Nat.le_refl _
  | k + 1 => by
    have i := left_le hs k
    rw [left, left]
    cases h1 : g.testBit k
    · cases h.testBit k
      · show _ + 1 ≤ _ + 1; omega
      · show _ + 0 ≤ _ + 1; omega
    · rw [hs k h1]
      show _ + 0 ≤ _ + 0; omega
theorem left_lt {g h t : Nat} (hs : sub g h) (h1 : g.testBit t = false) (h2 : h.testBit t = true) : ∀ k, t < k → left h k < left g k
  | 0, q => by omega
  | k + 1, q => by
    rw [left, left]
    by_cases e : t = k
    · subst e
      rw [h1, h2]
      have i := left_le hs t
      show _ + 0 < _ + 1; omega
    · have i := left_lt hs h1 h2 k (by omega)
      cases h3 : g.testBit k
      · cases h.testBit k
        · show _ + 1 < _ + 1; omega
        · show _ + 0 < _ + 1; omega
      · rw [hs k h3]
        show _ + 0 < _ + 0; omega
theorem left_z {g : Nat} : ∀ k, left g k = 0 → ∀ i, i < k → g.testBit i = true
  | 0, _, i, hi => by omega
  | k + 1, h, i, hi => by
    rw [left] at h
    cases h1 : g.testBit k
    · rw [h1] at h; simp at h
    · by_cases e : i = k
      · rw [e]; exact h1
      · exact left_z k (by omega) i (by omega)
/-- who goes on from g, were x barred -/
def cd (n m : Nat) (v : am_V) (x s g t : Nat) : Bool := decide (t < n) && (!x.testBit t && (evr v t && cg m v g s t))
theorem ho_mono {v : am_V} {g h s t l : Nat} (hs : sub g h) (H : ho v h s t l = true) : ho v g s t l = true := by
  unfold ho fx shu at H ⊢
  simp only [Bool.and_eq_true, Bool.not_eq_true'] at H ⊢
  obtain ⟨h1, ⟨h2, h3⟩, h4, h5⟩ := H
  refine ⟨h1, ⟨h2, ?_⟩, h4, ?_⟩
  · cases h6 : g.testBit (v 4 l)
    · rfl
    · rw [hs _ h6] at h3; exact h3
  · unfold oth at h5 ⊢
    rw [List.any_eq_true] at h5 ⊢
    obtain ⟨j, hj, h6⟩ := h5
    refine ⟨j, hj, ?_⟩
    simp only [Bool.and_eq_true, Bool.not_eq_true'] at h6 ⊢
    refine ⟨h6.1, ?_, h6.2.2⟩
    cases h7 : g.testBit j
    · rfl
    · rw [hs _ h7] at h6; exact h6.2.1
theorem cg_mono {m : Nat} {v : am_V} {g h s t : Nat} (hs : sub g h) (H : cg m v g s t = true) (ht : h.testBit t = false) : cg m v h s t = true := by
  unfold cg at H ⊢
  rw [Bool.and_eq_true, List.all_eq_true] at H
  rw [ht, Bool.not_false, Bool.true_and, List.all_eq_true]
  intro l hl
  have h2 := H.2 l hl
  rw [Bool.not_eq_true'] at h2 ⊢
  cases h3 : ho v h s t l
  · rfl
  · rw [ho_mono hs h3] at h2; exact h2
theorem cd_mono {n m : Nat} {v : am_V} {x g h s t : Nat} (hs : sub g h) (H : cd n m v x s g t = true) : h.testBit t = true ∨ cd n m v x s h t = true := by
  cases ht : h.testBit t
  · refine Or.inr ?_
    unfold cd at H ⊢
    simp only [Bool.and_eq_true] at H ⊢
    exact ⟨H.1, H.2.1, H.2.2.1, cg_mono hs H.2.2.2 ht⟩
  · exact Or.inl rfl
theorem cd_not {n m : Nat} {v : am_V} {x g s t : Nat} (H : cd n m v x s g t = true) : t < n ∧ g.testBit t = false := by
  unfold cd cg at H
  simp only [Bool.and_eq_true, decide_eq_true_eq, Bool.not_eq_true'] at H
  exact ⟨H.1, H.2.2.2.1⟩
/-- nobody goes on from g -/
def cls (n m : Nat) (v : am_V) (x s g : Nat) : Prop := ∀ t, cd n m v x s g t = false
/-- the rounds: all who can go at once -/
def git (n m : Nat) (v : am_V) (x s : Nat) : Nat → Nat → Nat
  | 0, h => h
  | k + 1, h => git n m v x s k (h ||| mkN (cd n m v x s h) n)
def gal (n m : Nat) (v : am_V) (x s g : Nat) : Nat := git n m v x s 8 g
section
variable {n m x s : Nat} {v : am_V}
theorem git_sub : ∀ k h, sub h (git n m v x s k h)
  | 0, _ => sub_r _
  | k + 1, h => sub_t sub_or (git_sub k _)
theorem git_fix {h : Nat} (hc : cls n m v x s h) : ∀ k, git n m v x s k h = h
  | 0 => rfl
  | k + 1 => by
    rw [git, mkN_z.mpr (fun i _ => hc i), Nat.or_zero]
    exact git_fix hc k
theorem git_min {X : Nat} (hX : cls n m v x s X) : ∀ k h, sub h X → sub (git n m v x s k h) X
  | 0, _, hs => hs
  | k + 1, h, hs => git_min hX k _ (fun i hi => by
    rw [Nat.testBit_or, Bool.or_eq_true, mkN_t, Bool.and_eq_true] at hi
    rcases hi with hi | hi
    · exact hs i hi
    · rcases cd_mono hs hi.2 with q | q
      · exact q
      · rw [hX i] at q; cases q)
theorem git_cls (hn : n ≤ 8) : ∀ k h, left h 8 ≤ k → cls n m v x s (git n m v x s k h)
  | 0, h, hk => fun t => by
    cases hc : cd n m v x s (git n m v x s 0 h) t
    · rfl
    · obtain ⟨h1, h2⟩ := cd_not hc
      have h3 := left_z (g := h) 8 (by omega) t (by omega : t < 8)
      rw [show git n m v x s 0 h = h from rfl, h3] at h2
      cases h2
  | k + 1, h, hk => by
    by_cases hz : mkN (cd n m v x s h) n = 0
    · have hc : cls n m v x s h := fun t => by
        cases hc : cd n m v x s h t
        · rfl
        · rw [mkN_z.mp hz t (cd_not hc).1] at hc; cases hc
      rw [git_fix hc]; exact hc
    · have h4 : ∃ i, i < n ∧ cd n m v x s h i = true := Classical.byContradiction fun h5 => hz (mkN_z.mpr (fun i hi => Bool.eq_false_iff.mpr (fun h6 => h5 ⟨i, hi, h6⟩)))
      obtain ⟨i, hi, h5⟩ := h4
      refine git_cls hn k _ ?_
      have h6 := left_lt (h := h ||| mkN (cd n m v x s h) n) sub_or (cd_not h5).2 (by rw [Nat.testBit_or, mkN_t, h5, decide_eq_true hi]; simp) 8 (by omega)
      omega
theorem gal_cls (hn : n ≤ 8) (g : Nat) : cls n m v x s (gal n m v x s g) := git_cls hn 8 g (left_le8 g 8)
theorem gal_eq (hn : n ≤ 8) {g R : Nat} (h1 : sub g R) (h2 : cls n m v x s R) (h3 : ∀ X, sub g X → cls n m v x s X → sub R X) : R = gal n m v x s g :=
  sub_eq (h3 _ (git_sub 8 g) (gal_cls hn g)) (git_min h2 8 g h1)
theorem gal_sub {g : Nat} : sub g (gal n m v x s g) := git_sub 8 g
theorem git_lt : ∀ k h, h < 2 ^ n → git n m v x s k h < 2 ^ n
  | 0, _, q => q
  | k + 1, _, q => git_lt k _ (or_lt q (mkN_lt _ n))
end
section
variable {n m g s : Nat} {v : am_V} {w : am_W}
theorem S_canGoN (hV : VI n m v) (hC : CC n m g s v w) {a b : Nat} : F_Rail_canGo (nI a) (nI b) w = some (nI (mkN (cg m v a b) n), w) := by
  rw [S_canGo hV hC, mk_N]
theorem cd_mask (n m : Nat) (v : am_V) (a b : Nat) : mkN (cg m v a b) n &&& mkN (evr v) n = mkN (cd n m v 0 b a) n := Nat.eq_of_testBit_eq (fun i => by
  rw [Nat.testBit_and, mkN_t, mkN_t, mkN_t]
  unfold cd
  rw [Nat.zero_testBit]
  cases decide (i < n) <;> cases evr v i <;> cases cg m v a b i <;> rfl)
theorem S_gal (hV : VI n m v) (hC : CC n m g s v w) {b : Nat} : F_Rail_goneAtLast (nI b) w = some (nI (gal n m v 0 b g), w) := by
  have hn := hV.1
  unfold F_Rail_goneAtLast gal
  rw [hC.2.1]
  have key : ∀ (d i k h : Nat), i + d = 8 → d < k → L_Rail_goneAtLast_7 k (nI b) (nI h) (nI i) w = some (nI (git n m v 0 b d h), w) := by
    intro d
    induction d with
    | zero =>
      intro i k h hi hk
      obtain ⟨k, rfl⟩ : ∃ j, k = j + 1 := ⟨k - 1, by omega⟩
      show F_Rail_goneAtLast_7 _ _ _ _ _ = _
      unfold F_Rail_goneAtLast_7
      simp (disch := omega) only [nI_clamp, am_ckI, ile_t, ile_f, ilt_t, ilt_f, ieq_t, ieq_f, iz_t, iz_f, ilz_f, nI_add]
      rfl
    | succ d ih =>
      intro i k h hi hk
      obtain ⟨k, rfl⟩ : ∃ j, k = j + 1 := ⟨k - 1, by omega⟩
      show F_Rail_goneAtLast_7 _ _ _ _ _ = _
      unfold F_Rail_goneAtLast_7
      simp (disch := omega) only [nI_clamp, am_ckI, ile_t, ile_f, ilt_t, ilt_f, ieq_t, ieq_f, iz_t, iz_f, ilz_f, nI_add, S_canGoN hV hC, Option.bind_some, am_ltU, am_ckT, cond_true, cond_false, bi_ite, ck_bi, ite_T, ite_F, hC.2.2.2.2.1]
      rw [mk_N, nx_and, nx_or, cd_mask]
      have hlt := mkN_lt (cd n m v 0 b h) n
      have hp : 2 ^ n ≤ 2 ^ 8 := Nat.pow_le_pow_right (by omega) hn
      rw [iz_b (by omega)]
      cases hz : Nat.beq (mkN (cd n m v 0 b h) n) 0
      · exact ih (i + 1) k _ (by omega) (by omega)
      · have hc : cls n m v 0 b h := fun t => by
          cases hc : cd n m v 0 b h t
          · rfl
          · rw [mkN_z.mp (Nat.eq_of_beq_eq_true hz) t (cd_not hc).1] at hc; cases hc
        rw [git_fix hc]; rfl
  exact key 8 0 am_NF g rfl (by show 8 < 4000; omega)
/-! stores that are laid back -/
theorem mf_mf (σ : am_M) (c : Nat) (f h : Nat → Int32) : mf (mf σ c f) c h = mf σ c h := funext fun a => by
  unfold mf
  cases Nat.beq a c <;> rfl
theorem mf_s (σ : am_M) (c : Nat) (f : Nat → Int32) : mf σ c f c = f := by unfold mf; rw [Nat.beq_refl]; rfl
theorem mf_n {σ : am_M} {c a : Nat} {f : Nat → Int32} (h : Nat.beq a c = false) : mf σ c f a = σ a := by unfold mf; rw [h]; rfl
theorem mf_e {σ : am_M} {c : Nat} {f : Nat → Int32} (h : f = σ c) : mf σ c f = σ := funext fun a => by
  cases ha : Nat.beq a c
  · exact mf_n ha
  · rw [Nat.eq_of_beq_eq_true ha, mf_s, h]
theorem upd_upd (f : Nat → Int32) (j : Nat) (x y : Int32) : upd (upd f j x) j y = upd f j y := funext fun i => by
  unfold upd
  by_cases h : i = j
  · rw [if_pos h, if_pos h]
  · rw [if_neg h, if_neg h, if_neg h]
theorem upd_e {f : Nat → Int32} {j : Nat} {x : Int32} (h : f j = x) : upd f j x = f := funext fun i => by
  unfold upd
  by_cases hi : i = j
  · rw [if_pos hi, hi, h]
  · rw [if_neg hi]
theorem wsf_wsf (w : am_W) (c j : Nat) (x y : Int32) : wsf (wsf w c j x) c j y = wsf w c j y := by
  unfold wsf
  dsimp only
  rw [mf_mf, mf_s, upd_upd]
theorem wsf_e {w : am_W} {c j : Nat} {x : Int32} (h : w.1 c j = x) : wsf w c j x = w := by
  unfold wsf
  rw [upd_e h, mf_e rfl]
/-- one pass of the model's -/
def isq (n m : Nat) (v : am_V) (x s : Nat) : Nat → Nat → Nat → Bool → Nat × Bool
  | 0, _, h, b => (h, b)
  | k + 1, i, h, b => bif cd n m v x s h i then isq n m v x s k (i + 1) (h ||| 2 ^ i) true else isq n m v x s k (i + 1) h b
theorem sub_bit {h i X : Nat} (hs : sub h X) (hi : X.testBit i = true) : sub (h ||| 2 ^ i) X := fun j hj => by
  rw [Nat.testBit_or, Bool.or_eq_true] at hj
  rcases hj with q | q
  · exact hs j q
  · rw [Nat.testBit_two_pow, decide_eq_true_eq] at q
    rw [← q]; exact hi
theorem isq_sub {x : Nat} : ∀ k i h b, sub h (isq n m v x s k i h b).1
  | 0, _, _, _ => sub_r _
  | k + 1, i, h, b => by
    rw [isq]
    cases cd n m v x s h i
    · exact isq_sub k (i + 1) h b
    · exact sub_t sub_or (isq_sub k (i + 1) _ true)
theorem isq_min {x X : Nat} (hX : cls n m v x s X) : ∀ k i h b, sub h X → sub (isq n m v x s k i h b).1 X
  | 0, _, _, _, q => q
  | k + 1, i, h, b, q => by
    rw [isq]
    cases hc : cd n m v x s h i
    · exact isq_min hX k (i + 1) h b q
    · refine isq_min hX k (i + 1) _ true (sub_bit q ?_)
      rcases cd_mono q hc with r | r
      · exact r
      · rw [hX i] at r; cases r
theorem isq_t {x : Nat} : ∀ k i h, (isq n m v x s k i h true).2 = true
  | 0, _, _ => rfl
  | k + 1, i, h => by
    rw [isq]
    cases cd n m v x s h i
    · exact isq_t k (i + 1) h
    · exact isq_t k (i + 1) _
theorem isq_f {x : Nat} : ∀ k i h, (isq n m v x s k i h false).2 = false → (isq n m v x s k i h false).1 = h ∧ ∀ t, i ≤ t → t < i + k → cd n m v x s h t = false
  | 0, _, _, _ => ⟨rfl, fun t h1 h2 => by omega⟩
  | k + 1, i, h, q => by
    rw [isq] at q ⊢
    cases hc : cd n m v x s h i
    · rw [hc] at q
      obtain ⟨h1, h2⟩ := isq_f k (i + 1) h q
      refine ⟨h1, fun t h3 h4 => ?_⟩
      by_cases e : t = i
      · rw [e]; exact hc
      · exact h2 t (by omega) (by omega)
    · rw [hc, cond_true, isq_t] at q; cases q
theorem isq_l {x : Nat} (hn : n ≤ 8) : ∀ k i h, (isq n m v x s k i h false).2 = true → left (isq n m v x s k i h false).1 8 < left h 8
  | 0, _, _, q => by cases q
  | k + 1, i, h, q => by
    rw [isq] at q ⊢
    cases hc : cd n m v x s h i
    · rw [hc] at q
      exact isq_l hn k (i + 1) h q
    · rw [cond_true]
      obtain ⟨h1, h2⟩ := cd_not hc
      have h3 := left_lt (h := h ||| 2 ^ i) sub_or h2 (by rw [Nat.testBit_or, Nat.testBit_two_pow, decide_eq_true rfl, Bool.or_true]) 8 (by omega)
      have h4 := left_le (isq_sub (n := n) (m := m) (v := v) (x := x) (s := s) k (i + 1) (h ||| 2 ^ i) true) 8
      omega
end

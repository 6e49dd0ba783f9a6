/-! ===== the texts the law gives, read by the class ===== -/
section
variable {x : Nat → Nat} {z T : Nat}
def PX (x : Nat → Nat) (z T n r p : Nat) (res : Nat ⊕ (Nat × List Nat)) : Prop := SC x z T ((X_Read n).1 (nI r) (nI 0)) p res ∧ FA z r 0 p res
theorem FA_c {r o p p1 p2 : Nat} {cs su : List Nat} (hr : r ≤ 4) (h1 : FA z (r + 1) o p (.inr (p1, cs))) (h2 : FL z r o p1 (.inr (p2, su))) : FA z r o p (.inr (p2, cs ++ su)) := by
  obtain ⟨f1, f2, f3, f4⟩ := h1
  obtain ⟨g1, g2, g3, g4⟩ := h2
  refine ⟨by omega, g2, ?_, fun d hd => ?_⟩
  · rw [List.length_append]; omega
  · rw [hl_t (f4 d (by rw [hbr_1 hr] at hd; omega))]
    exact g4 d hd
theorem FL_nil {r o p : Nat} (hp : p ≤ z) : FL z r o p (.inr (p, [])) := ⟨Nat.le_refl _, hp, Nat.le_refl _, fun _ _ => rfl⟩
/-- an operand alone -/
theorem PX_op {n p : Nat} (hT : T < 6) (hz : z ≤ 160) (hp : p ≤ z) (hk : (lx x z p).2.2.1 = 1 ∨ (lx x z p).2.2.1 = 2) : PX x z T (n + 2) 5 p (.inr ((lx x z p).2.1, [if (lx x z p).2.2.1 = 1 then 100000 + (lx x z p).2.2.2 else (lx x z p).2.2.2])) := by
  obtain ⟨l1, l2, l3, l4, l5⟩ := lx_ok x hp
  have l6 := l4 (by omega)
  refine ⟨SC_one (SC_oper hT hz hp hk), by omega, l3, ?_, fun d hd => ?_⟩
  · show p + 1 ≤ _; omega
  · have hd : d + 26 ≤ 64 := hd
    show (hgt _ d).bind (hl []) = _
    by_cases e : (lx x z p).2.2.1 = 1
    · rw [if_pos e, hgt_num (l5.2.1 e) (by omega)]; rfl
    · rw [if_neg e, hgt_nam (l5.2.2.1 (by omega)) (by omega)]; rfl
/-- a rank where nothing joins -/
theorem PX_w {n r p p2 : Nat} {cs : List Nat} (hr : r ≤ 4) (hn : r = 2 → ¬ (lx x z p).2.2.1 = 6) (hp : p ≤ z) (h : PX x z T n (r + 1) p (.inr (p2, cs))) (hj : ¬ jl (lx x z p2).2.2.1 = r) : PX x z T (n + 1) r p (.inr (p2, cs ++ [])) := by
  have f2 := h.2.2.1
  refine ⟨SC_chain (res1 := .inr (p2, cs)) (res2 := .inr (p2, [])) hr (by omega) (fun q => Or.inl (hn q)) hp h.2 h.1 (fun p1 cs1 e => ?_), FA_c hr h.2 (FL_nil f2)⟩
  cases e
  exact SC_end (F := 3999) f2 hr hj
/-- one sign -/
theorem PX_j1 {n r p p1 p2 : Nat} {c1 c2 : List Nat} (hT : T < 6) (hz : z ≤ 160) (hr : r ≤ 4) (h2r : ¬ r = 2) (hp : p ≤ z) (h1 : PX x z T n (r + 1) p (.inr (p1, c1))) (hj1 : jl (lx x z p1).2.2.1 = r) (h2 : PX x z T n (r + 1) (lx x z p1).2.1 (.inr (p2, c2))) (hj2 : ¬ jl (lx x z p2).2.2.1 = r) : PX x z T (n + 1) r p (.inr (p2, c1 ++ (c2 ++ sg (lx x z p1).2.2.1 :: []))) := by
  have f2 := h1.2.2.1
  have g2 := h2.2.2.1
  obtain ⟨l1, l2, l3, l4, l5⟩ := lx_ok x f2
  have s1 := (sg_r hj1 hr).1
  have l6 := l4 (by omega)
  refine ⟨SC_chain (res1 := .inr (p1, c1)) (res2 := .inr (p2, c2 ++ sg (lx x z p1).2.2.1 :: [])) hr (by omega) (fun q => absurd q h2r) hp h1.2 h1.1 (fun p1' cs1 e => ?_), FA_c hr h1.2 (FL_step hr hj1 (by omega) h2.2 (FL_nil g2))⟩
  cases e
  rw [if_neg h2r]
  refine SC_step (F := 3998) (res2 := .inr (p2, c2)) (res3 := .inr (p2, [])) hT hz f2 hr hj1 (by omega) (Nat.le_refl _) h2.2 h2.1 (fun p2' cs2 e => ?_)
  cases e
  exact SC_end (F := 3998) g2 hr hj2
/-- two signs -/
theorem PX_j2 {n r p p1 p2 p3 : Nat} {c1 c2 c3 : List Nat} (hT : T < 6) (hz : z ≤ 160) (hr : r ≤ 4) (h2r : ¬ r = 2) (hp : p ≤ z) (h1 : PX x z T n (r + 1) p (.inr (p1, c1))) (hj1 : jl (lx x z p1).2.2.1 = r) (h2 : PX x z T n (r + 1) (lx x z p1).2.1 (.inr (p2, c2))) (hj2 : jl (lx x z p2).2.2.1 = r) (h3 : PX x z T n (r + 1) (lx x z p2).2.1 (.inr (p3, c3))) (hj3 : ¬ jl (lx x z p3).2.2.1 = r) : PX x z T (n + 1) r p (.inr (p3, c1 ++ (c2 ++ sg (lx x z p1).2.2.1 :: (c3 ++ sg (lx x z p2).2.2.1 :: [])))) := by
  have f2 := h1.2.2.1
  have g2 := h2.2.2.1
  have k2 := h3.2.2.1
  obtain ⟨l1, l2, l3, l4, l5⟩ := lx_ok x f2
  have s1 := (sg_r hj1 hr).1
  have l6 := l4 (by omega)
  obtain ⟨m1, m2, m3, m4, m5⟩ := lx_ok x g2
  have s2 := (sg_r hj2 hr).1
  have m6 := m4 (by omega)
  refine ⟨SC_chain (res1 := .inr (p1, c1)) (res2 := .inr (p3, c2 ++ sg (lx x z p1).2.2.1 :: (c3 ++ sg (lx x z p2).2.2.1 :: []))) hr (by omega) (fun q => absurd q h2r) hp h1.2 h1.1 (fun p1' cs1 e => ?_), FA_c hr h1.2 (FL_step hr hj1 (by omega) h2.2 (FL_step hr hj2 (by omega) h3.2 (FL_nil k2)))⟩
  cases e
  rw [if_neg h2r]
  refine SC_step (F := 3998) (res2 := .inr (p2, c2)) (res3 := .inr (p3, c3 ++ sg (lx x z p2).2.2.1 :: [])) hT hz f2 hr hj1 (by omega) (Nat.le_refl _) h2.2 h2.1 (fun p2' cs2 e => ?_)
  cases e
  refine SC_step (F := 3997) (res2 := .inr (p3, c3)) (res3 := .inr (p3, [])) hT hz g2 hr hj2 (by omega) (Nat.le_refl _) h3.2 h3.1 (fun p3' cs3 e => ?_)
  cases e
  exact SC_end (F := 3997) k2 hr hj3
/-- from the sums to the whole -/
theorem PX_top {n p p2 : Nat} {cs : List Nat} (hp : p ≤ z) (hn : ¬ (lx x z p).2.2.1 = 6) (h : PX x z T n 3 p (.inr (p2, cs))) (h59 : (lx x z p2).2.2.1 = 59) : PX x z T (n + 3) 0 p (.inr (p2, cs)) := by
  have j9 : ∀ r, r ≤ 4 → ¬ jl (lx x z p2).2.2.1 = r := fun r hr q => by
    rw [h59] at q
    exact absurd (show (9 : Nat) = r from q) (by omega)
  have h2 := PX_w (r := 2) (by omega) (fun _ => hn) hp h (j9 2 (by omega))
  have h1 := PX_w (r := 1) (by omega) (fun q => by omega) hp h2 (j9 1 (by omega))
  have h0 := PX_w (r := 0) (by omega) (fun q => by omega) hp h1 (j9 0 (by omega))
  rw [List.append_nil, List.append_nil, List.append_nil] at h0
  exact h0
theorem SPp_ok {k p p3 : Nat} {cs : List Nat} (hz : z ≤ 160) (hp : p ≤ z) (hk : k < 3) (h3 : (lx x z p).2.2.1 = 3 ∧ (lx x z p).2.2.2 = k) (h : PX x z T 100 0 (lx x z p).2.1 (.inr (p3, cs))) (h59 : (lx x z p3).2.2.1 = 59) : SPp x z T k p (.inr ((lx x z p3).2.1, cs)) := fun q w hq hS => by
  obtain ⟨l1, l2, l3, l4, l5⟩ := lx_ok x hp
  have l6 := l4 (by omega)
  obtain ⟨f1, f2, f3, f4⟩ := h.2
  obtain ⟨w8, e8, t8, -⟩ := S_demand (c := 300 + k) hp hz (by omega) (by omega) hS
  obtain ⟨T8, M8⟩ := t8 (by rw [h3.1, h3.2]; rfl)
  obtain ⟨w9, e9, R9⟩ := h.1 q w8 (by omega) T8
  obtain ⟨T9, c9, M9⟩ := R9
  obtain ⟨w2, e2, t2, -⟩ := S_demand (c := 59) f2 hz (by omega) (by omega) T9
  obtain ⟨T2, M2⟩ := t2 (by rw [h59]; rfl)
  exact ⟨w8, w9, w2, by rw [nI_add]; exact e8, e9, e2, T2, SQ_fr (fun i _ hi => M2.2.2.1 i hi) c9, SM_t M8 (SM_t M9 (SM_m (by omega) M2))⟩
theorem TXT {c0 c1 c2 : List Nat} {p1 p2 p3 : Nat} {w : am_W} (s0 : SPp x z T 0 0 (.inr (p1, c0))) (s1 : SPp x z T 1 p1 (.inr (p2, c1))) (s2 : SPp x z T 2 p2 (.inr (p3, c2))) (b1 : c0.length ≤ p1) (b2 : c0.length + c1.length ≤ p2) (b3 : c0.length + c1.length + c2.length ≤ 160) (hp3 : p3 ≤ z) (h0 : (lx x z p3).2.2.1 = 0) (h : RB x z w) : STx T w (F_Read_read T T w) (.inr (c0, c1, c2)) := by
  obtain ⟨w5, e5, T5, V5⟩ := S_start (T := T) h
  obtain ⟨w6, e6, T6, q6, n6, S6⟩ := S_go (F := 3999) (k := 0) (by omega) (Nat.le_refl 0) s0 T5
  obtain ⟨w7, e7, T7, q7, n7, S7⟩ := S_go (F := 3998) (k := 1) (by omega) (by omega) s1 T6
  obtain ⟨w8, e8, T8, q8, n8, S8⟩ := S_go (F := 3997) (k := 2) (by omega) (by omega) s2 T7
  have e9 := (S_last (F := 3996) hp3 (by omega) T8).1 h0
  obtain ⟨x1, x2, x3, x4, x5⟩ := ne28 T
  have n18' : Nat.beq (20 + 1 + T) 18 = false := nbf (by omega)
  rw [Nat.zero_add] at q7 n6 n7 q8 n8
  refine ⟨_, e5.trans (e6.trans (e7.trans (e8.trans e9))), ?_, ?_, ?_, ?_, wsf_at _ _ _ _, SV_t V5 (SV_t S6.1 (SV_t S7.1 (SV_t S8.1 SV_f))), T8.2.2.2.2.2.2.2⟩
  · refine SQ_fr (fun i _ _ => wsf_nc n18') (SQ_ap.mpr ⟨SQ_fr (fun i _ hi => (S8.2.1 i (by omega)).trans (S7.2.1 i (by omega))) q6, ?_⟩)
    rw [Nat.zero_add]
    exact SQ_ap.mpr ⟨SQ_fr (fun i _ hi => S8.2.1 i (by omega)) q7, q8⟩
  · exact (wsf_nc x4).trans ((S8.2.2 0 (by omega)).trans ((S7.2.2 0 (by omega)).trans n6))
  · exact (wsf_nc x4).trans ((S8.2.2 1 (by omega)).trans n7)
  · exact (wsf_nc x4).trans n8
end

/-- the text the law makes: its digits K, J, M -/
def tX (K J M i : Nat) : Nat := ([116, 97, 107, 101, 115, 32, 109, 111, 114, 101, 43, 115, 111, 114, 116, 42, 48 + K, 45, 107, 105, 110, 100, 59, 115, 97, 119, 115, 32, 109, 97, 110, 121, 42, 48 + J, 43, 116, 104, 105, 110, 103, 59, 109, 105, 110, 100, 115, 32, 104, 111, 117, 114, 43, 109, 111, 114, 101, 42, 48 + M, 59] : List Nat).getD i 0
theorem lx_t1_0 : ((List.range 128).all fun n => decide (lx (tX (n % 4) (n / 4 % 8) (n / 32)) 59 0 = (0, 5, 3, 0))) = true := by decide +kernel
theorem lx_t1_5 : ((List.range 128).all fun n => decide (lx (tX (n % 4) (n / 4 % 8) (n / 32)) 59 5 = (6, 10, 2, 0))) = true := by decide +kernel
theorem lx_t1_10 : ((List.range 128).all fun n => decide (lx (tX (n % 4) (n / 4 % 8) (n / 32)) 59 10 = (10, 11, 43, 0))) = true := by decide +kernel
theorem lx_t1_11 : ((List.range 128).all fun n => decide (lx (tX (n % 4) (n / 4 % 8) (n / 32)) 59 11 = (11, 15, 2, 1))) = true := by decide +kernel
theorem lx_t1_15 : ((List.range 128).all fun n => decide (lx (tX (n % 4) (n / 4 % 8) (n / 32)) 59 15 = (15, 16, 42, 0))) = true := by decide +kernel
theorem lx_t1_16 : ((List.range 128).all fun n => decide (lx (tX (n % 4) (n / 4 % 8) (n / 32)) 59 16 = (16, 17, 1, n % 4))) = true := by decide +kernel
theorem lx_t1_17 : ((List.range 128).all fun n => decide (lx (tX (n % 4) (n / 4 % 8) (n / 32)) 59 17 = (17, 18, 45, 0))) = true := by decide +kernel
theorem lx_t1_18 : ((List.range 128).all fun n => decide (lx (tX (n % 4) (n / 4 % 8) (n / 32)) 59 18 = (18, 22, 2, 5))) = true := by decide +kernel
theorem lx_t1_22 : ((List.range 128).all fun n => decide (lx (tX (n % 4) (n / 4 % 8) (n / 32)) 59 22 = (22, 23, 59, 0))) = true := by decide +kernel
theorem lx_t1_23 : ((List.range 128).all fun n => decide (lx (tX (n % 4) (n / 4 % 8) (n / 32)) 59 23 = (23, 27, 3, 1))) = true := by decide +kernel
theorem lx_t1_27 : ((List.range 128).all fun n => decide (lx (tX (n % 4) (n / 4 % 8) (n / 32)) 59 27 = (28, 32, 2, 4))) = true := by decide +kernel
theorem lx_t1_32 : ((List.range 128).all fun n => decide (lx (tX (n % 4) (n / 4 % 8) (n / 32)) 59 32 = (32, 33, 42, 0))) = true := by decide +kernel
theorem lx_t1_33 : ((List.range 128).all fun n => decide (lx (tX (n % 4) (n / 4 % 8) (n / 32)) 59 33 = (33, 34, 1, n / 4 % 8))) = true := by decide +kernel
theorem lx_t1_34 : ((List.range 128).all fun n => decide (lx (tX (n % 4) (n / 4 % 8) (n / 32)) 59 34 = (34, 35, 43, 0))) = true := by decide +kernel
theorem lx_t1_35 : ((List.range 128).all fun n => decide (lx (tX (n % 4) (n / 4 % 8) (n / 32)) 59 35 = (35, 40, 2, 3))) = true := by decide +kernel
theorem lx_t1_40 : ((List.range 128).all fun n => decide (lx (tX (n % 4) (n / 4 % 8) (n / 32)) 59 40 = (40, 41, 59, 0))) = true := by decide +kernel
theorem lx_t1_41 : ((List.range 128).all fun n => decide (lx (tX (n % 4) (n / 4 % 8) (n / 32)) 59 41 = (41, 46, 3, 2))) = true := by decide +kernel
theorem lx_t1_46 : ((List.range 128).all fun n => decide (lx (tX (n % 4) (n / 4 % 8) (n / 32)) 59 46 = (47, 51, 2, 2))) = true := by decide +kernel
theorem lx_t1_51 : ((List.range 128).all fun n => decide (lx (tX (n % 4) (n / 4 % 8) (n / 32)) 59 51 = (51, 52, 43, 0))) = true := by decide +kernel
theorem lx_t1_52 : ((List.range 128).all fun n => decide (lx (tX (n % 4) (n / 4 % 8) (n / 32)) 59 52 = (52, 56, 2, 0))) = true := by decide +kernel
theorem lx_t1_56 : ((List.range 128).all fun n => decide (lx (tX (n % 4) (n / 4 % 8) (n / 32)) 59 56 = (56, 57, 42, 0))) = true := by decide +kernel
theorem lx_t1_57 : ((List.range 128).all fun n => decide (lx (tX (n % 4) (n / 4 % 8) (n / 32)) 59 57 = (57, 58, 1, n / 32))) = true := by decide +kernel
theorem lx_t1_58 : ((List.range 128).all fun n => decide (lx (tX (n % 4) (n / 4 % 8) (n / 32)) 59 58 = (58, 59, 59, 0))) = true := by decide +kernel
theorem lx_t1_59 : ((List.range 128).all fun n => decide (lx (tX (n % 4) (n / 4 % 8) (n / 32)) 59 59 = (59, 59, 0, 0))) = true := by decide +kernel
theorem all_KJM {P : Nat → Nat → Nat → Prop} {hd : ∀ K J M, Decidable (P K J M)} (h : ((List.range 128).all fun n => decide (P (n % 4) (n / 4 % 8) (n / 32))) = true) {K J M : Nat} (hK : K < 4) (hJ : J < 8) (hM : M < 4) : P K J M := by
  have h2 := of_decide_eq_true (List.all_eq_true.mp h (K + 4 * J + 32 * M) (List.mem_range.mpr (by omega)))
  rwa [show (K + 4 * J + 32 * M) % 4 = K by omega, show (K + 4 * J + 32 * M) / 4 % 8 = J by omega, show (K + 4 * J + 32 * M) / 32 = M by omega] at h2
theorem lx_t1 {K J M : Nat} (hK : K < 4) (hJ : J < 8) (hM : M < 4) : lx (tX K J M) 59 0 = (0, 5, 3, 0) ∧ lx (tX K J M) 59 5 = (6, 10, 2, 0) ∧ lx (tX K J M) 59 10 = (10, 11, 43, 0) ∧ lx (tX K J M) 59 11 = (11, 15, 2, 1) ∧ lx (tX K J M) 59 15 = (15, 16, 42, 0) ∧ lx (tX K J M) 59 16 = (16, 17, 1, K) ∧ lx (tX K J M) 59 17 = (17, 18, 45, 0) ∧ lx (tX K J M) 59 18 = (18, 22, 2, 5) ∧ lx (tX K J M) 59 22 = (22, 23, 59, 0) ∧ lx (tX K J M) 59 23 = (23, 27, 3, 1) ∧ lx (tX K J M) 59 27 = (28, 32, 2, 4) ∧ lx (tX K J M) 59 32 = (32, 33, 42, 0) ∧ lx (tX K J M) 59 33 = (33, 34, 1, J) ∧ lx (tX K J M) 59 34 = (34, 35, 43, 0) ∧ lx (tX K J M) 59 35 = (35, 40, 2, 3) ∧ lx (tX K J M) 59 40 = (40, 41, 59, 0) ∧ lx (tX K J M) 59 41 = (41, 46, 3, 2) ∧ lx (tX K J M) 59 46 = (47, 51, 2, 2) ∧ lx (tX K J M) 59 51 = (51, 52, 43, 0) ∧ lx (tX K J M) 59 52 = (52, 56, 2, 0) ∧ lx (tX K J M) 59 56 = (56, 57, 42, 0) ∧ lx (tX K J M) 59 57 = (57, 58, 1, M) ∧ lx (tX K J M) 59 58 = (58, 59, 59, 0) ∧ lx (tX K J M) 59 59 = (59, 59, 0, 0) := ⟨all_KJM (P := fun K J M => lx (tX K J M) 59 0 = (0, 5, 3, 0)) lx_t1_0 hK hJ hM, all_KJM (P := fun K J M => lx (tX K J M) 59 5 = (6, 10, 2, 0)) lx_t1_5 hK hJ hM, all_KJM (P := fun K J M => lx (tX K J M) 59 10 = (10, 11, 43, 0)) lx_t1_10 hK hJ hM, all_KJM (P := fun K J M => lx (tX K J M) 59 11 = (11, 15, 2, 1)) lx_t1_11 hK hJ hM, all_KJM (P := fun K J M => lx (tX K J M) 59 15 = (15, 16, 42, 0)) lx_t1_15 hK hJ hM, all_KJM (P := fun K J M => lx (tX K J M) 59 16 = (16, 17, 1, K)) lx_t1_16 hK hJ hM, all_KJM (P := fun K J M => lx (tX K J M) 59 17 = (17, 18, 45, 0)) lx_t1_17 hK hJ hM, all_KJM (P := fun K J M => lx (tX K J M) 59 18 = (18, 22, 2, 5)) lx_t1_18 hK hJ hM, all_KJM (P := fun K J M => lx (tX K J M) 59 22 = (22, 23, 59, 0)) lx_t1_22 hK hJ hM, all_KJM (P := fun K J M => lx (tX K J M) 59 23 = (23, 27, 3, 1)) lx_t1_23 hK hJ hM, all_KJM (P := fun K J M => lx (tX K J M) 59 27 = (28, 32, 2, 4)) lx_t1_27 hK hJ hM, all_KJM (P := fun K J M => lx (tX K J M) 59 32 = (32, 33, 42, 0)) lx_t1_32 hK hJ hM, all_KJM (P := fun K J M => lx (tX K J M) 59 33 = (33, 34, 1, J)) lx_t1_33 hK hJ hM, all_KJM (P := fun K J M => lx (tX K J M) 59 34 = (34, 35, 43, 0)) lx_t1_34 hK hJ hM, all_KJM (P := fun K J M => lx (tX K J M) 59 35 = (35, 40, 2, 3)) lx_t1_35 hK hJ hM, all_KJM (P := fun K J M => lx (tX K J M) 59 40 = (40, 41, 59, 0)) lx_t1_40 hK hJ hM, all_KJM (P := fun K J M => lx (tX K J M) 59 41 = (41, 46, 3, 2)) lx_t1_41 hK hJ hM, all_KJM (P := fun K J M => lx (tX K J M) 59 46 = (47, 51, 2, 2)) lx_t1_46 hK hJ hM, all_KJM (P := fun K J M => lx (tX K J M) 59 51 = (51, 52, 43, 0)) lx_t1_51 hK hJ hM, all_KJM (P := fun K J M => lx (tX K J M) 59 52 = (52, 56, 2, 0)) lx_t1_52 hK hJ hM, all_KJM (P := fun K J M => lx (tX K J M) 59 56 = (56, 57, 42, 0)) lx_t1_56 hK hJ hM, all_KJM (P := fun K J M => lx (tX K J M) 59 57 = (57, 58, 1, M)) lx_t1_57 hK hJ hM, all_KJM (P := fun K J M => lx (tX K J M) 59 58 = (58, 59, 59, 0)) lx_t1_58 hK hJ hM, all_KJM (P := fun K J M => lx (tX K J M) 59 59 = (59, 59, 0, 0)) lx_t1_59 hK hJ hM⟩
def lawX (i : Nat) : Nat := lawB.getD i 0
theorem lx_t0 : lx lawX 40 0 = (0, 5, 3, 0) ∧ lx lawX 40 5 = (6, 7, 1, 0) ∧ lx lawX 40 7 = (8, 9, 59, 0) ∧ lx lawX 40 9 = (10, 14, 3, 1) ∧ lx lawX 40 14 = (15, 17, 1, 10) ∧ lx lawX 40 17 = (18, 19, 43, 0) ∧ lx lawX 40 19 = (20, 24, 2, 1) ∧ lx lawX 40 24 = (25, 26, 42, 0) ∧ lx lawX 40 26 = (27, 28, 1, 5) ∧ lx lawX 40 28 = (29, 30, 59, 0) ∧ lx lawX 40 30 = (31, 36, 3, 2) ∧ lx lawX 40 36 = (37, 38, 1, 1) ∧ lx lawX 40 38 = (39, 40, 59, 0) ∧ lx lawX 40 40 = (40, 40, 0, 0) := ⟨by decide +kernel, by decide +kernel, by decide +kernel, by decide +kernel, by decide +kernel, by decide +kernel, by decide +kernel, by decide +kernel, by decide +kernel, by decide +kernel, by decide +kernel, by decide +kernel, by decide +kernel, by decide +kernel⟩
section
variable {x : Nat → Nat} {z T : Nat}
theorem PX_n {n p b e v : Nat} (hT : T < 6) (hz : z ≤ 160) (hp : p ≤ z) (h : lx x z p = (b, e, 1, v)) : PX x z T (n + 2) 5 p (.inr (e, [100000 + v])) := by
  have q := PX_op (x := x) (z := z) (T := T) (n := n) hT hz hp (by rw [h]; exact Or.inl rfl)
  rw [h] at q
  exact q
theorem PX_a {n p b e v : Nat} (hT : T < 6) (hz : z ≤ 160) (hp : p ≤ z) (h : lx x z p = (b, e, 2, v)) : PX x z T (n + 2) 5 p (.inr (e, [v])) := by
  have q := PX_op (x := x) (z := z) (T := T) (n := n) hT hz hp (by rw [h]; exact Or.inr rfl)
  rw [h] at q
  exact q
/-- an operand that nothing multiplies -/
theorem PX_4 {n p p2 b e k v b2 e2 k2 v2 : Nat} {cs : List Nat} (hp : p ≤ z) (hk : lx x z p = (b, e, k, v)) (h : PX x z T n 5 p (.inr (p2, cs))) (h2 : lx x z p2 = (b2, e2, k2, v2)) (hj : ¬ jl k2 = 4) : PX x z T (n + 1) 4 p (.inr (p2, cs)) := by
  have q := PX_w (r := 4) (by omega) (fun q => by omega) hp h (by rw [h2]; exact hj)
  rw [List.append_nil] at q
  exact q
theorem PX_J1 {n r p p1 p2 b1 e1 k1 v1 b2 e2 k2 v2 : Nat} {c1 c2 : List Nat} (hT : T < 6) (hz : z ≤ 160) (hr : r ≤ 4) (h2r : ¬ r = 2) (hp : p ≤ z) (h1 : PX x z T n (r + 1) p (.inr (p1, c1))) (q1 : lx x z p1 = (b1, e1, k1, v1)) (hj1 : jl k1 = r) (h2 : PX x z T n (r + 1) e1 (.inr (p2, c2))) (q2 : lx x z p2 = (b2, e2, k2, v2)) (hj2 : ¬ jl k2 = r) : PX x z T (n + 1) r p (.inr (p2, c1 ++ (c2 ++ sg k1 :: []))) := by
  have q := PX_j1 hT hz hr h2r hp h1 (by rw [q1]; exact hj1) (by rw [q1]; exact h2) (by rw [q2]; exact hj2)
  rw [q1] at q
  exact q
theorem PX_J2 {n r p p1 p2 p3 b1 e1 k1 v1 b2 e2 k2 v2 b3 e3 k3 v3 : Nat} {c1 c2 c3 : List Nat} (hT : T < 6) (hz : z ≤ 160) (hr : r ≤ 4) (h2r : ¬ r = 2) (hp : p ≤ z) (h1 : PX x z T n (r + 1) p (.inr (p1, c1))) (q1 : lx x z p1 = (b1, e1, k1, v1)) (hj1 : jl k1 = r) (h2 : PX x z T n (r + 1) e1 (.inr (p2, c2))) (q2 : lx x z p2 = (b2, e2, k2, v2)) (hj2 : jl k2 = r) (h3 : PX x z T n (r + 1) e2 (.inr (p3, c3))) (q3 : lx x z p3 = (b3, e3, k3, v3)) (hj3 : ¬ jl k3 = r) : PX x z T (n + 1) r p (.inr (p3, c1 ++ (c2 ++ sg k1 :: (c3 ++ sg k2 :: [])))) := by
  have q := PX_j2 hT hz hr h2r hp h1 (by rw [q1]; exact hj1) (by rw [q1]; exact h2) (by rw [q2]; exact hj2) (by rw [q2]; exact h3) (by rw [q3]; exact hj3)
  rw [q1, q2] at q
  exact q
theorem SPP {k p p3 b e b1 e1 k1 v1 b3 e3 v3 : Nat} {cs : List Nat} (hz : z ≤ 160) (hp : p ≤ z) (hk : k < 3) (h3 : lx x z p = (b, e, 3, k)) (he : e ≤ z) (h1 : lx x z e = (b1, e1, k1, v1)) (h6 : ¬ k1 = 6) (h : PX x z T 97 3 e (.inr (p3, cs))) (h59 : lx x z p3 = (b3, e3, 59, v3)) : SPp x z T k p (.inr (e3, cs)) := by
  have t := PX_top (n := 97) he (by rw [h1]; exact h6) h (by rw [h59])
  have q := SPp_ok (k := k) hz hp hk (by rw [h3]; exact ⟨rfl, rfl⟩) (by rw [h3]; exact t) (by rw [h59])
  rw [h59] at q
  exact q
end
/-- the first text -/
theorem TXT0 {w : am_W} (h : RB lawX 40 w) : STx 0 w (F_Read_read 0 0 w) (.inr ([100000], [100010, 1, 100005, 18, 16], [100001])) := by
  obtain ⟨t0, t1, t2, t3, t4, t5, t6, t7, t8, t9, ta, tb, tc, td⟩ := lx_t0
  have a1 : PX lawX 40 0 97 3 5 (.inr (7, [100000])) := by
    have q := PX_w (r := 3) (by omega) (fun q => by omega) (by omega) (PX_4 (by omega) t1 (PX_n (n := 93) (T := 0) (by omega) (by omega) (by omega) t1) t2 (by decide)) (by rw [t2]; decide)
    exact q
  have a2 : PX lawX 40 0 97 3 14 (.inr (28, [100010, 1, 100005, 18, 16])) := PX_J1 (by omega) (by omega) (by omega) (by omega) (by omega) (PX_4 (by omega) t4 (PX_n (n := 93) (T := 0) (by omega) (by omega) (by omega) t4) t5 (by decide)) t5 rfl (PX_J1 (by omega) (by omega) (by omega) (by omega) (by omega) (PX_a (n := 93) (T := 0) (by omega) (by omega) (by omega) t6) t7 rfl (PX_n (n := 93) (T := 0) (by omega) (by omega) (by omega) t8) t9 (by decide)) t9 (by decide)
  have a3 : PX lawX 40 0 97 3 36 (.inr (38, [100001])) := by
    have q := PX_w (r := 3) (by omega) (fun q => by omega) (by omega) (PX_4 (by omega) tb (PX_n (n := 93) (T := 0) (by omega) (by omega) (by omega) tb) tc (by decide)) (by rw [tc]; decide)
    exact q
  have s0 := SPP (by omega) (by omega) (by omega) t0 (by omega) t1 (by decide) a1 t2
  have s1 := SPP (by omega) (by omega) (by omega) t3 (by omega) t4 (by decide) a2 t9
  have s2 := SPP (by omega) (by omega) (by omega) ta (by omega) tb (by decide) a3 tc
  exact TXT s0 s1 s2 (by decide) (by decide) (by decide) (by omega) (by rw [td]) h
/-- the other text -/
theorem TXT1 {K J M : Nat} (hK : K < 4) (hJ : J < 8) (hM : M < 4) {w : am_W} (h : RB (tX K J M) 59 w) : STx 1 w (F_Read_read 1 1 w) (.inr ([0, 1, 100000 + K, 18, 16, 5, 17], [4, 100000 + J, 18, 3, 16], [2, 0, 100000 + M, 18, 16])) := by
  obtain ⟨t0, t5, t10, t11, t15, t16, t17, t18, t22, t23, t27, t32, t33, t34, t35, t40, t41, t46, t51, t52, t56, t57, t58, t59⟩ := lx_t1 hK hJ hM
  have a1 : PX (tX K J M) 59 1 97 3 5 (.inr (22, [0, 1, 100000 + K, 18, 16, 5, 17])) := PX_J2 (by omega) (by omega) (by omega) (by omega) (by omega) (PX_4 (by omega) t5 (PX_a (n := 93) (T := 1) (by omega) (by omega) (by omega) t5) t10 (by decide)) t10 rfl (PX_J1 (by omega) (by omega) (by omega) (by omega) (by omega) (PX_a (n := 93) (T := 1) (by omega) (by omega) (by omega) t11) t15 rfl (PX_n (n := 93) (T := 1) (by omega) (by omega) (by omega) t16) t17 (by decide)) t17 rfl (PX_4 (by omega) t18 (PX_a (n := 93) (T := 1) (by omega) (by omega) (by omega) t18) t22 (by decide)) t22 (by decide)
  have a2 : PX (tX K J M) 59 1 97 3 27 (.inr (40, [4, 100000 + J, 18, 3, 16])) := PX_J1 (by omega) (by omega) (by omega) (by omega) (by omega) (PX_J1 (by omega) (by omega) (by omega) (by omega) (by omega) (PX_a (n := 93) (T := 1) (by omega) (by omega) (by omega) t27) t32 rfl (PX_n (n := 93) (T := 1) (by omega) (by omega) (by omega) t33) t34 (by decide)) t34 rfl (PX_4 (by omega) t35 (PX_a (n := 93) (T := 1) (by omega) (by omega) (by omega) t35) t40 (by decide)) t40 (by decide)
  have a3 : PX (tX K J M) 59 1 97 3 46 (.inr (58, [2, 0, 100000 + M, 18, 16])) := PX_J1 (by omega) (by omega) (by omega) (by omega) (by omega) (PX_4 (by omega) t46 (PX_a (n := 93) (T := 1) (by omega) (by omega) (by omega) t46) t51 (by decide)) t51 rfl (PX_J1 (by omega) (by omega) (by omega) (by omega) (by omega) (PX_a (n := 93) (T := 1) (by omega) (by omega) (by omega) t52) t56 rfl (PX_n (n := 93) (T := 1) (by omega) (by omega) (by omega) t57) t58 (by decide)) t58 (by decide)
  have s0 := SPP (by omega) (by omega) (by omega) t0 (by omega) t5 (by decide) a1 t22
  have s1 := SPP (by omega) (by omega) (by omega) t23 (by omega) t27 (by decide) a2 t40
  have s2 := SPP (by omega) (by omega) (by omega) t41 (by omega) t46 (by decide) a3 t58
  exact TXT s0 s1 s2 (show 7 ≤ 23 by omega) (show 12 ≤ 41 by omega) (show 17 ≤ 160 by omega) (by omega) (by rw [t59]) h
/-! the laws by their codes, and what they say -/
theorem gd_l : ∀ {a b : List Nat} {i : Nat}, i < a.length → (a ++ b).getD i 0 = a.getD i 0
  | [], _, _, h => absurd h (Nat.not_lt_zero _)
  | _ :: _, _, 0, _ => rfl
  | _ :: a, b, i + 1, h => gd_l (a := a) (b := b) (i := i) (Nat.lt_of_succ_lt_succ h)
theorem gd_r : ∀ {a b : List Nat} {i : Nat}, (a ++ b).getD (a.length + i) 0 = b.getD i 0
  | [], b, i => by rw [List.nil_append]; show b.getD (0 + i) 0 = _; rw [Nat.zero_add]
  | c :: a, b, i => by
    show (c :: (a ++ b)).getD (a.length + 1 + i) 0 = _
    rw [show a.length + 1 + i = (a.length + i) + 1 from by omega]
    exact gd_r (a := a) (b := b) (i := i)
def teN (T : Nat) (c0 c1 c2 : List Nat) (te : Nat → Nat → Nat) (t : Nat) : Nat → Nat := if t = T then fun p => [0, c0.length, c0.length + c1.length, c0.length + c1.length + c2.length].getD p 0 else te t
def tcN (T : Nat) (c0 c1 c2 : List Nat) (tc : Nat → Nat → Nat) (t : Nat) : Nat → Nat := if t = T then fun i => (c0 ++ (c1 ++ c2)).getD i 0 else tc t
theorem TX_new {T : Nat} {c0 c1 c2 : List Nat} {te tc : Nat → Nat → Nat} {w2 : am_W} (hf : FT (.inr (c0, c1, c2))) (h1 : SQ stp (c0 ++ (c1 ++ c2)) 0 (w2.1 (20 + 1 + T))) (h2 : w2.1 (27 + 1 + T) 0 = nI c0.length ∧ w2.1 (27 + 1 + T) 1 = nI (c0.length + c1.length) ∧ w2.1 (27 + 1 + T) 2 = nI (c0.length + c1.length + c2.length)) (h5 : TX T te tc w2) : TX (T + 1) (teN T c0 c1 c2 te) (tcN T c0 c1 c2 tc) w2 := fun t ht => by
  unfold teN tcN
  by_cases e : t = T
  · subst e
    obtain ⟨f1, f2, f3, f4⟩ := hf
    rw [if_pos rfl, if_pos rfl]
    have t0 : hts (fun i => (c0 ++ (c1 ++ c2)).getD i 0) c0.length 0 0 := hl_hts f2 (fun i hi => by
      show (c0 ++ (c1 ++ c2)).getD (0 + i) 0 = _
      rw [Nat.zero_add, gd_l hi])
    have t1 : hts (fun i => (c0 ++ (c1 ++ c2)).getD i 0) c1.length c0.length 0 := hl_hts f3 (fun i hi => by
      show (c0 ++ (c1 ++ c2)).getD (c0.length + i) 0 = _
      rw [gd_r, gd_l hi])
    have t2 : hts (fun i => (c0 ++ (c1 ++ c2)).getD i 0) c2.length (c0.length + c1.length) 0 := hl_hts f4 (fun i hi => by
      show (c0 ++ (c1 ++ c2)).getD (c0.length + c1.length + i) 0 = _
      rw [Nat.add_assoc, gd_r, gd_r])
    refine ⟨rfl, Nat.zero_le _, Nat.le_add_right _ _, Nat.le_add_right _ _, f1, fun p hp => ?_, trivial, fun i hi => ?_⟩
    · match p, hp with
      | 0, _ => exact ⟨h2.1, t0⟩
      | 1, _ =>
        refine ⟨h2.2.1, ?_⟩
        show hts _ (c0.length + c1.length - c0.length) c0.length 0
        rw [Nat.add_sub_cancel_left]; exact t1
      | 2, _ =>
        refine ⟨h2.2.2, ?_⟩
        show hts _ (c0.length + c1.length + c2.length - (c0.length + c1.length)) (c0.length + c1.length) 0
        rw [Nat.add_sub_cancel_left]; exact t2
    · have hi : i < c0.length + c1.length + c2.length := hi
      have g1 := SQ_at (i := i) h1 (by rw [List.length_append, List.length_append]; omega)
      rw [Nat.zero_add] at g1
      exact ⟨g1, trivial⟩
  · have := h5 t (by omega)
    rw [if_neg e, if_neg e]
    exact this
abbrev te0 : Nat → Nat → Nat := teN 0 [100000] [100010, 1, 100005, 18, 16] [100001] (fun _ _ => 0)
abbrev tc0 : Nat → Nat → Nat := tcN 0 [100000] [100010, 1, 100005, 18, 16] [100001] (fun _ _ => 0)
abbrev te1 (a b c : Nat) : Nat → Nat → Nat := teN 1 [0, 1, a, 18, 16, 5, 17] [4, b, 18, 3, 16] [2, 0, c, 18, 16] te0
abbrev tc1 (a b c : Nat) : Nat → Nat → Nat := tcN 1 [0, 1, a, 18, 16, 5, 17] [4, b, 18, 3, 16] [2, 0, c, 18, 16] tc0
theorem FT_0 : FT (.inr ([100000], [100010, 1, 100005, 18, 16], [100001])) := ⟨by decide, by decide +kernel, by decide +kernel, by decide +kernel⟩
theorem FT_1a : ∀ K, K < 4 → hl [0, 1, 100000 + K, 18, 16, 5, 17] 0 = some 1 := by decide +kernel
theorem FT_1b : ∀ J, J < 8 → hl [4, 100000 + J, 18, 3, 16] 0 = some 1 := by decide +kernel
theorem FT_1c : ∀ M, M < 4 → hl [2, 0, 100000 + M, 18, 16] 0 = some 1 := by decide +kernel
theorem FT_1 {K J M : Nat} (hK : K < 4) (hJ : J < 8) (hM : M < 4) : FT (.inr ([0, 1, 100000 + K, 18, 16, 5, 17], [4, 100000 + J, 18, 3, 16], [2, 0, 100000 + M, 18, 16])) := ⟨by show 17 ≤ 160; omega, FT_1a K hK, FT_1b J hJ, FT_1c M hM⟩
theorem sw_0 {v : am_V} {l : Nat} : sw v te0 tc0 0 l = cl (nI 10 + nI (v 5 l) * nI 5) := rfl
section
variable {c : Nat → Nat} {nm st : Nat → Int32} {k i d x : Nat}
theorem ev_a (h : c i = x) (hx : Nat.ble x 5 = true) : ev c nm (k + 1) i d st = ev c nm k (i + 1) (d + 1) (upd st d (nm x)) := by rw [ev, h, hx, cond_true]
theorem ev_b (h : c i = x) (h1 : Nat.ble x 5 = false) (h2 : Nat.ble 100000 x = true) : ev c nm (k + 1) i d st = ev c nm k (i + 1) (d + 1) (upd st d (nI (x - 100000))) := by rw [ev, h, h1, h2, cond_false, cond_true]
theorem ev_c (h : c i = x) (h1 : Nat.ble x 5 = false) (h2 : Nat.ble 100000 x = false) (h3 : Nat.beq x 13 = false) (h4 : Nat.beq x 19 = false) : ev c nm (k + 1) i d st = ev c nm k (i + 1) (d - 1) (upd st (d - 2) (jn x (st (d - 2)) (st (d - 1)))) := by rw [ev, h, h1, h2, h3, h4, cond_false, cond_false, cond_false, cond_false]
end
theorem ev_g {a b c : Nat} {v : am_V} {l : Nat} (a1 : Nat.ble b 5 = false) (a2 : Nat.ble 100000 b = true) : sw v (te1 a b c) (tc1 a b c) 1 l = cl (nI (pc (v 6 l) 10) * nI (b - 100000) + nI (v 4 l)) := by
  show cl (ev (tc1 a b c 1) (nmF v (v 4 l) (some l) 0) 5 7 0 (fun _ => nI 0)) = _
  rw [ev_a (x := 4) rfl rfl, ev_b (x := b) rfl a1 a2, ev_c (x := 18) rfl rfl rfl rfl rfl, ev_a (x := 3) rfl rfl, ev_c (x := 16) rfl rfl rfl rfl rfl]
  rfl
theorem ev_1 {a c J : Nat} {v : am_V} {l : Nat} : sw v (te1 a (100000 + J) c) (tc1 a (100000 + J) c) 1 l = cl (nI (pc (v 6 l) 10) * nI J + nI (v 4 l)) := by
  rw [ev_g (Bool.eq_false_iff.mpr (fun q => by have := Nat.le_of_ble_eq_true q; omega)) (Nat.ble_eq_true_of_le (by omega)), show 100000 + J - 100000 = J by omega]
section
variable {L : Nat} {xs : Nat → Int32}
/-- the digits -/
def wKd (L : Nat) (xs : Nat → Int32) : Nat := fl (wA L xs 0) 7 2
def wJd (L : Nat) (xs : Nat → Int32) : Nat := fl (wA L xs 0) 9 3
def wMd (L : Nat) (xs : Nat → Int32) : Nat := fl (wA L xs 0) 12 2
theorem W_saws0 (hL : L ≤ 260) {l : Nat} (hl : l < 100) (hp : wP L xs = true) : F_W_saws L xs (nI (wO L xs l)) (nI l) = some (sw (wV L xs) te0 tc0 0 l) := by
  have h5 : wS L xs l < 3 := by unfold wS; omega
  have e : sw (wV L xs) te0 tc0 0 l = nI (10 + 5 * wS L xs l) := by
    rw [sw_0]
    show cl (nI 10 + nI (wS L xs l) * nI 5) = _
    rw [pk_mul, nI_add, Nat.mul_comm (wS L xs l) 5]
    exact cl_k (by omega)
  unfold F_W_saws F_W_saws_48
  rw [W_plain hL, bn_V, hp, e, bi_ite, cond_V1, W_sort hL hl, bn_V, pk_mul, nI_add]
theorem W_saws1 (hL : L ≤ 260) {a c l : Nat} (hl : l < 100) (hp : wP L xs = false) : F_W_saws L xs (nI (wO L xs l)) (nI l) = some (sw (wV L xs) (te1 a (100000 + wJd L xs) c) (tc1 a (100000 + wJd L xs) c) 1 l) := by
  have h6 := wT_lt (L := L) (xs := xs) (l := l)
  rw [ev_1]
  unfold F_W_saws F_W_saws_48
  rw [W_plain hL, bn_V, hp, bi_ite, cond_V0, W_through hL hl, bn_V, W_bits h6, bn_V, W_at hL (by omega), bn_V, fl_e _ 9 3 (by rfl)]
  unfold F_W_held
  rw [bn_V]
  rfl
theorem sw_ok {te tc : Nat → Nat → Nat} {f l : Nat} {v : am_V} : ∃ k, k ≤ 99 ∧ sw v te tc f l = nI k := sy_nI v te tc f 1 (v 4 l) (some l) 0
end

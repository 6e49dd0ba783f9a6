/-! ===== one of the three parts of a text ===== -/
section
variable {x : Nat → Nat} {z T : Nat}
theorem S_demand {p q c : Nat} {w : am_W} (hp : p ≤ z) (hz : z ≤ 160) (hq : q ≤ 160) (hc : c < 1000) (h : ST x z T p q w) : ∃ w2, F_Read_demand (nI c) w = some w2 ∧ (ctk (lx x z p).2.2.1 (lx x z p).2.2.2 = c → ST x z T (lx x z p).2.1 q w2 ∧ SM T q w w2) ∧ (¬ ctk (lx x z p).2.2.1 (lx x z p).2.2.2 = c → SX x z T (lx x z p).1 w2 ∧ SM T 0 w w2) := by
  have hcv := ctk_v (lx_ok x hp).2.2.2.2
  unfold F_Read_demand F_Read_demand_19
  rw [h.2.2.2.2.1]
  by_cases e : ctk (lx x z p).2.2.1 (lx x z p).2.2.2 = c
  · obtain ⟨w2, e2, T2, M2⟩ := S_advance h hp
    rw [ieq_t e, e2, bn_s]
    exact ⟨w2, rfl, fun _ => ⟨T2, M2⟩, fun q => absurd e q⟩
  · obtain ⟨w2, e2, T2, M2⟩ := T_refuse h hq
    rw [ieq_f e (by omega) (by omega), e2, bn_s]
    exact ⟨w2, rfl, fun q => absurd q e, fun _ => ⟨T2, M2⟩⟩
theorem X_demand {b c : Nat} {w : am_W} (hc : c < 1000) (h9 : ¬ 309 = c) (h : SX x z T b w) : ∃ w2, F_Read_demand (nI c) w = some w2 ∧ SX x z T b w2 ∧ SM T 0 w w2 := by
  obtain ⟨w2, e2, X2, M2⟩ := X_refuse h
  unfold F_Read_demand F_Read_demand_19
  rw [h.2.2.2.1, ieq_f h9 (by omega) (by omega), e2, bn_s]
  exact ⟨w2, rfl, X2, M2⟩
/-- the model between two parts -/
def DP (x : Nat → Nat) (z T p q : Nat) (w : am_W) : Prop := DT x z w ∧ ABC w ∧ w.1 53 12 = nI T ∧ w.1 53 25 = nI p ∧ w.1 53 33 = nI q
def DV (T q k : Nat) (w w2 : am_W) : Prop := EX (fun a => Nat.beq a 53 || (Nat.beq a 59 || (Nat.beq a 60 || Nat.beq a 67))) w w2 ∧ (∀ j, j < 25 → w2.1 53 j = w.1 53 j) ∧ (∀ i, i < 200 * T + q → w2.1 59 i = w.1 59 i) ∧ ∀ i, i < 4 * T + k → w2.1 60 i = w.1 60 i
theorem DV_t {T q k : Nat} {a b c : am_W} (h : DV T q k a b) (g : DV T q k b c) : DV T q k a c := ⟨EX_t h.1 g.1, fun j hj => (g.2.1 j hj).trans (h.2.1 j hj), fun i hi => (g.2.2.1 i hi).trans (h.2.2.1 i hi), fun i hi => (g.2.2.2 i hi).trans (h.2.2.2 i hi)⟩
theorem DV_m {T q k q2 k2 : Nat} {a b : am_W} (h1 : q ≤ q2) (h2 : k ≤ k2) (h : DV T q2 k2 a b) : DV T q k a b := ⟨h.1, h.2.1, fun i hi => h.2.2.1 i (by omega), fun i hi => h.2.2.2 i (by omega)⟩
theorem DV_M {T q k : Nat} {a b : am_W} (h : DM T q a b) : DV T q k a b := ⟨EX_m (fun c hc => by
  simp only [Bool.or_eq_false_iff] at hc ⊢
  exact ⟨hc.1, hc.2.1, hc.2.2.2⟩) h.1, h.2.1, h.2.2, fun i _ => by rw [h.1 60 rfl]⟩
theorem DV_r (T q k : Nat) (w : am_W) : DV T q k w w := ⟨EX_r _ w, fun _ _ => rfl, fun _ _ => rfl, fun _ _ => rfl⟩
theorem DT_v {T q k : Nat} {w w2 : am_W} (h : DV T q k w w2) (g : DT x z w) : DT x z w2 := ⟨g.1, (h.2.1 9 (by omega)).trans g.2.1, fun i hi => by rw [h.1 58 rfl]; exact g.2.2 i hi⟩
theorem ABC_v {T q k : Nat} {w w2 : am_W} (h : DV T q k w w2) (g : ABC w) : ABC w2 := fun i hi => by rw [h.1 66 rfl]; exact g i hi
theorem D_tok2 {p q : Nat} {w : am_W} (h : DP x z T p q w) (hp : p ≤ z) : ∃ w2, F_Mod_next w = some w2 ∧ DP x z T (lx x z p).2.1 q w2 ∧ (∀ Q K, DV T Q K w w2) ∧ w2.1 53 26 = nI (lx x z p).1 ∧ w2.1 53 27 = dtk (lx x z p).2.2.1 ∧ ((lx x z p).2.2.1 = 1 ∨ (lx x z p).2.2.1 = 2 ∨ (lx x z p).2.2.1 = 3 → w2.1 53 28 = nI (lx x z p).2.2.2) := by
  obtain ⟨h1, h2, h3, h4, h7⟩ := h
  obtain ⟨w2, e1, e2, e3, e4, e5, e6, e7⟩ := D_next h1 h2 h4 hp
  have hM : ∀ Q K, DV T Q K w w2 := fun Q K => ⟨fun a ha => e2 a (by rw [Bool.or_eq_false_iff] at ha; exact ha.1), fun j hj => e3 j (by omega) (by omega) (by omega) (by omega), fun i _ => by rw [e2 59 rfl], fun i _ => by rw [e2 60 rfl]⟩
  exact ⟨w2, e1, ⟨DT_v (hM 0 0) h1, ABC_v (hM 0 0) h2, ((hM 0 0).2.1 12 (by omega)).trans h3, e5, (e3 33 (by omega) (by omega) (by omega) (by omega)).trans h7⟩, hM, e4, e6, e7⟩
/-- an E and its ; in the model -/
theorem D_eRead {p q : Nat} {res : Nat ⊕ (Nat × List Nat)} {w : am_W} (hT : T < 6) (hz : z ≤ 160) (hp : p ≤ z) (hq : q ≤ p) (hfa : FA z 0 0 p res) (hr : DC x z T 0 0 p res) (h : DP x z T p q w) : match res with
    | .inl b => ∃ w2, F_Mod_eRead w = some (nI 0, w2) ∧ w2.1 53 26 = nI b ∧ DM T q w w2
    | .inr (p2, cs) => ((lx x z p2).2.2.1 = 59 → ∃ w2, F_Mod_eRead w = some (nI 1, w2) ∧ DP x z T (lx x z p2).2.1 (q + cs.length) w2 ∧ SQ nI cs (200 * T + q) (w2.1 59) ∧ DM T q w w2) ∧ (¬ (lx x z p2).2.2.1 = 59 → ∃ w2, F_Mod_eRead w = some (nI 0, w2) ∧ w2.1 53 26 = nI (lx x z p2).1 ∧ DM T q w w2) := by
  obtain ⟨h1, h2, h3, h4, h7⟩ := h
  have N0 : DN T q w (wsf (wsf w 53 31 (nI 0)) 53 32 (nI 0)) := DN_t (DN_f (by omega)) (DN_f (by omega))
  have k : ∀ j, ¬ j = 31 → ¬ j = 32 → (wsf (wsf w 53 31 (nI 0)) 53 32 (nI 0)).1 53 j = w.1 53 j := fun j j1 j2 => by rw [wsf_ne j2, wsf_ne j1]
  have D0 : DS x z T p 0 q [] (wsf (wsf w 53 31 (nI 0)) 53 32 (nI 0)) := ⟨DT_m (DN_d N0) h1, ABC_m (DN_d N0) h2, (k 12 (by omega) (by omega)).trans h3, (k 25 (by omega) (by omega)).trans h4, by rw [wsf_ne (by omega), wsf_at]; rfl, wsf_at _ _ _ _, (k 33 (by omega) (by omega)).trans h7, trivial⟩
  have e0 : F_Mod_eRead w = L_Mod_eRead_14 am_NF (nI 1) (nI 1) (wsf (wsf w 53 31 (nI 0)) 53 32 (nI 0)) := rfl
  have h9 := hr [] q am_NF 1 _ D0 trivial (by show 0 + q ≤ p; omega) (by show z < 4000 + p; omega) ⟨Or.inr rfl, fun _ => rfl, fun q => absurd q (by omega)⟩
  rw [← e0] at h9
  have M0 := DN_d N0
  cases res with
  | inl b =>
    obtain ⟨w5, e5, e6, e7⟩ := h9
    exact ⟨w5, e5, e6, DM_t M0 e7⟩
  | inr y =>
    obtain ⟨p2, cs⟩ := y
    obtain ⟨f1, f2, f3, -⟩ := hfa
    obtain ⟨w5, F2, m2, cn, pd, e5, e6, e7, e8, e9, e10, e11, e12⟩ := h9
    rw [List.nil_append] at e7
    have hcs : cs.length = cn.length + pd.length := by rw [e7, List.length_append]
    have hl : (pd ++ ([] : List Nat)).length = pd.length := by rw [List.append_nil]
    have cpd := cnb pd
    obtain ⟨n1, n2, n3, n4, n5⟩ := lx_ok x f2
    have hk100 := tk_lt n5
    have hM5 := DM_t M0 e10
    refine ⟨fun q59 => ?_, fun q59 => ?_⟩
    · obtain ⟨G2, w6, rfl, g6, D6, M6, b6, t6, v6⟩ := D_e14 e8 f2 e6 (nI 0) (nI m2)
      obtain ⟨w7, g7, D7, c7, N7⟩ := D_unwinds (ls := 1) hT (by omega) (H := []) trivial pd (q + cn.length) am_NF w6 D6 e11 (by omega) (by omega) (by show _ < 4000; omega)
      have g7 : F_Mod_unwinds (nI 1) w6 = some w7 := g7
      obtain ⟨d1, d2, d3, d4, d5, d6, d7, d8⟩ := D7
      have d5 : w7.1 53 31 = nI 0 := d5
      refine ⟨w7, ?_, ⟨d1, d2, d3, d4, ?_⟩, ?_, DM_t hM5 (DM_t (M6 q) (DM_m (by omega) (DN_d N7)))⟩
      · rw [e5, g6, bn_s, iz_t rfl, t6, dti_t q59 (by omega) (by omega), g7, bn_s, d5, iz_t rfl]; rfl
      · rw [d7, hcs, Nat.add_assoc]
      · rw [e7]
        refine SQ_ap.mpr ⟨SQ_fr (fun i _ hi => by rw [N7.2.2 i (by omega), (M6 (q + cn.length)).2.2 i (by omega)]) e9, ?_⟩
        rw [Nat.add_assoc]; exact c7
    · rw [e5]
      by_cases q41 : (lx x z p2).2.2.1 = 41
      · obtain ⟨G2, w6, rfl, g6, D6, M6, b6, t6, v6⟩ := D_e14 e8 f2 e6 (nI 0) (nI m2)
        obtain ⟨w7, g7, D7, c7, N7⟩ := D_unwinds (ls := 1) hT (by omega) (H := []) trivial pd (q + cn.length) am_NF w6 D6 e11 (by omega) (by omega) (by show _ < 4000; omega)
        have g7 : F_Mod_unwinds (nI 1) w6 = some w7 := g7
        have d5 : w7.1 53 31 = nI 0 := D7.2.2.2.2.1
        rw [g6, bn_s, iz_t rfl, t6, dti_f q59 (by omega) (by omega) (by omega), dti_t q41 (by omega) (by omega), g7, bn_s, d5, iz_t rfl]
        exact ⟨w7, rfl, (N7.2.1 26 (by omega)).trans b6, DM_t hM5 (DM_t (M6 q) (DM_m (by omega) (DN_d N7)))⟩
      · obtain ⟨w6, g1, g2, g3⟩ := D_badk (m := m2) hT hz f2 e8 (by omega) (by omega) e6 e12 q59 q41
        exact ⟨w6, g1, g2, DM_t hM5 (DM_m (by omega) g3)⟩
/-- what a part comes to -/
def FP (z p : Nat) : Nat ⊕ (Nat × List Nat) → Prop
  | .inl _ => True
  | .inr (p2, cs) => p < p2 ∧ p2 ≤ z ∧ p + cs.length ≤ p2 ∧ hl cs 0 = some 1
def SPp (x : Nat → Nat) (z T k p : Nat) (res : Nat ⊕ (Nat × List Nat)) : Prop := ∀ q w, q ≤ p → ST x z T p q w → ∃ w8 w9 w2, F_Read_demand (nI 300 + nI k) w = some w8 ∧ F_Read_x (nI 0) (nI 0) w8 = some w9 ∧ F_Read_demand (nI 59) w9 = some w2 ∧ SR x z T q w w2 res
/-- what the model's part leaves -/
def DPr (x : Nat → Nat) (z T k q : Nat) (w : am_W) (r26 : Int32 → Int32 → am_W → Option (Int32 × am_W)) (G : Option (Int32 × am_W)) : Nat ⊕ (Nat × List Nat) → Prop
  | .inl b => ∃ w2, G = r26 (nI 0) (nI (k + 1)) w2 ∧ w2.1 53 26 = nI b ∧ DV T q k w w2
  | .inr (p2, cs) => ∃ w2, G = r26 (nI 1) (nI (k + 1)) w2 ∧ DP x z T p2 (q + cs.length) w2 ∧ SQ nI cs (200 * T + q) (w2.1 59) ∧ w2.1 60 (4 * T + k) = nI q ∧ DV T q k w w2
def DPp (x : Nat → Nat) (z T k p : Nat) (res : Nat ⊕ (Nat × List Nat)) : Prop := ∀ (r26 : Int32 → Int32 → am_W → Option (Int32 × am_W)) q w, q ≤ p → DP x z T p q w → DPr x z T k q w r26 (F_Mod_text_26 r26 (nI 1) (nI k) w) res
theorem PART (hT : T < 6) (hz : z ≤ 160) {k p : Nat} (hk : k < 3) (hp : p ≤ z) : ∃ res, FP z p res ∧ SPp x z T k p res ∧ DPp x z T k p res := by
  obtain ⟨l1, l2, l3, l4, l5⟩ := lx_ok x hp
  have hcv := ctk_v l5
  have hk100 := tk_lt l5
  -- the model up to the E
  have dk : ∀ (r26 : Int32 → Int32 → am_W → Option (Int32 × am_W)) q w, DP x z T p q w → ∃ w3, DP x z T (lx x z p).2.1 q w3 ∧ DV T q k w w3 ∧ w3.1 60 (4 * T + k) = nI q ∧ w3.1 53 26 = nI (lx x z p).1 ∧ F_Mod_text_26 r26 (nI 1) (nI k) w = if (lx x z p).2.2.1 = 3 ∧ (lx x z p).2.2.2 = k then (F_Mod_eRead w3).bind fun q9 => if q9.1 = 0 then r26 (nI 0) (nI (k + 1)) q9.2 else r26 (nI 1) (nI (k + 1)) q9.2 else r26 (nI 0) (nI (k + 1)) w3 := fun r26 q w h => by
    obtain ⟨w2, e2, ⟨d1, d2, d3, d4, d5⟩, M2, b2, t2, v2⟩ := D_tok2 h hp
    have V3 : DV T q k w2 (wsf w2 60 (4 * T + k) (nI q)) := ⟨EX_sf rfl, fun j _ => wsf_nc rfl, fun i _ => wsf_nc rfl, fun i hi => wsf_ne (by omega)⟩
    refine ⟨wsf w2 60 (4 * T + k) (nI q), ⟨DT_v V3 d1, ABC_v V3 d2, (wsf_nc rfl).trans d3, (wsf_nc rfl).trans d4, (wsf_nc rfl).trans d5⟩, DV_t (M2 q k) V3, wsf_at _ _ _ _, (wsf_nc rfl).trans b2, ?_⟩
    unfold F_Mod_text_26 F_Mod_text_59 F_Mod_text_60 F_Mod_text_93 F_Mod_text_94
    rw [ile_f hk (by omega), iz_f (by omega) (by omega), e2, bn_s, t2, d3, d5, pk_mul, nI_add, in_nI (by omega : 4 * T + k < 24) (by omega), am_ckT, am_ckT, am_ltU, am_ltU, wst_f (by omega), nI_add]
    by_cases h3 : (lx x z p).2.2.1 = 3
    · rw [dti_t h3 (by omega) (by omega), v2 (Or.inr (Or.inr h3))]
      by_cases h4 : (lx x z p).2.2.2 = k
      · rw [ieq_t h4, iz_f (by omega) (by omega), if_pos ⟨h3, h4⟩]
      · have := l5.2.2.2 h3
        rw [ieq_f h4 (by omega) (by omega), iz_t rfl, if_neg (fun q => h4 q.2)]
    · rw [dti_f h3 (by omega) (by omega) (by omega), iz_t rfl, if_neg (fun q => h3 q.1)]
  by_cases hkey : (lx x z p).2.2.1 = 3 ∧ (lx x z p).2.2.2 = k
  · have hc : ctk (lx x z p).2.2.1 (lx x z p).2.2.2 = 300 + k := by omega
    have l6 := l4 (by omega)
    obtain ⟨res, a1, a2, a3⟩ := (PP_all (x := x) (z := z) hT hz 100).1 0 0 (lx x z p).2.1 (by omega) (by omega) l3 (by omega)
    cases res with
    | inl b =>
      refine ⟨.inl b, trivial, fun q w hq h => ?_, fun r26 q w hq h => ?_⟩
      · obtain ⟨w8, e8, T8, -⟩ := S_demand (c := 300 + k) hp hz (by omega) (by omega) h
        obtain ⟨T8, M8⟩ := T8 hc
        obtain ⟨w9, e9, X9, M9⟩ := a2 q w8 (by omega) T8
        obtain ⟨w2, e2, X2, M2⟩ := X_demand (c := 59) (by omega) (by omega) X9
        exact ⟨w8, w9, w2, by rw [nI_add]; exact e8, e9, e2, X2, SM_t (SM_m (Nat.zero_le _) M8) (SM_t M9 M2)⟩
      · obtain ⟨w3, D3, V3, c3, b3, e3⟩ := dk r26 q w h
        obtain ⟨w4, e4, b4, M4⟩ := D_eRead hT hz l3 (by omega) a1 a3 D3
        rw [e3, if_pos hkey, e4, bn_s]
        dsimp only
        rw [iz_t rfl]
        exact ⟨w4, rfl, b4, DV_t V3 (DV_M M4)⟩
    | inr y =>
      obtain ⟨p2, cs⟩ := y
      have a1' := a1
      obtain ⟨f1, f2, f3, f4⟩ := a1'
      obtain ⟨n1, n2, n3, n4, n5⟩ := lx_ok x f2
      have hcv2 := ctk_v n5
      by_cases q59 : (lx x z p2).2.2.1 = 59
      · have n6 := n4 (by omega)
        refine ⟨.inr ((lx x z p2).2.1, cs), ⟨by omega, n3, by omega, f4 0 (by decide)⟩, fun q w hq h => ?_, fun r26 q w hq h => ?_⟩
        · obtain ⟨w8, e8, T8, -⟩ := S_demand (c := 300 + k) hp hz (by omega) (by omega) h
          obtain ⟨T8, M8⟩ := T8 hc
          obtain ⟨w9, e9, T9, c9, M9⟩ := a2 q w8 (by omega) T8
          obtain ⟨w2, e2, T2, -⟩ := S_demand (c := 59) f2 hz (by omega) (by omega) T9
          obtain ⟨T2, M2⟩ := T2 (by omega)
          exact ⟨w8, w9, w2, by rw [nI_add]; exact e8, e9, e2, T2, SQ_fr (fun i _ hi => M2.2.2.1 i hi) c9, SM_t M8 (SM_t M9 (SM_m (by omega) M2))⟩
        · obtain ⟨w3, D3, V3, c3, b3, e3⟩ := dk r26 q w h
          obtain ⟨w4, e4, D4, c4, M4⟩ := (D_eRead hT hz l3 (by omega) a1 a3 D3).1 q59
          rw [e3, if_pos hkey, e4, bn_s]
          dsimp only
          rw [iz_f (by omega) (by omega)]
          exact ⟨w4, rfl, D4, c4, by rw [M4.1 60 rfl]; exact c3, DV_t V3 (DV_M M4)⟩
      · refine ⟨.inl (lx x z p2).1, trivial, fun q w hq h => ?_, fun r26 q w hq h => ?_⟩
        · obtain ⟨w8, e8, T8, -⟩ := S_demand (c := 300 + k) hp hz (by omega) (by omega) h
          obtain ⟨T8, M8⟩ := T8 hc
          obtain ⟨w9, e9, T9, c9, M9⟩ := a2 q w8 (by omega) T8
          obtain ⟨w2, e2, -, X2⟩ := S_demand (c := 59) f2 hz (by omega) (by omega) T9
          obtain ⟨X2, M2⟩ := X2 (by omega)
          exact ⟨w8, w9, w2, by rw [nI_add]; exact e8, e9, e2, X2, SM_t (SM_m (Nat.zero_le _) M8) (SM_t (SM_m (Nat.zero_le _) M9) M2)⟩
        · obtain ⟨w3, D3, V3, c3, b3, e3⟩ := dk r26 q w h
          obtain ⟨w4, e4, b4, M4⟩ := (D_eRead hT hz l3 (by omega) a1 a3 D3).2 q59
          rw [e3, if_pos hkey, e4, bn_s]
          dsimp only
          rw [iz_t rfl]
          exact ⟨w4, rfl, b4, DV_t V3 (DV_M M4)⟩
  · have hc : ¬ ctk (lx x z p).2.2.1 (lx x z p).2.2.2 = 300 + k := by omega
    refine ⟨.inl (lx x z p).1, trivial, fun q w hq h => ?_, fun r26 q w hq h => ?_⟩
    · obtain ⟨w8, e8, -, X8⟩ := S_demand (c := 300 + k) hp hz (by omega) (by omega) h
      obtain ⟨X8, M8⟩ := X8 hc
      obtain ⟨w9, e9, X9, M9⟩ := (X_read hT 100).1 0 0 _ w8 (by omega) (by omega) (by omega) X8
      obtain ⟨w2, e2, X2, M2⟩ := X_demand (c := 59) (by omega) (by omega) X9
      exact ⟨w8, w9, w2, by rw [nI_add]; exact e8, e9, e2, X2, SM_t M8 (SM_t M9 M2)⟩
    · obtain ⟨w3, D3, V3, c3, b3, e3⟩ := dk r26 q w h
      rw [e3, if_neg hkey]
      exact ⟨w3, rfl, b3, V3⟩
/-- a part behind a fault -/
theorem X_part (hT : T < 6) {k b : Nat} {w : am_W} (hk : k < 3) (h : SX x z T b w) : ∃ w8 w9 w2, F_Read_demand (nI 300 + nI k) w = some w8 ∧ F_Read_x (nI 0) (nI 0) w8 = some w9 ∧ F_Read_demand (nI 59) w9 = some w2 ∧ SX x z T b w2 ∧ SM T 0 w w2 := by
  obtain ⟨w8, e8, X8, M8⟩ := X_demand (c := 300 + k) (by omega) (by omega) h
  obtain ⟨w9, e9, X9, M9⟩ := (X_read hT 100).1 0 0 _ w8 (by omega) (by omega) (by omega) X8
  obtain ⟨w2, e2, X2, M2⟩ := X_demand (c := 59) (by omega) (by omega) X9
  exact ⟨w8, w9, w2, by rw [nI_add]; exact e8, e9, e2, X2, SM_t M8 (SM_t M9 M2)⟩
end

/-! ===== the model's reader: its small steps ===== -/
/-- written since: 53 from 25 on, the signs held, the codes from a place on -/
def DM (T q : Nat) (w w2 : am_W) : Prop := EX (fun a => Nat.beq a 53 || (Nat.beq a 59 || Nat.beq a 67)) w w2 ∧ (∀ j, j < 25 → w2.1 53 j = w.1 53 j) ∧ ∀ i, i < 200 * T + q → w2.1 59 i = w.1 59 i
/-- and 53 from 31 on alone -/
def DN (T q : Nat) (w w2 : am_W) : Prop := EX (fun a => Nat.beq a 53 || (Nat.beq a 59 || Nat.beq a 67)) w w2 ∧ (∀ j, j < 31 → w2.1 53 j = w.1 53 j) ∧ ∀ i, i < 200 * T + q → w2.1 59 i = w.1 59 i
theorem DM_r (T q : Nat) (w : am_W) : DM T q w w := ⟨EX_r _ w, fun _ _ => rfl, fun _ _ => rfl⟩
theorem DM_t {T q : Nat} {a b c : am_W} (h : DM T q a b) (k : DM T q b c) : DM T q a c := ⟨EX_t h.1 k.1, fun j hj => (k.2.1 j hj).trans (h.2.1 j hj), fun i hi => (k.2.2 i hi).trans (h.2.2 i hi)⟩
theorem DM_m {T p q : Nat} {a b : am_W} (hq : p ≤ q) (h : DM T q a b) : DM T p a b := ⟨h.1, h.2.1, fun i hi => h.2.2 i (by omega)⟩
theorem DN_r (T q : Nat) (w : am_W) : DN T q w w := ⟨EX_r _ w, fun _ _ => rfl, fun _ _ => rfl⟩
theorem DN_t {T q : Nat} {a b c : am_W} (h : DN T q a b) (k : DN T q b c) : DN T q a c := ⟨EX_t h.1 k.1, fun j hj => (k.2.1 j hj).trans (h.2.1 j hj), fun i hi => (k.2.2 i hi).trans (h.2.2 i hi)⟩
theorem DN_m {T p q : Nat} {a b : am_W} (hq : p ≤ q) (h : DN T q a b) : DN T p a b := ⟨h.1, h.2.1, fun i hi => h.2.2 i (by omega)⟩
theorem DN_d {T q : Nat} {a b : am_W} (h : DN T q a b) : DM T q a b := ⟨h.1, fun j hj => h.2.1 j (by omega), h.2.2⟩
theorem DN_f {T q j : Nat} {w : am_W} {y : Int32} (hj : 31 ≤ j) : DN T q w (wsf w 53 j y) := ⟨EX_sf rfl, fun i hi => wsf_ne (by omega), fun i _ => wsf_nc rfl⟩
theorem DN_h {T q j : Nat} {w : am_W} {y : Int32} : DN T q w (wsf w 67 j y) := ⟨EX_sf rfl, fun i hi => wsf_nc rfl, fun i _ => wsf_nc rfl⟩
theorem DN_c {T q j : Nat} {w : am_W} {y : Int32} (hj : 200 * T + q ≤ j) : DN T q w (wsf w 59 j y) := ⟨EX_sf rfl, fun i hi => wsf_nc rfl, fun i hi => wsf_ne (by omega)⟩
theorem nI_gz {n : Nat} (h : 0 < n) (hn : n < 2 ^ 31) : ¬ nI n ≤ 0 := fun q => nI_ge (a := 0) h hn q
section
variable {x : Nat → Nat} {z T : Nat}
/-- the model stands before the token from p on, o are open, q codes are written, the signs H are held -/
def DS (x : Nat → Nat) (z T p o q : Nat) (H : List Nat) (w : am_W) : Prop := DT x z w ∧ ABC w ∧ w.1 53 12 = nI T ∧ w.1 53 25 = nI p ∧ w.1 53 31 = nI H.length ∧ w.1 53 32 = nI o ∧ w.1 53 33 = nI q ∧ STK H (w.1 67)
theorem DT_m {T q : Nat} {w w2 : am_W} (h : DM T q w w2) (k : DT x z w) : DT x z w2 := ⟨k.1, (h.2.1 9 (by omega)).trans k.2.1, fun i hi => by rw [h.1 58 rfl]; exact k.2.2 i hi⟩
theorem ABC_m {T q : Nat} {w w2 : am_W} (h : DM T q w w2) (k : ABC w) : ABC w2 := fun i hi => by rw [h.1 66 rfl]; exact k i hi
theorem D_token {p o q : Nat} {H : List Nat} {w : am_W} (h : DS x z T p o q H w) (hp : p ≤ z) : ∃ w2, F_Mod_next w = some w2 ∧ DS x z T (lx x z p).2.1 o q H w2 ∧ (∀ Q, DM T Q w w2) ∧ w2.1 53 26 = nI (lx x z p).1 ∧ w2.1 53 27 = dtk (lx x z p).2.2.1 ∧ ((lx x z p).2.2.1 = 1 ∨ (lx x z p).2.2.1 = 2 ∨ (lx x z p).2.2.1 = 3 → w2.1 53 28 = nI (lx x z p).2.2.2) := by
  obtain ⟨h1, h2, h3, h4, h5, h6, h7, h8⟩ := h
  obtain ⟨w2, e1, e2, e3, e4, e5, e6, e7⟩ := D_next h1 h2 h4 hp
  have hM : ∀ Q, DM T Q w w2 := fun Q => ⟨fun a ha => e2 a (by rw [Bool.or_eq_false_iff] at ha; exact ha.1), fun j hj => e3 j (by omega) (by omega) (by omega) (by omega), fun i _ => by rw [e2 59 rfl]⟩
  have k : ∀ j, 29 ≤ j → w2.1 53 j = w.1 53 j := fun j hj => e3 j (by omega) (by omega) (by omega) (by omega)
  exact ⟨w2, e1, ⟨DT_m (hM 0) h1, ABC_m (hM 0) h2, ((hM 0).2.1 12 (by omega)).trans h3, e5, (k 31 (by omega)).trans h5, (k 32 (by omega)).trans h6, (k 33 (by omega)).trans h7, by rw [e2 67 rfl]; exact h8⟩, hM, e4, e6, e7⟩
theorem D_puts {p o q c : Nat} {H : List Nat} {w : am_W} (hT : T < 6) (h : DS x z T p o q H w) (hq : q < 200) : ∃ w2, F_Mod_puts (nI c) w = some w2 ∧ DS x z T p o (q + 1) H w2 ∧ DN T q w w2 ∧ w2.1 59 (200 * T + q) = nI c := by
  obtain ⟨h1, h2, h3, h4, h5, h6, h7, h8⟩ := h
  unfold F_Mod_puts
  rw [h3, h7, pk_mul, nI_add, in_nI (by omega : 200 * T + q < 1200) (by omega), am_ckT, am_ltU, am_ltU, wst_f (by omega), wsf_nc rfl, h7, nI_add]
  have hN : DN T q w (wsf (wsf w 59 (200 * T + q) (nI c)) 53 33 (nI (q + 1))) := DN_t (DN_c (Nat.le_refl _)) (DN_f (by omega))
  have k : ∀ j, ¬ j = 33 → (wsf (wsf w 59 (200 * T + q) (nI c)) 53 33 (nI (q + 1))).1 53 j = w.1 53 j := fun j hj => by rw [wsf_ne hj, wsf_nc rfl]
  exact ⟨_, rfl, ⟨DT_m (DN_d hN) h1, ABC_m (DN_d hN) h2, (k 12 (by omega)).trans h3, (k 25 (by omega)).trans h4, (k 31 (by omega)).trans h5, (k 32 (by omega)).trans h6, wsf_at _ _ _ _, STK_fr (fun i _ => by rw [wsf_nc rfl, wsf_nc rfl]) h8⟩, hN, by rw [wsf_nc rfl, wsf_at]⟩
theorem D_rank {c : Nat} (hc : c < 20) (w : am_W) : F_Mod_rank (nI c) w = some (nI (rk c), w) := by
  unfold F_Mod_rank F_Mod_rank_71 rk
  by_cases h0 : c = 0
  · rw [iz_t h0, if_pos h0]
  rw [iz_f (by omega) (by omega), if_neg h0]
  by_cases h1 : c = 11
  · rw [ieq_t h1, if_pos h1]
  rw [ieq_f h1 (by omega) (by omega), if_neg h1]
  by_cases h2 : c = 12
  · rw [ieq_t h2, if_pos h2]
  rw [ieq_f h2 (by omega) (by omega), if_neg h2]
  by_cases h3 : c = 13
  · rw [ieq_t h3, if_pos h3]
  rw [ieq_f h3 (by omega) (by omega), if_neg h3]
  by_cases h4 : 15 < c
  · rw [ilt_t h4 (by omega), if_pos h4]
    by_cases h5 : 17 < c
    · rw [ilt_t h5 (by omega), if_pos h5]
      by_cases h6 : c = 18
      · rw [ieq_t h6, if_pos h6]
      · rw [ieq_f h6 (by omega) (by omega), if_neg h6]
    · rw [ilt_f (by omega) (by omega), if_neg h5]
  · rw [ilt_f (by omega) (by omega), if_neg h4]
theorem rk_le (c : Nat) : rk c ≤ 7 := by
  unfold rk
  repeat' split
  all_goals decide
/-- the signs A that bind at least so come -/
theorem D_unwinds {ls p o : Nat} {H : List Nat} (hT : T < 6) (hls : ls < 100) (hH : TOP ls H) : ∀ (A : List Nat) (q F : Nat) (w : am_W), DS x z T p (o + cn19 A) q (A ++ H) w → RK ls A → q + (A ++ H).length ≤ 200 → o + cn19 A < 1000 → A.length < F → ∃ w2, L_Mod_unwinds_0 F (nI ls) w = some w2 ∧ DS x z T p o (q + A.length) H w2 ∧ SQ nI A (200 * T + q) (w2.1 59) ∧ DN T q w w2
  | [], q, F, w, h, _, hb, _, hF => by
    obtain ⟨F, rfl⟩ : ∃ j, F = j + 1 := ⟨F - 1, by omega⟩
    refine ⟨w, ?_, h, trivial, DN_r T q w⟩
    obtain ⟨h1, h2, h3, h4, h5, h6, h7, h8⟩ := h
    show F_Mod_unwinds_0 _ _ _ = _
    unfold F_Mod_unwinds_0 F_Mod_unwinds_79
    cases H with
    | nil => rw [h5, if_pos (by decide)]
    | cons a H =>
      have hb2 : q + (H.length + 1) ≤ 200 := hb
      have h5 : w.1 53 31 = nI (H.length + 1) := h5
      have h80 : w.1 67 H.length = nI a := h8.1
      rw [h5, if_neg (show ¬ nI (H.length + 1) ≤ 0 from nI_gz (Nat.succ_pos _) (by omega)), pk_sub (by omega), show H.length + 1 - 1 = H.length from rfl, in_nI (by omega) (by omega), am_ckT, nI_clamp (by omega), h80, D_rank hH.1, bn_s]
      dsimp only
      rw [ilt_t hH.2 (by omega)]
  | a :: A, q, F, w, h, hA, hb, ho, hF => by
    obtain ⟨F, rfl⟩ : ∃ j, F = j + 1 := ⟨F - 1, by omega⟩
    obtain ⟨h1, h2, h3, h4, h5, h6, h7, h8⟩ := h
    have hb2 : q + ((A ++ H).length + 1) ≤ 200 := hb
    have hF2 : A.length + 1 < F + 1 := hF
    have h5 : w.1 53 31 = nI ((A ++ H).length + 1) := h5
    have h8 : w.1 67 (A ++ H).length = nI a ∧ STK (A ++ H) (w.1 67) := h8
    have h80 := h8.1
    obtain ⟨ha1, ha2⟩ := hA a List.mem_cons_self
    have hA2 : RK ls A := fun c hc => hA c (List.mem_cons_of_mem _ hc)
    have hrk := rk_le a
    have ho2 : o + cn19 A < 1000 := by
      have : o + (cn19 A + (if a = 13 then 1 else if a = 19 then 1 else 0)) < 1000 := ho
      omega
    have key : ∀ s0 : Nat, s0 = (if a = 13 then 1 else if a = 19 then 1 else 0) → ∃ w2, F_Mod_unwinds_67 (L_Mod_unwinds_0 F) (nI ls) (nI a) (nI s0) ((wsf w 53 31 (nI (A ++ H).length)).1 53 32) (wsf w 53 31 (nI (A ++ H).length)) = some w2 ∧ DS x z T p o (q + (A.length + 1)) H w2 ∧ SQ nI (a :: A) (200 * T + q) (w2.1 59) ∧ DN T q w w2 := fun s0 hs => by
      unfold F_Mod_unwinds_67
      have h6 : w.1 53 32 = nI (o + cn19 A + s0) := by
        rw [h6, hs]
        exact congrArg nI (by show o + (cn19 A + _) = _; omega)
      rw [wsf_ne (by omega), h6, pk_sub (by omega), am_ltU, show o + cn19 A + s0 - s0 = o + cn19 A from by omega]
      have hN1 : DN T q w (wsf (wsf w 53 31 (nI (A ++ H).length)) 53 32 (nI (o + cn19 A))) := DN_t (DN_f (by omega)) (DN_f (by omega))
      have k : ∀ j, ¬ j = 31 → ¬ j = 32 → (wsf (wsf w 53 31 (nI (A ++ H).length)) 53 32 (nI (o + cn19 A))).1 53 j = w.1 53 j := fun j j1 j2 => by rw [wsf_ne j2, wsf_ne j1]
      have D1 : DS x z T p (o + cn19 A) q (A ++ H) (wsf (wsf w 53 31 (nI (A ++ H).length)) 53 32 (nI (o + cn19 A))) := ⟨DT_m (DN_d hN1) h1, ABC_m (DN_d hN1) h2, (k 12 (by omega) (by omega)).trans h3, (k 25 (by omega) (by omega)).trans h4, by rw [wsf_ne (by omega), wsf_at], wsf_at _ _ _ _, (k 33 (by omega) (by omega)).trans h7, STK_fr (fun i _ => by rw [wsf_nc rfl, wsf_nc rfl]) h8.2⟩
      obtain ⟨w3, e3, D3, N3, c3⟩ := D_puts (c := a) hT D1 (by omega)
      obtain ⟨w4, e4, D4, c4, N4⟩ := D_unwinds hT hls hH A (q + 1) F w3 D3 hA2 (by omega) ho2 (by omega)
      rw [e3, bn_s, e4]
      refine ⟨w4, rfl, ?_, ⟨?_, ?_⟩, DN_t hN1 (DN_t N3 (DN_m (by omega) N4))⟩
      · rw [show q + (A.length + 1) = q + 1 + A.length from by omega]; exact D4
      · rw [N4.2.2 _ (by omega)]; exact c3
      · rw [show 200 * T + q + 1 = 200 * T + (q + 1) from by omega]; exact c4
    show ∃ w2, F_Mod_unwinds_0 _ _ _ = _ ∧ _
    unfold F_Mod_unwinds_0 F_Mod_unwinds_79 F_Mod_unwinds_62
    rw [h5, if_neg (show ¬ nI ((A ++ H).length + 1) ≤ 0 from nI_gz (Nat.succ_pos _) (by omega)), pk_sub (by omega), show (A ++ H).length + 1 - 1 = (A ++ H).length from rfl, in_nI (by omega) (by omega), am_ckT, nI_clamp (by omega), h80, D_rank ha1, bn_s]
    dsimp only
    rw [ilt_f ha2 (by omega), am_ltU, h5, pk_sub (by omega), show (A ++ H).length + 1 - 1 = (A ++ H).length from rfl, wsf_at, in_nI (by omega) (by omega), am_ckT, nI_clamp (by omega), wsf_nc rfl, h80]
    by_cases h13 : a = 13
    · rw [ieq_t h13]
      exact key 1 (by rw [if_pos h13])
    · rw [ieq_f h13 (by omega) (by omega)]
      by_cases h19 : a = 19
      · rw [ieq_t h19]
        exact key 1 (by rw [if_neg h13, if_pos h19])
      · rw [ieq_f h19 (by omega) (by omega)]
        exact key 0 (by rw [if_neg h13, if_neg h19])
theorem D_holds {p o q c : Nat} {H : List Nat} {w : am_W} (h : DS x z T p o q H w) (hb : H.length < 200) : ∃ w2, F_Mod_holdsThat (nI c) w = some w2 ∧ DS x z T p o q (c :: H) w2 ∧ DN T q w w2 := by
  obtain ⟨h1, h2, h3, h4, h5, h6, h7, h8⟩ := h
  unfold F_Mod_holdsThat
  rw [h5, in_nI hb (by omega), am_ckT, am_ltU, am_ltU, wst_f (by omega), wsf_nc rfl, h5, nI_add]
  have hN : DN T q w (wsf (wsf w 67 H.length (nI c)) 53 31 (nI (H.length + 1))) := DN_t DN_h (DN_f (by omega))
  have k : ∀ j, ¬ j = 31 → (wsf (wsf w 67 H.length (nI c)) 53 31 (nI (H.length + 1))).1 53 j = w.1 53 j := fun j hj => by rw [wsf_ne hj, wsf_nc rfl]
  refine ⟨_, rfl, ⟨DT_m (DN_d hN) h1, ABC_m (DN_d hN) h2, (k 12 (by omega)).trans h3, (k 25 (by omega)).trans h4, wsf_at _ _ _ _, (k 32 (by omega)).trans h6, (k 33 (by omega)).trans h7, ?_, STK_fr (fun i hi => ?_) h8⟩, hN⟩
  · rw [wsf_nc rfl, wsf_at]
  · rw [wsf_nc rfl, wsf_ne (by omega)]
theorem D_opens {p o q c : Nat} {H : List Nat} {w : am_W} (h : DS x z T p o q H w) (hb : H.length < 200) (ho : o < 5) : ∃ w2, F_Mod_opensOne (nI c) w = some (nI 1, w2) ∧ DS x z T p (o + 1) q (c :: H) w2 ∧ DN T q w w2 := by
  obtain ⟨h1, h2, h3, h4, h5, h6, h7, h8⟩ := h
  unfold F_Mod_opensOne
  rw [h6, ieq_f (by omega) (by omega) (by omega), am_ltU, nI_add]
  have hN : DN T q w (wsf w 53 32 (nI (o + 1))) := DN_f (by omega)
  have k : ∀ j, ¬ j = 32 → (wsf w 53 32 (nI (o + 1))).1 53 j = w.1 53 j := fun j hj => wsf_ne hj
  have D1 : DS x z T p (o + 1) q H (wsf w 53 32 (nI (o + 1))) := ⟨DT_m (DN_d hN) h1, ABC_m (DN_d hN) h2, (k 12 (by omega)).trans h3, (k 25 (by omega)).trans h4, (k 31 (by omega)).trans h5, wsf_at _ _ _ _, (k 33 (by omega)).trans h7, STK_fr (fun i _ => by rw [wsf_nc rfl]) h8⟩
  obtain ⟨w2, e2, D2, N2⟩ := D_holds (c := c) D1 hb
  rw [e2]
  exact ⟨w2, rfl, D2, DN_t hN N2⟩
theorem D_opens5 {p q c : Nat} {H : List Nat} {w : am_W} (h : DS x z T p 5 q H w) : F_Mod_opensOne (nI c) w = some (nI 0, w) := by
  unfold F_Mod_opensOne
  rw [h.2.2.2.2.2.1, ieq_t rfl]
theorem D_signOf {k : Nat} {w : am_W} (hk : k < 2 ^ 31) (h : w.1 53 27 = dtk k) : F_Mod_signOf w = some (if jl k ≤ 4 then nI (sg k) else -nI 1, w) := by
  have hj := jl_c k
  unfold F_Mod_signOf F_Mod_signOf_97
  rw [h, dti hk (by omega) (by omega), dti hk (by omega) (by omega), dti hk (by omega) (by omega), dti hk (by omega) (by omega), dti hk (by omega) (by omega), dti hk (by omega) (by omega), dti hk (by omega) (by omega)]
  rcases hj with ⟨h1, h2, h3⟩ | ⟨h1, h2, h3⟩ | ⟨h1, h2, h3⟩ | ⟨h1, h2, h3⟩ | ⟨h1, h2, h3⟩ | ⟨h1, h2, h3⟩ | ⟨h1, h2, h3⟩ | ⟨g1, g2, g3, g4, g5, g6, g7, h2⟩
  · subst h1; rfl
  · subst h1; rfl
  · subst h1; rfl
  · subst h1; rfl
  · subst h1; rfl
  · subst h1; rfl
  · subst h1; rfl
  · rw [if_neg g1, if_neg g2, if_neg g3, if_neg g4, if_neg g5, if_neg g6, if_neg g7, h2]; rfl
/-- how a sign between two lets the others come -/
def lsr (r : Nat) : Nat := [1, 2, 5, 5, 6].getD r 0
theorem D_between {p o q r c : Nat} {A H : List Nat} {w : am_W} (hT : T < 6) (hr : r ≤ 4) (hc : rk c = [1, 2, 4, 5, 6].getD r 0) (hc2 : c < 20) (h : DS x z T p (o + cn19 A) q (A ++ H) w) (hA : RK (lsr r) A) (hH : TOP (lsr r) H) (hH2 : r = 2 → TOP 4 H) (hb : q + (A ++ H).length < 200) (ho : o + cn19 A < 1000) : ∃ w2, F_Mod_between (nI c) w = some (nI 1, w2) ∧ DS x z T p o (q + A.length) (c :: H) w2 ∧ SQ nI A (200 * T + q) (w2.1 59) ∧ DN T q w w2 := by
  have hl : (A ++ H).length = A.length + H.length := List.length_append
  have hlr : lsr r < 100 := by
    match r, hr with
    | 0, _ => decide
    | 1, _ => decide
    | 2, _ => decide
    | 3, _ => decide
    | 4, _ => decide
  obtain ⟨w3, e3, D3, c3, N3⟩ := D_unwinds hT hlr hH A q am_NF w h hA (by omega) ho (by show _ < 4000; omega)
  obtain ⟨w4, e4, D4, N4⟩ := D_holds (c := c) D3 (by omega)
  have fin : ∃ w2, F_Mod_between_55 (nI c) w3 = some (nI 1, w2) ∧ DS x z T p o (q + A.length) (c :: H) w2 ∧ SQ nI A (200 * T + q) (w2.1 59) ∧ DN T q w w2 := by
    unfold F_Mod_between_55
    rw [e4, bn_s]
    exact ⟨w4, rfl, D4, SQ_fr (fun i _ hi => N4.2.2 i (by omega)) c3, DN_t N3 (DN_m (by omega) N4)⟩
  have e3 : F_Mod_unwinds (nI (lsr r)) w = some w3 := e3
  unfold F_Mod_between F_Mod_between_17
  rw [D_rank hc2, bn_s]
  dsimp only
  rw [hc]
  by_cases h2 : r = 2
  · subst h2
    have H4 := hH2 rfl
    rw [show ([1, 2, 4, 5, 6] : List Nat).getD 2 0 = 4 from rfl, ieq_t rfl]
    rw [show lsr 2 = 5 from rfl] at e3
    rw [e3, bn_s, D_rank hc2, bn_s]
    dsimp only
    rw [hc, show ([1, 2, 4, 5, 6] : List Nat).getD 2 0 = 4 from rfl, ieq_t rfl]
    cases H with
    | nil =>
      rw [D3.2.2.2.2.1, if_pos (by decide)]
      exact fin
    | cons a H =>
      have h5 : w3.1 53 31 = nI (H.length + 1) := D3.2.2.2.2.1
      have hl3 : (A ++ a :: H).length = A.length + (H.length + 1) := List.length_append
      rw [h5, if_neg (show ¬ nI (H.length + 1) ≤ 0 from nI_gz (Nat.succ_pos _) (by omega)), pk_sub (by omega), show H.length + 1 - 1 = H.length from rfl, in_nI (by omega) (by omega), am_ckT, nI_clamp (by omega), D3.2.2.2.2.2.2.2.1, D_rank H4.1, bn_s]
      dsimp only
      have := H4.2
      rw [ieq_f (by omega) (by omega) (by omega)]
      exact fin
  · have h4 : ¬ ([1, 2, 4, 5, 6] : List Nat).getD r 0 = 4 ∧ ([1, 2, 4, 5, 6] : List Nat).getD r 0 < 100 ∧ ([1, 2, 4, 5, 6] : List Nat).getD r 0 = lsr r := by
      match r, hr, h2 with
      | 0, _, _ => decide
      | 1, _, _ => decide
      | 3, _, _ => decide
      | 4, _, _ => decide
      | 2, _, h2 => exact absurd rfl h2
    rw [ieq_f h4.1 (by omega) (by omega), D_rank hc2, bn_s]
    dsimp only
    rw [hc, h4.2.2, e3, bn_s, D_rank hc2, bn_s]
    dsimp only
    rw [hc, ieq_f h4.1 (by omega) (by omega)]
    exact fin
/-- a second comparing sign in a row can't stand -/
theorem D_between2 {p o q c a : Nat} {A H : List Nat} {w : am_W} (hT : T < 6) (hc : rk c = 4) (hc2 : c < 20) (h : DS x z T p (o + cn19 A) q (A ++ a :: H) w) (hA : RK 5 A) (ha : a < 20) (ha4 : rk a = 4) (hb : q + (A ++ a :: H).length < 200) (ho : o + cn19 A < 1000) : ∃ w2, F_Mod_between (nI c) w = some (nI 0, w2) ∧ DN T q w w2 := by
  have hl3 : (A ++ a :: H).length = A.length + (H.length + 1) := List.length_append
  obtain ⟨w3, e3, D3, c3, N3⟩ := D_unwinds (ls := 5) hT (by omega) (H := a :: H) ⟨ha, by omega⟩ A q am_NF w h hA (by omega) ho (by show _ < 4000; omega)
  have e3 : F_Mod_unwinds (nI 5) w = some w3 := e3
  have h5 : w3.1 53 31 = nI (H.length + 1) := D3.2.2.2.2.1
  unfold F_Mod_between F_Mod_between_17
  rw [D_rank hc2, bn_s]
  dsimp only
  rw [hc, ieq_t rfl, e3, bn_s, D_rank hc2, bn_s]
  dsimp only
  rw [hc, ieq_t rfl, h5, if_neg (show ¬ nI (H.length + 1) ≤ 0 from nI_gz (Nat.succ_pos _) (by omega)), pk_sub (by omega), show H.length + 1 - 1 = H.length from rfl, in_nI (by omega) (by omega), am_ckT, nI_clamp (by omega), D3.2.2.2.2.2.2.2.1, D_rank ha, bn_s]
  dsimp only
  rw [ha4, ieq_t rfl]
  exact ⟨w3, rfl, N3⟩
end

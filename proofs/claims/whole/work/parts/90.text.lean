/-! ===== text ===== -/
theorem gd_l : ∀ {a b : List Nat} {i : Nat}, i < a.length → (a ++ b).getD i 0 = a.getD i 0
  | [], _, _, h => absurd h (Nat.not_lt_zero _)
  | _ :: _, _, 0, _ => rfl
  | _ :: a, b, i + 1, h => gd_l (a := a) (b := b) (i := i) (Nat.lt_of_succ_lt_succ h)
theorem gd_r : ∀ {a b : List Nat} {i : Nat}, (a ++ b).getD (a.length + i) 0 = b.getD i 0
  | [], b, i => by rw [List.nil_append]; show b.getD (0 + i) 0 = _; rw [Nat.zero_add]
  | c :: a, b, i => by
    show (c :: (a ++ b)).getD (a.length + 1 + i) 0 = _
    rw [show a.length + 1 + i = (a.length + i) + 1 from by omega]
    exact gd_r (a := a) (b := b) (i := i)
theorem TX_keep {T : Nat} {te tc te2 tc2 : Nat → Nat → Nat} {w w2 : am_W} (h1 : ∀ t, t < T → w2.1 (20 + 1 + t) = w.1 (20 + 1 + t) ∧ w2.1 (27 + 1 + t) = w.1 (27 + 1 + t)) (h2 : ∀ i, i < 200 * T → w2.1 59 i = w.1 59 i) (h3 : ∀ i, i < 4 * T → w2.1 60 i = w.1 60 i) (he : ∀ t, t < T → te2 t = te t ∧ tc2 t = tc t) (h : TX T te tc w) : TX T te2 tc2 w2 := fun t ht => by
  obtain ⟨k1, k2, k3, k4, k5, k6, k7, k8⟩ := h t ht
  obtain ⟨e1, e2⟩ := he t ht
  obtain ⟨g1, g2⟩ := h1 t ht
  rw [e1, e2, g1, g2]
  exact ⟨k1, k2, k3, k4, k5, k6, fun p hp => by rw [h3 _ (by omega)]; exact k7 p hp, fun i hi => by rw [h2 _ (by omega)]; exact k8 i hi⟩
/-- the new text -/
theorem TX_new {T : Nat} {c0 c1 c2 : List Nat} {te tc : Nat → Nat → Nat} {w2 : am_W} (hf : FT (.inr (c0, c1, c2))) (h1 : SQ stp (c0 ++ (c1 ++ c2)) 0 (w2.1 (20 + 1 + T))) (h2 : w2.1 (27 + 1 + T) 0 = nI c0.length ∧ w2.1 (27 + 1 + T) 1 = nI (c0.length + c1.length) ∧ w2.1 (27 + 1 + T) 2 = nI (c0.length + c1.length + c2.length)) (h3 : SQ nI (c0 ++ (c1 ++ c2)) (200 * T) (w2.1 59)) (h4 : w2.1 60 (4 * T) = nI 0 ∧ w2.1 60 (4 * T + 1) = nI c0.length ∧ w2.1 60 (4 * T + 2) = nI (c0.length + c1.length) ∧ w2.1 60 (4 * T + 3) = nI (c0.length + c1.length + c2.length)) (h5 : TX T te tc w2) : TX (T + 1) (fun t => if t = T then fun p => [0, c0.length, c0.length + c1.length, c0.length + c1.length + c2.length].getD p 0 else te t) (fun t => if t = T then fun i => (c0 ++ (c1 ++ c2)).getD i 0 else tc t) w2 := fun t ht => by
  by_cases e : t = T
  · subst e
    obtain ⟨f1, f2, f3, f4⟩ := hf
    dsimp only
    rw [if_pos rfl, if_pos rfl]
    have L : (c0 ++ (c1 ++ c2)).length = c0.length + c1.length + c2.length := by rw [List.length_append, List.length_append, Nat.add_assoc]
    have t0 : hts (fun i => (c0 ++ (c1 ++ c2)).getD i 0) c0.length 0 0 := hl_hts f2 (fun i hi => by
      show (c0 ++ (c1 ++ c2)).getD (0 + i) 0 = _
      rw [Nat.zero_add, gd_l hi])
    have t1 : hts (fun i => (c0 ++ (c1 ++ c2)).getD i 0) c1.length c0.length 0 := hl_hts f3 (fun i hi => by
      show (c0 ++ (c1 ++ c2)).getD (c0.length + i) 0 = _
      rw [gd_r, gd_l hi])
    have t2 : hts (fun i => (c0 ++ (c1 ++ c2)).getD i 0) c2.length (c0.length + c1.length) 0 := hl_hts f4 (fun i hi => by
      show (c0 ++ (c1 ++ c2)).getD (c0.length + c1.length + i) 0 = _
      rw [Nat.add_assoc, gd_r, gd_r])
    refine ⟨rfl, Nat.zero_le _, Nat.le_add_right _ _, Nat.le_add_right _ _, f1, fun p hp => ?_, fun p hp => ?_, fun i hi => ?_⟩
    · match p, hp with
      | 0, _ => exact ⟨h2.1, t0⟩
      | 1, _ =>
        refine ⟨h2.2.1, ?_⟩
        show hts _ (c0.length + c1.length - c0.length) c0.length 0
        rw [Nat.add_sub_cancel_left]; exact t1
      | 2, _ =>
        refine ⟨h2.2.2, ?_⟩
        show hts _ (c0.length + c1.length + c2.length - (c0.length + c1.length)) (c0.length + c1.length) 0
        rw [Nat.add_sub_cancel_left]; exact t2
    · match p, hp with
      | 0, _ => exact h4.1
      | 1, _ => exact h4.2.1
      | 2, _ => exact h4.2.2.1
      | 3, _ => exact h4.2.2.2
    · have hi : i < c0.length + c1.length + c2.length := hi
      have g1 := SQ_at (i := i) h1 (by omega)
      have g2 := SQ_at (i := i) h3 (by omega)
      rw [Nat.zero_add] at g1
      exact ⟨g1, g2⟩
  · have := h5 t (by omega)
    dsimp only
    rw [if_neg e, if_neg e]
    exact this
theorem IM_T {n T : Nat} {v : am_V} {w : am_W} (h : IM n T v w) : IM n (T + 1) v w := by
  rcases h with h | ⟨h1, h2, n0, m0, g0, s0, f0, v0, h3, h4, h5⟩
  · exact Or.inl h
  · exact Or.inr ⟨h1, h2, n0, m0, g0, s0, f0, v0, h3, Nat.lt_succ_of_lt h4, h5⟩
theorem ar_row {T : Nat} (hT : T < 6) (j : Nat) : area (20 + 1 + T) j = 3 ∧ area (27 + 1 + T) j = 3 := by
  match T, hT with
  | 0, _ => exact ⟨rfl, rfl⟩
  | 1, _ => exact ⟨rfl, rfl⟩
  | 2, _ => exact ⟨rfl, rfl⟩
  | 3, _ => exact ⟨rfl, rfl⟩
  | 4, _ => exact ⟨rfl, rfl⟩
  | 5, _ => exact ⟨rfl, rfl⟩
def a0357 (a : Nat) : Bool := Nat.beq a 0 || (Nat.beq a 3 || (Nat.beq a 5 || Nat.beq a 7))
/-- what a text that is read leaves -/
theorem FRA_text {T : Nat} {w w1 w2 w3 : am_W} (hT : T < 6) (hS : SV T w w1) (h2 : ∀ c, ¬ c = 17 → w2.1 c = w1.1 c) (hD : DW T w2 w3) : FRA a0357 w w3 := by
  have n1 : ∀ c, ¬ c = 17 → ¬ c = 18 → ¬ c = 20 + 1 + T → ¬ c = 27 + 1 + T → w2.1 c = w.1 c := fun c c1 c2 c3 c4 => (h2 c c1).trans (hS c (by
    show (Nat.beq c 18 || (Nat.beq c (20 + 1 + T) || Nat.beq c (27 + 1 + T))) = false
    rw [nbf c2, nbf c3, nbf c4]; rfl))
  have n2 : ∀ c, ¬ c = 53 → ¬ c = 59 → ¬ c = 60 → ¬ c = 67 → w3.1 c = w2.1 c := fun c c1 c2 c3 c4 => hD.1 c (by
    show (Nat.beq c 53 || (Nat.beq c 59 || (Nat.beq c 60 || Nat.beq c 67))) = false
    rw [nbf c1, nbf c2, nbf c3, nbf c4]; rfl)
  refine FRA_l (L := [17, 18, 20 + 1 + T, 27 + 1 + T, 53, 59, 60, 67]) (fun c hc => ?_) (fun c hc j q => ?_)
  · simp only [List.mem_cons, List.not_mem_nil, or_false, not_or] at hc
    obtain ⟨c1, c2, c3, c4, c5, c6, c7, c8⟩ := hc
    exact (n2 c c5 c6 c7 c8).trans (n1 c c1 c2 c3 c4)
  · simp only [List.mem_cons, List.not_mem_nil, or_false] at hc
    rcases hc with rfl | rfl | rfl | rfl | rfl | rfl | rfl | rfl
    · cases q
    · by_cases j0 : j = 0
      · subst j0; cases q
      · have : area 18 j = 0 := by show (bif Nat.beq j 0 then 5 else 0) = 0; rw [nbf j0]; rfl
        rw [this] at q; cases q
    · rw [(ar_row hT j).1] at q; cases q
    · rw [(ar_row hT j).2] at q; cases q
    · have e : w2.1 53 j = w.1 53 j := congrFun (n1 53 (by omega) (by omega) (by omega) (by omega)) j
      by_cases j25 : 25 ≤ j
      · have : area 53 j = 0 := by
          show (bif Nat.ble 25 j then 0 else _) = 0
          rw [Nat.ble_eq_true_of_le j25]; rfl
        rw [this] at q; cases q
      · by_cases j9 : j = 9
        · subst j9; cases q
        · by_cases j12 : j = 12
          · subst j12; cases q
          · exact (hD.2.1 j (by omega) j9 j12).trans e
    · cases q
    · cases q
    · cases q
theorem B_text : BOTH F_Loc_text F_Mod_text := fun w ⟨n, m, g, s, T, f, v, te, tc, hq⟩ => by
  obtain ⟨hV, hg, hs, hC, hM, hT, hX, hS, hP, hI, hA⟩ := id hq
  obtain ⟨z, hz, h18, h53, hz2⟩ := hP
  by_cases hT6 : T < 6
  · have hb : ∀ i, i < z → w.1 58 i = nI (w.1 58 i).toNatClampNeg ∧ (w.1 58 i).toNatClampNeg < 256 := fun i hi => by
      obtain ⟨b, b1, b2⟩ := (hz2 i hi).2
      rw [b2, nI_clamp (by omega)]
      exact ⟨rfl, b1⟩
    obtain ⟨out, hF, hSr, hDr⟩ := TEXT (fun i => (w.1 58 i).toNatClampNeg) (z := z) hT6 hz
    have hR : RB (fun i => (w.1 58 i).toNatClampNeg) z w := ⟨hz, h18, fun i hi => by rw [(hz2 i hi).1]; exact hb i hi⟩
    have hs9 := hSr w hR
    have eS : ∀ r w1, F_Read_read T T w = some (r, w1) → F_Loc_text w = if r = 0 then some (-nI 100 - w1.1 18 1, w1) else some ((w1.1 17 1 + nI 1) - nI 1, wsf w1 17 1 (w1.1 17 1 + nI 1)) := fun r w1 e => by
      unfold F_Loc_text F_Loc_text_50 F_Law_takeTape F_Law_takeTape_37
      rw [hT.2.2.1, ilt_t hT6 (by omega), ile_f hT6 (by omega), in_nI hT6 (by omega), am_ckT, am_ckT, nI_clamp (by omega), e, bn_s]
      dsimp only
      by_cases hr : r = 0
      · rw [if_pos hr, if_pos hr, bn_s]
        dsimp only
        rw [if_pos (show nI 0 = 0 from rfl)]
      · rw [if_neg hr, if_neg hr, am_ltU, bn_s]
        dsimp only
        rw [iz_f (by omega) (by omega), wsf_at]
    have dS : ∀ w1 w2 : am_W, SV T w w1 → (∀ c, ¬ c = 17 → w2.1 c = w1.1 c) → DT (fun i => (w.1 58 i).toNatClampNeg) z w2 ∧ ABC w2 ∧ w2.1 53 = w.1 53 := fun w1 w2 h1 h2 => by
      have n1 : ∀ c, 40 ≤ c → w2.1 c = w.1 c := fun c c1 => (h2 c (by omega)).trans (h1 c (by
        show (Nat.beq c 18 || (Nat.beq c (20 + 1 + T) || Nat.beq c (27 + 1 + T))) = false
        rw [nbf (by omega), nbf (by omega), nbf (by omega)]; rfl))
      exact ⟨⟨hz, by rw [n1 53 (by omega)]; exact h53, fun i hi => by rw [n1 58 (by omega)]; exact hb i hi⟩, fun i hi => by rw [n1 66 (by omega)]; exact hA i hi, n1 53 (by omega)⟩
    cases out with
    | inl b =>
      obtain ⟨w1, e1, b1, z1, V1⟩ := hs9
      obtain ⟨k1, k2, k3⟩ := dS w1 w1 V1 (fun _ _ => rfl)
      obtain ⟨w3, e3, g3, W3⟩ := hDr w1 k1 k2 (by rw [k3]; exact hT.2.2.2.2.1)
      have k := FRA_text hT6 V1 (fun _ _ => rfl) W3
      have c17 : w3.1 17 = w.1 17 := (W3.1 17 rfl).trans (V1 17 (by
        show (Nat.beq 17 18 || (Nat.beq 17 (20 + 1 + T) || Nat.beq 17 (27 + 1 + T))) = false
        rw [nbf (by omega : ¬ 17 = 20 + 1 + T), nbf (by omega : ¬ 17 = 27 + 1 + T)]; rfl))
      refine ⟨_, w1, w3, (eS _ _ e1).trans (if_pos rfl), by rw [b1]; exact e3, n, m, g, s, T, f, v, te, tc, hV, hg, hs, CC_fr rfl k hC, MM_fr rfl k hM, ⟨hT.1, hT.2.1, by rw [c17]; exact hT.2.2.1, by rw [c17]; exact hT.2.2.2.1, g3, ?_⟩, TX_keep (fun t ht => ?_) (fun i hi => ?_) (fun i hi => ?_) (fun _ _ => ⟨rfl, rfl⟩) hX, SS_fr rfl k hS, ⟨0, by omega, ?_, W3.2.2.2.2, fun i hi => absurd hi (Nat.not_lt_zero _)⟩, IM_fr rfl k hI, ABC_fr rfl k hA⟩
      · rw [W3.2.1 13 (by omega) (by omega) (by omega), k3]; exact hT.2.2.2.2.2
      · have r : ∀ c, ¬ c = 18 → ¬ c = 20 + 1 + T → ¬ c = 27 + 1 + T → c < 50 → w3.1 c = w.1 c := fun c c2 c3 c4 c5 => (W3.1 c (by
          show (Nat.beq c 53 || (Nat.beq c 59 || (Nat.beq c 60 || Nat.beq c 67))) = false
          rw [nbf (by omega), nbf (by omega), nbf (by omega), nbf (by omega)]; rfl)).trans (V1 c (by
          show (Nat.beq c 18 || (Nat.beq c (20 + 1 + T) || Nat.beq c (27 + 1 + T))) = false
          rw [nbf c2, nbf c3, nbf c4]; rfl))
        exact ⟨r _ (by omega) (by omega) (by omega) (by omega), r _ (by omega) (by omega) (by omega) (by omega)⟩
      · rw [W3.2.2.1 i hi, V1 59 (by
          show (Nat.beq 59 18 || (Nat.beq 59 (20 + 1 + T) || Nat.beq 59 (27 + 1 + T))) = false
          rw [nbf (by omega : ¬ 59 = 20 + 1 + T), nbf (by omega : ¬ 59 = 27 + 1 + T)]; rfl)]
      · rw [W3.2.2.2.1 i hi, V1 60 (by
          show (Nat.beq 60 18 || (Nat.beq 60 (20 + 1 + T) || Nat.beq 60 (27 + 1 + T))) = false
          rw [nbf (by omega : ¬ 60 = 20 + 1 + T), nbf (by omega : ¬ 60 = 27 + 1 + T)]; rfl)]
      · rw [W3.1 18 rfl]; exact z1
    | inr y =>
      obtain ⟨c0, c1, c2⟩ := y
      obtain ⟨w1, e1, q1, n0, n1, n2, z1, V1, -⟩ := hs9
      have c17 : w1.1 17 = w.1 17 := V1 17 (by
        show (Nat.beq 17 18 || (Nat.beq 17 (20 + 1 + T) || Nat.beq 17 (27 + 1 + T))) = false
        rw [nbf (by omega : ¬ 17 = 20 + 1 + T), nbf (by omega : ¬ 17 = 27 + 1 + T)]; rfl)
      have h171 : w1.1 17 1 = nI T := by rw [c17]; exact hT.2.2.1
      have h2c : ∀ c, ¬ c = 17 → (wsf w1 17 1 (nI (T + 1))).1 c = w1.1 c := fun c hc => wsf_fc hc
      obtain ⟨k1, k2, k3⟩ := dS w1 (wsf w1 17 1 (nI (T + 1))) V1 h2c
      obtain ⟨w3, e3, q3, i0, i1, i2, i3, g3, W3⟩ := hDr (wsf w1 17 1 (nI (T + 1))) k1 k2 (by rw [k3]; exact hT.2.2.2.2.1)
      have k := FRA_text hT6 V1 h2c W3
      have r : ∀ c, ¬ c = 17 → c < 50 → w3.1 c = w1.1 c := fun c c1 c5 => (W3.1 c (by
        show (Nat.beq c 53 || (Nat.beq c 59 || (Nat.beq c 60 || Nat.beq c 67))) = false
        rw [nbf (by omega), nbf (by omega), nbf (by omega), nbf (by omega)]; rfl)).trans (h2c c c1)
      have r17 : w3.1 17 = (wsf w1 17 1 (nI (T + 1))).1 17 := W3.1 17 rfl
      have hXo : TX T te tc w3 := TX_keep (fun t ht => by
          have rr : ∀ c, ¬ c = 17 → ¬ c = 18 → ¬ c = 20 + 1 + T → ¬ c = 27 + 1 + T → c < 50 → w3.1 c = w.1 c := fun c c1 c2 c3 c4 c5 => (r c c1 c5).trans (V1 c (by
            show (Nat.beq c 18 || (Nat.beq c (20 + 1 + T) || Nat.beq c (27 + 1 + T))) = false
            rw [nbf c2, nbf c3, nbf c4]; rfl))
          exact ⟨rr _ (by omega) (by omega) (by omega) (by omega) (by omega), rr _ (by omega) (by omega) (by omega) (by omega) (by omega)⟩) (fun i hi => by
          rw [W3.2.2.1 i hi, h2c 59 (by omega), V1 59 (by
            show (Nat.beq 59 18 || (Nat.beq 59 (20 + 1 + T) || Nat.beq 59 (27 + 1 + T))) = false
            rw [nbf (by omega : ¬ 59 = 20 + 1 + T), nbf (by omega : ¬ 59 = 27 + 1 + T)]; rfl)]) (fun i hi => by
          rw [W3.2.2.2.1 i hi, h2c 60 (by omega), V1 60 (by
            show (Nat.beq 60 18 || (Nat.beq 60 (20 + 1 + T) || Nat.beq 60 (27 + 1 + T))) = false
            rw [nbf (by omega : ¬ 60 = 20 + 1 + T), nbf (by omega : ¬ 60 = 27 + 1 + T)]; rfl)]) (fun _ _ => ⟨rfl, rfl⟩) hX
      refine ⟨nI T, wsf w1 17 1 (nI (T + 1)), w3, ?_, e3, n, m, g, s, T + 1, f, v, _, _, hV, hg, hs, CC_fr rfl k hC, MM_fr rfl k hM, ⟨hT6, Nat.lt_succ_of_lt hT.2.1, ?_, ?_, g3, ?_⟩, TX_new hF (by rw [r _ (by omega) (by omega)]; exact q1) ?_ q3 ⟨i0, i1, i2, i3⟩ hXo, SS_fr rfl k hS, ⟨0, by omega, ?_, W3.2.2.2.2, fun i hi => absurd hi (Nat.not_lt_zero _)⟩, IM_T (IM_fr rfl k hI), ABC_fr rfl k hA⟩
      · rw [eS _ _ e1, if_neg (by decide), h171, nI_add, pk_sub (by omega), show T + 1 - 1 = T from rfl]
      · rw [r17, wsf_at]
      · rw [r17, wsf_ne (by omega), c17]; exact hT.2.2.2.1
      · rw [W3.2.1 13 (by omega) (by omega) (by omega), k3]; exact hT.2.2.2.2.2
      · rw [r _ (by omega) (by omega)]; exact ⟨n0, n1, n2⟩
      · rw [r 18 (by omega) (by omega)]; exact z1
  · have hT6 : T = 6 := by have := hT.1; omega
    subst hT6
    refine ⟨-nI 4, w, w, ?_, ?_, n, m, g, s, 6, f, v, te, tc, hq⟩
    · unfold F_Loc_text
      rw [hT.2.2.1, ilt_f (by omega) (by omega)]
    · unfold F_Mod_text
      rw [hT.2.2.2.2.1, ieq_t rfl]

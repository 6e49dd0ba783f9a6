/-! ===== the class's next token ===== -/
theorem isL1 (w : am_W) : F_JstrisLatin1aae02_3000001 w = some (nI 1, w) := by
  unfold F_JstrisLatin1aae02_3000001 F_JstrisLatin1aae02_3000001_18
  rw [if_neg (by decide), if_pos (by decide)]; rfl
theorem slen1 (w : am_W) : F_Jstrlength8abf5_3000001 w = some (nI 8, w) := by
  have hc : F_Jstrcoder7d493_3000001 w = some (nI 0, w) := by
    unfold F_Jstrcoder7d493_3000001 F_Jstrcoder7d493_3000001_14
    rw [if_neg (by decide)]; rfl
  unfold F_Jstrlength8abf5_3000001
  rw [hc, bn_s]
  dsimp only
  rw [show nI 8 >>> (nI 0 &&& 31) = nI 8 from by decide]
theorem ixc_w : ∀ (k : Nat) (a b c : Int32) (w : am_W), L_JlatindexOfChar4cfef_3001001_7 k a b c w = (L_JlatindexOfChar4cfef_3001001_7 k a b c w00).map (fun q => (q.1, w))
  | 0, _, _, _, _ => rfl
  | k + 1, a, b, c, w => by
    show F_JlatindexOfChar4cfef_3001001_7 (L_JlatindexOfChar4cfef_3001001_7 k) a b c w = (F_JlatindexOfChar4cfef_3001001_7 (L_JlatindexOfChar4cfef_3001001_7 k) a b c w00).map (fun q => (q.1, w))
    have t1 := ixc_w k a b (c + nI 1) w
    unfold F_JlatindexOfChar4cfef_3001001_7
    by_cases h1 : a ≤ c
    · rw [if_pos h1, if_pos h1]; rfl
    · rw [if_neg h1, if_neg h1]
      cases am_in c 8 with
      | false => rfl
      | true =>
        rw [am_ckT, am_ckT]
        by_cases h2 : (am_byt.getD 1 []).getD c.toNatClampNeg 0 = b
        · rw [if_pos h2, if_pos h2]; rfl
        · rw [if_neg h2, if_neg h2]; exact t1
/-- where a byte stands among the signs -/
def sgI (c : Nat) : Option Int32 := (L_JlatindexOfChar4cfef_3001001_7 am_NF (nI 8) (nI c).toInt8.toInt32 (nI 0) w00).map (fun q => q.1)
theorem sg_all : ((List.range 256).all fun c => match sgI c with | none => false | some r => decide (r < 0) == !(isS c)) = true := by decide +kernel
theorem S_sign {c : Nat} (hc : c < 256) (w : am_W) : ∃ r, F_JstrindexOf0f7a4_3000001 (nI c) w = some (r, w) ∧ (r < 0 ↔ isS c = false) := by
  have h := List.all_eq_true.mp sg_all c (List.mem_range.mpr hc)
  cases hs : sgI c with
  | none => rw [hs] at h; cases h
  | some r =>
    rw [hs] at h
    refine ⟨r, ?_, ?_⟩
    · have hix : L_JlatindexOfChar4cfef_3001001_7 am_NF (nI 8) (nI c).toInt8.toInt32 (nI 0) w = some (r, w) := by
        rw [ixc_w]
        exact map_1 hs w
      have hen : F_JlatcanEncode9a6ad_ (nI c) w = some (nI 1, w) := by
        unfold F_JlatcanEncode9a6ad_ F_JlatcanEncode9a6ad__16
        rw [ilz_f (by omega), ilt_f (by omega) (by omega)]; rfl
      unfold F_JstrindexOf0f7a4_3000001 F_JstrindexOf7cf53_3000001 F_JstrindexOf7cf53_3000001_36 F_JlatindexOf4cfef_3001001 F_JlatindexOfChar4cfef_3001001
      rw [isL1, bn_s]
      dsimp only
      rw [if_neg (by decide), slen1, bn_s]
      dsimp only
      rw [hen, bn_s]
      dsimp only
      rw [iz_f (by omega) (by omega), ite_self, ite_self, ilt_t (by omega) (by omega), hix, bn_s, bn_s, bn_s]
    · have h : (decide (r < 0) == !(isS c)) = true := h
      cases hi : isS c with
      | true =>
        rw [hi] at h
        refine ⟨fun q => ?_, fun q => by cases q⟩
        rw [decide_eq_true q] at h
        cases h
      | false =>
        rw [hi] at h
        refine ⟨fun _ => rfl, fun _ => ?_⟩
        by_cases q : r < 0
        · exact q
        · rw [decide_eq_false q] at h; cases h
theorem nc_all : ((List.range 256).all fun c => decide (((nI c).toUInt32 % 65536).toInt32 = nI c)) = true := by decide +kernel
theorem nc_c {c : Nat} (h : c < 256) : ((nI c).toUInt32 % 65536).toInt32 = nI c := of_decide_eq_true (List.all_eq_true.mp nc_all c (List.mem_range.mpr h))
theorem ctk_s {c : Nat} (h : isS c = true) : ctk c 0 = c := by
  unfold isS at h
  simp only [Bool.or_eq_true, nbt] at h
  rcases h with rfl | rfl | rfl | rfl | rfl | rfl | rfl | rfl <;> rfl
theorem wsf_sw {w : am_W} {c i j : Nat} {x y : Int32} (h : ¬ i = j) : wsf (wsf w c i x) c j y = wsf (wsf w c j y) c i x := by
  unfold wsf
  dsimp only
  rw [mf_mf, mf_mf, mf_s, mf_s]
  refine congrArg (fun q => (mf w.1 c q, w.2)) (funext fun k => ?_)
  unfold upd
  by_cases k1 : k = j
  · by_cases k2 : k = i
    · exact absurd (k2.symm.trans k1) h
    · simp only [if_pos k1, if_neg k2]
  · simp only [if_neg k1]
/-- a token as the class keeps it -/
def RTq (t : Nat × Nat × Nat × Nat) (w w2 : am_W) : Prop := w2.2 = w.2 ∧ EX (fun a => Nat.beq a 18) w w2 ∧ (∀ j, ¬ j = 1 → ¬ j = 2 → ¬ j = 3 → ¬ j = 4 → w2.1 18 j = w.1 18 j) ∧ w2.1 18 1 = nI t.1 ∧ w2.1 18 2 = nI t.2.1 ∧ w2.1 18 3 = nI (ctk t.2.2.1 t.2.2.2) ∧ (t.2.2.1 = 1 ∨ t.2.2.1 = 2 → w2.1 18 4 = nI t.2.2.2)
section
variable {x : Nat → Nat} {z p b : Nat}
theorem lx_end (hb : spn x isB (z - p) p = b) (h : z ≤ b) : lx x z p = (b, b, 0, 0) := by
  unfold lx
  dsimp only
  rw [hb, if_pos h]
theorem lx_word (hb : spn x isB (z - p) p = b) (h : ¬ z ≤ b) (hL : isL (x b) = true) : lx x z p = (b, spn x isL (z - b) b, (wi (lts x b (spn x isL (z - b) b))).1, (wi (lts x b (spn x isL (z - b) b))).2) := by
  unfold lx
  dsimp only
  rw [hb, if_neg h, hL]; rfl
theorem lx_num (hb : spn x isB (z - p) p = b) (h : ¬ z ≤ b) (hL : isL (x b) = false) (hD : isD (x b) = true) : lx x z p = if spn x isD (z - b) b - b ≤ 4 then (b, spn x isD (z - b) b, 1, nvN x b (spn x isD (z - b) b - b)) else (b, spn x isD (z - b) b, 7, 0) := by
  unfold lx
  dsimp only
  rw [hb, if_neg h, hL, hD]; rfl
theorem lx_sign (hb : spn x isB (z - p) p = b) (h : ¬ z ≤ b) (hL : isL (x b) = false) (hD : isD (x b) = false) : lx x z p = (b, b + 1, (bif isS (x b) then x b else 7), 0) := by
  unfold lx
  dsimp only
  rw [hb, if_neg h, hL, hD]; rfl
theorem wi_1 (l : List Nat) : ¬ (wi l).1 = 1 ∧ ¬ (wi l).1 = 0 := by
  unfold wi
  by_cases c0 : l = [116, 97, 107, 101, 115]
  · rw [if_pos c0]; exact ⟨by decide, by decide⟩
  rw [if_neg c0]
  by_cases c1 : l = [115, 97, 119, 115]
  · rw [if_pos c1]; exact ⟨by decide, by decide⟩
  rw [if_neg c1]
  by_cases c2 : l = [109, 105, 110, 100, 115]
  · rw [if_pos c2]; exact ⟨by decide, by decide⟩
  rw [if_neg c2]
  by_cases c3 : l = [111, 114]
  · rw [if_pos c3]; exact ⟨by decide, by decide⟩
  rw [if_neg c3]
  by_cases c4 : l = [97, 110, 100]
  · rw [if_pos c4]; exact ⟨by decide, by decide⟩
  rw [if_neg c4]
  by_cases c5 : l = [110, 111, 116]
  · rw [if_pos c5]; exact ⟨by decide, by decide⟩
  rw [if_neg c5]
  by_cases c6 : l = [109, 111, 114, 101]
  · rw [if_pos c6]; exact ⟨by decide, by decide⟩
  rw [if_neg c6]
  by_cases c7 : l = [115, 111, 114, 116]
  · rw [if_pos c7]; exact ⟨by decide, by decide⟩
  rw [if_neg c7]
  by_cases c8 : l = [104, 111, 117, 114]
  · rw [if_pos c8]; exact ⟨by decide, by decide⟩
  rw [if_neg c8]
  by_cases c9 : l = [116, 104, 105, 110, 103]
  · rw [if_pos c9]; exact ⟨by decide, by decide⟩
  rw [if_neg c9]
  by_cases c10 : l = [109, 97, 110, 121]
  · rw [if_pos c10]; exact ⟨by decide, by decide⟩
  rw [if_neg c10]
  by_cases c11 : l = [107, 105, 110, 100]
  · rw [if_pos c11]; exact ⟨by decide, by decide⟩
  rw [if_neg c11]
  exact ⟨by decide, by decide⟩
end
theorem S_adv {x : Nat → Nat} {z p : Nat} {w : am_W} (h : RB x z w) (h5 : w.1 18 5 = nI 0) (h2 : w.1 18 2 = nI p) (hp : p ≤ z) : ∃ w2, F_Read_advance w = some w2 ∧ RTq (lx x z p) w w2 := by
  have hz := h.1
  have hb1 := spn_ge (x := x) (q := isB) (z - p) p
  have hb2 := spn_le (x := x) (q := isB) (z - p) p
  generalize hb : spn x isB (z - p) p = b at hb1 hb2
  have R1 : RB x z (wsf (wsf w 18 1 (nI b)) 18 2 (nI b)) := RB_f (RB_f h (by omega)) (by omega)
  have e0 : F_Read_advance w = F_Read_advance_68 (wsf w 18 1 (nI b)) := by
    unfold F_Read_advance
    rw [h5, iz_t rfl, am_ltU, h2, S_blank h (z - p) p am_NF (by omega) (by show _ < 4000; omega), hb]
  rw [e0]
  unfold F_Read_advance_68 F_Read_advance_201 F_Read_advance_204
  have r1 : (wsf (wsf w 18 1 (nI b)) 18 2 (nI b)).1 18 1 = nI b := (wsf_ne (by omega)).trans (wsf_at _ _ _ _)
  rw [wsf_at, am_ltU, r1, R1.2.1]
  have ex2 : ∀ (y : Int32), EX (fun a => Nat.beq a 18) w (wsf (wsf w 18 1 (nI b)) 18 2 y) := fun y => EX_t (EX_sf rfl) (EX_sf rfl)
  by_cases hbz : z ≤ b
  · rw [lx_end hb hbz, ilt_f hbz (by omega), am_ltU]
    refine ⟨_, rfl, rfl, EX_t (ex2 _) (EX_sf rfl), fun j j1 j2 j3 j4 => ?_, ?_, ?_, ?_, fun q => by rcases q with q | q <;> cases q⟩
    · rw [wsf_ne j3, wsf_ne j2, wsf_ne j1]
    · rw [wsf_ne (by omega)]; exact r1
    · rw [wsf_ne (by omega), wsf_at]
    · rw [wsf_at]; rfl
  · have hbz2 : b < z := by omega
    obtain ⟨g1, g2⟩ := R1.2.2 b hbz2
    rw [ilt_t hbz2 (by omega), in_nI (by omega : b < 160) (by omega), am_ckT, nI_clamp (by omega), g1, S_isIn (by omega) (by omega) (by omega), bn_s, bi_ite]
    dsimp only
    rw [show (Nat.ble 97 (x b) && Nat.ble (x b) 122) = isL (x b) from rfl]
    cases hL : isL (x b) with
    | true =>
      have he1 := spn_ge (x := x) (q := isL) (z - b) b
      have he2 := spn_le (x := x) (q := isL) (z - b) b
      rw [lx_word hb hbz hL, cond_true]
      have eW : F_Read_scanWord (wsf (wsf w 18 1 (nI b)) 18 2 (nI b)) = F_Read_scanWord_43 (wsf (wsf w 18 1 (nI b)) 18 2 (nI (spn x isL (z - b) b))) := by
        unfold F_Read_scanWord
        exact S_word (RB_f h (by omega)) (z - b) b am_NF (by omega) (by show _ < 4000; omega)
      generalize spn x isL (z - b) b = e at he1 he2 eW
      obtain ⟨w2, e2, q2, q3⟩ := S_scanEnd (x := x) (z := z) (p := b) (e := e) (w := wsf (wsf w 18 1 (nI b)) 18 2 (nI e)) (RB_f (RB_f h (by omega)) (by omega)) ((wsf_ne (by omega)).trans (wsf_at _ _ _ _)) (wsf_at _ _ _ _) he1 (by omega)
      rw [eW, e2, bn_s]
      dsimp only
      rw [am_ltU]
      have f2 : (∀ a, Nat.beq a 18 = false → w2.1 a = w.1 a) ∧ (∀ j, ¬ j = 4 → w2.1 18 j = (wsf (wsf w 18 1 (nI b)) 18 2 (nI e)).1 18 j) := by
        rcases q2 with rfl | ⟨y, rfl⟩
        · exact ⟨fun a ha => ex2 _ a ha, fun j _ => rfl⟩
        · exact ⟨fun a ha => (EX_t (ex2 (nI e)) (EX_sf rfl)) a ha, fun j hj => wsf_ne hj⟩
      refine ⟨_, rfl, ?_, fun a ha => ?_, fun j j1 j2 j3 j4 => ?_, ?_, ?_, ?_, fun q => ?_⟩
      · rcases q2 with rfl | ⟨y, rfl⟩ <;> rfl
      · exact (mf_n ha).trans (f2.1 a ha)
      · rw [wsf_ne j3, f2.2 j j4, wsf_ne j2, wsf_ne j1]
      · rw [wsf_ne (by omega), f2.2 1 (by omega), wsf_ne (by omega), wsf_at]
      · rw [wsf_ne (by omega), f2.2 2 (by omega), wsf_at]
      · rw [wsf_at]
      · rw [wsf_ne (by omega)]
        rcases q with q | q
        · exact absurd q (wi_1 _).1
        · exact q3 q
    | false =>
      rw [cond_false, r1, in_nI (by omega : b < 160) (by omega), am_ckT, nI_clamp (by omega), g1, S_isIn (by omega) (by omega) (by omega), bn_s, bi_ite]
      dsimp only
      rw [show (Nat.ble 48 (x b) && Nat.ble (x b) 57) = isD (x b) from rfl]
      cases hD : isD (x b) with
      | true =>
        have he1 := spn_ge (x := x) (q := isD) (z - b) b
        have he2 := spn_le (x := x) (q := isD) (z - b) b
        rw [lx_num hb hbz hL hD, cond_true]
        obtain ⟨V2, e2, q2⟩ := S_num (w := wsf w 18 1 (nI b)) (RB_f h (by omega)) (b := b) (wsf_at _ _ _ _) (z - b) 0 am_NF (nI 0) (by omega) (by show _ < 4000; omega) (fun _ => rfl)
        rw [Nat.add_zero] at e2 q2
        have eN : F_Read_scanNumber (wsf (wsf w 18 1 (nI b)) 18 2 (nI b)) = L_Read_scanNumber_5 am_NF (wsf (wsf (wsf w 18 1 (nI b)) 18 4 (nI 0)) 18 2 (nI b)) := by
          unfold F_Read_scanNumber
          rw [am_ltU, wsf_sw (by omega)]
        generalize spn x isD (z - b) b = e at he1 he2 e2 q2
        rw [eN, e2, bn_s]
        dsimp only
        rw [am_ltU]
        have fin : ∀ k v, nI (if e - b ≤ 4 then 307 else 309) = nI (ctk k v) → (k = 1 ∨ k = 2 → V2 = nI v) → ∃ w2, some (wsf (wsf (wsf (wsf w 18 1 (nI b)) 18 4 V2) 18 2 (nI e)) 18 3 (nI (if e - b ≤ 4 then 307 else 309))) = some w2 ∧ RTq (b, e, k, v) w w2 := fun k v h1 h2 => by
          refine ⟨_, rfl, rfl, EX_t (EX_t (EX_t (EX_sf rfl) (EX_sf rfl)) (EX_sf rfl)) (EX_sf rfl), fun j j1 j2 j3 j4 => ?_, ?_, ?_, ?_, fun q => ?_⟩
          · rw [wsf_ne j3, wsf_ne j2, wsf_ne j4, wsf_ne j1]
          · rw [wsf_ne (by omega), wsf_ne (by omega), wsf_ne (by omega), wsf_at]
          · rw [wsf_ne (by omega), wsf_at]
          · rw [wsf_at]; exact h1
          · rw [wsf_ne (by omega), wsf_ne (by omega), wsf_at]; exact h2 q
        by_cases q : e - b ≤ 4
        · rw [show (if e - b ≤ 4 then (b, e, 1, nvN x b (e - b)) else (b, e, 7, 0)) = (b, e, 1, nvN x b (e - b)) from if_pos q]
          exact fin 1 _ (by rw [if_pos q]; rfl) (fun _ => q2 q)
        · rw [show (if e - b ≤ 4 then (b, e, 1, nvN x b (e - b)) else (b, e, 7, 0)) = (b, e, 7, 0) from if_neg q]
          exact fin 7 0 (by rw [if_neg q]; rfl) (fun r => by rcases r with r | r <;> cases r)
      | false =>
        rw [lx_sign hb hbz hL hD, cond_false, am_ltU]
        have r2 : (wsf (wsf (wsf w 18 1 (nI b)) 18 2 (nI b)) 18 2 (nI (b + 1))).1 18 1 = nI b := (wsf_ne (by omega)).trans r1
        have g3 : (wsf (wsf (wsf w 18 1 (nI b)) 18 2 (nI b)) 18 2 (nI (b + 1))).1 19 b = nI (x b) := (wsf_nc rfl).trans g1
        rw [r1, nI_add, r2, in_nI (by omega : b < 160) (by omega), am_ckT, nI_clamp (by omega), g3, nc_c g2]
        obtain ⟨r, er, hr⟩ := S_sign g2 (wsf (wsf (wsf w 18 1 (nI b)) 18 2 (nI b)) 18 2 (nI (b + 1)))
        rw [er, bn_s]
        dsimp only
        rw [r2, in_nI (by omega : b < 160) (by omega), am_ckT, nI_clamp (by omega), g3, am_ltU, am_ltU]
        have fin : ∀ k, ∃ w2, some (wsf (wsf (wsf (wsf w 18 1 (nI b)) 18 2 (nI b)) 18 2 (nI (b + 1))) 18 3 (nI (ctk k 0))) = some w2 ∧ (¬ k = 1 → ¬ k = 2 → RTq (b, b + 1, k, 0) w w2) := fun k => by
          refine ⟨_, rfl, fun k1 k2 => ⟨rfl, EX_t (EX_t (EX_t (EX_sf rfl) (EX_sf rfl)) (EX_sf rfl)) (EX_sf rfl), fun j j1 j2 j3 j4 => ?_, ?_, ?_, ?_, fun q => ?_⟩⟩
          · rw [wsf_ne j3, wsf_ne j2, wsf_ne j2, wsf_ne j1]
          · rw [wsf_ne (by omega), wsf_ne (by omega), wsf_ne (by omega), wsf_at]
          · rw [wsf_ne (by omega), wsf_at]
          · rw [wsf_at]
          · rcases q with q | q
            · exact absurd q k1
            · exact absurd q k2
        cases hS : isS (x b) with
        | true =>
          rw [if_neg (fun q => by rw [hr.mp q] at hS; cases hS), cond_true]
          obtain ⟨w2, e2, q2⟩ := fin (x b)
          rw [ctk_s hS] at e2
          have h40 : 40 ≤ x b := by
            unfold isS at hS
            simp only [Bool.or_eq_true, nbt] at hS
            omega
          exact ⟨w2, e2, q2 (by omega) (by omega)⟩
        | false =>
          rw [if_pos (hr.mpr hS), cond_false]
          obtain ⟨w2, e2, q2⟩ := fin 7
          exact ⟨w2, e2, q2 (by omega) (by omega)⟩

/-! ===== back ===== -/
theorem B_back : BOTH F_Loc_back F_Mod_back := fun w ⟨n, m, g, s, T, f, v, te, tc, hq⟩ => by
  obtain ⟨hV, hg, hs, hC, hM, hT, hX, hS, hP, hI, hA⟩ := id hq
  have hn := hV.1
  have hm := hV.2.1
  rcases id hI with h | ⟨h1, h2, n0, m0, g0, s0, f0, v0, h3, h4, h5, h6, h7, h8, h9, h10, h11, h12⟩
  · refine ⟨-nI 3, w, w, ?_, ?_, n, m, g, s, T, f, v, te, tc, hq⟩
    · unfold F_Loc_back
      rw [h.1]; rfl
    · unfold F_Mod_back
      rw [h.2]; rfl
  · have hn0 := h5.1
    have hm0 := h5.2.1
    obtain ⟨w1, a1, a2, a3, a4, a5⟩ := S_like1 w
    have a2' : ∀ c, 8 < c → w1.1 c = w.1 c := fun c hc => a2 c (by omega)
    have r9 : w1.1 0 9 = nI f0 := by rw [a2 0 (by omega)]; exact h11
    have r14 : w1.1 53 14 = nI 1 := by rw [a2' 53 (by omega)]; exact h2
    have r15 : w1.1 53 15 = nI n0 := by rw [a2' 53 (by omega)]; exact h10.1
    have r16 : w1.1 53 16 = nI m0 := by rw [a2' 53 (by omega)]; exact h10.2.1
    have r17 : w1.1 53 17 = nI g0 := by rw [a2' 53 (by omega)]; exact h10.2.2.1
    have r18 : w1.1 53 18 = nI s0 := by rw [a2' 53 (by omega)]; exact h10.2.2.2.1
    have r19 : w1.1 53 19 = nI f0 := by rw [a2' 53 (by omega)]; exact h12
    let u := wsf (wsf (wsf (wsf (wsf (wsf w1 17 2 (nI f0)) 53 0 (nI n0)) 53 5 (nI m0)) 53 4 (nI g0)) 53 7 (nI s0)) 53 13 (nI f0)
    obtain ⟨w2, b1, b2, b3, b4, b5⟩ := D_bk1 8 0 am_NF u rfl (by show 8 < 4000; omega)
    have e1 : w1.1 1 0 = nI n0 := (a3 0 (by omega)).trans h9.1
    have hu : ∀ c, ¬ c = 17 → ¬ c = 53 → u.1 c = w1.1 c := fun c c17 c53 => (mf_n (nbf c53)).trans ((mf_n (nbf c53)).trans ((mf_n (nbf c53)).trans ((mf_n (nbf c53)).trans ((mf_n (nbf c53)).trans (mf_n (nbf c17))))))
    refine ⟨nI n0, wsf w1 17 2 (nI f0), w2, ?_, ?_, n0, m0, g0, s0, T, f0, v0, te, tc, ?_⟩
    · unfold F_Loc_back
      rw [h1, if_neg (by decide), a1, bn_s, am_ltU, r9]
      show some ((wsf w1 17 2 (nI f0)).1 1 0, _) = _
      rw [wsf_nc rfl, e1]
    · unfold F_Mod_back
      simp (disch := decide) only [am_ltU, wsf_ne, wsf_nc, r14, r15, r16, r17, r18, r19]
      rw [if_neg (by decide), b1]
      refine congrArg (fun x => some (x, w2)) ?_
      show (wsf (wsf (wsf (wsf (wsf (wsf w1 17 2 (nI f0)) 53 0 (nI n0)) 53 5 (nI m0)) 53 4 (nI g0)) 53 7 (nI s0)) 53 13 (nI f0)).1 53 0 = nI n0
      rw [wsf_ne (by omega), wsf_ne (by omega), wsf_ne (by omega), wsf_ne (by omega), wsf_at]
    · have q : ∀ c, ¬ c = 57 → ¬ c = 56 → ¬ c = 17 → ¬ c = 53 → w2.1 c = w1.1 c := fun c x1 x2 x3 x4 => (b2 c x1 x2).trans (hu c x3 x4)
      have q53 : ∀ j, w2.1 53 j = upd (upd (upd (upd (upd (w1.1 53) 0 (nI n0)) 5 (nI m0)) 4 (nI g0)) 7 (nI s0)) 13 (nI f0) j := fun j => by
        rw [b2 53 (by omega) (by omega)]; rfl
      have hfr : FRA (fun a => Nat.beq a 1 || Nat.beq a 7) w w2 := by
        intro c j z
        by_cases x1 : c = 57
        · subst x1; cases z
        · by_cases x2 : c = 56
          · subst x2; cases z
          · by_cases x3 : c = 17
            · subst x3; cases z
            · by_cases x4 : c = 53
              · subst x4
                rw [q53, pk_un (fun e => by subst e; cases z), pk_un (fun e => by subst e; cases z), pk_un (fun e => by subst e; cases z), pk_un (fun e => by subst e; cases z), pk_un (fun e => by subst e; cases z), a2' 53 (by omega)]
              · rw [q c x1 x2 x3 x4]
                by_cases h9 : c < 1 ∨ 8 < c
                · rw [a2 c h9]
                · exfalso
                  have : c = 1 ∨ c = 2 ∨ c = 3 ∨ c = 4 ∨ c = 5 ∨ c = 6 ∨ c = 7 ∨ c = 8 := by omega
                  rcases this with rfl | rfl | rfl | rfl | rfl | rfl | rfl | rfl <;> cases z
      refine ⟨h5, h6, h7, ?_, ?_, ⟨hT.1, h4, ?_, ?_, ?_, ?_⟩, TX_fr rfl hfr hX hT.1, SS_fr rfl hfr hS, TP_fr rfl hfr hP, ?_, ABC_fr rfl hfr hA⟩
      · unfold CC
        rw [q 1 (by omega) (by omega) (by omega) (by omega), q 2 (by omega) (by omega) (by omega) (by omega), q 3 (by omega) (by omega) (by omega) (by omega), q 4 (by omega) (by omega) (by omega) (by omega), q 5 (by omega) (by omega) (by omega) (by omega), q 6 (by omega) (by omega) (by omega) (by omega), q 7 (by omega) (by omega) (by omega) (by omega), q 8 (by omega) (by omega) (by omega) (by omega)]
        refine ⟨e1, (a3 1 (by omega)).trans h9.2.1, (a3 2 (by omega)).trans h9.2.2.1, (a3 3 (by omega)).trans h9.2.2.2.1, (a3 4 (by omega)).trans h9.2.2.2.2.1, fun t ht => ?_, fun l hl => ?_⟩
        · obtain ⟨x1, x2, x3⟩ := a4 t (by omega)
          obtain ⟨y1, y2, y3⟩ := h9.2.2.2.2.2.1 t ht
          exact ⟨x1.trans y1, x2.trans y2, x3.trans y3⟩
        · obtain ⟨x1, x2, x3, x4⟩ := a5 l (by omega)
          obtain ⟨y1, y2, y3, y4⟩ := h9.2.2.2.2.2.2 l hl
          exact ⟨x1.trans y1, x2.trans y2, x3.trans y3, x4.trans y4⟩
      · have q61 : ∀ j, u.1 61 j = w.1 61 j := fun j => by rw [hu 61 (by omega) (by omega), a2' 61 (by omega)]
        refine ⟨?_, ?_, ?_, ?_, fun t ht => ?_, fun l hl => ?_⟩
        · rw [q53]; rfl
        · rw [q53]; rfl
        · rw [q53]; rfl
        · rw [q53]; rfl
        · rw [b4 t (by omega) (by omega), q61, q 54 (by omega) (by omega) (by omega) (by omega), q 55 (by omega) (by omega) (by omega) (by omega), a2' 54 (by omega), a2' 55 (by omega), (h8 t ht).1, (h8 t ht).2]
          exact ⟨(hM.2.2.2.2.1 t (by omega)).1, (hM.2.2.2.2.1 t (by omega)).2.1, h10.2.2.2.2.1 t ht⟩
        · obtain ⟨y1, y2, y3⟩ := h10.2.2.2.2.2 l hl
          rw [b5 (3 * l) (by omega), b5 (3 * l + 1) (by omega), b5 (3 * l + 2) (by omega), q61, q61, q61]
          exact ⟨y1, y2, y3⟩
      · rw [b2 17 (by omega) (by omega)]
        show (wsf w1 17 2 (nI f0)).1 17 1 = _
        rw [wsf_ne (by omega), a2' 17 (by omega)]; exact hT.2.2.1
      · rw [b2 17 (by omega) (by omega)]
        show (wsf w1 17 2 (nI f0)).1 17 2 = _
        rw [wsf_at]
      · rw [q53]
        show w1.1 53 12 = _
        rw [a2' 53 (by omega)]; exact hT.2.2.2.2.1
      · rw [q53]; rfl
      · exact IM_fr rfl hfr (Or.inr ⟨h1, h2, n0, m0, g0, s0, f0, v0, Nat.le_refl _, h4, h5, h6, h7, fun t ht => ⟨rfl, rfl⟩, h9, h10, h11, h12⟩)

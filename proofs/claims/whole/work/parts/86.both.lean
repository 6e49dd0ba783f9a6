/-! ===== both readers find the same ===== -/
section
variable {x : Nat → Nat} {z T : Nat}
def PP (x : Nat → Nat) (z T n r o p : Nat) : Prop := ∃ res, FA z r o p res ∧ SC x z T ((X_Read n).1 (nI r) (nI o)) p res ∧ DC x z T r o p res
def PO (x : Nat → Nat) (z T n o p : Nat) : Prop := ∃ res, FA z 5 o p res ∧ SC x z T ((X_Read n).2 (nI o)) p res ∧ DO x z T o p res
def FL (z r o p : Nat) : Nat ⊕ (Nat × List Nat) → Prop
  | .inl _ => True
  | .inr (p2, su) => p ≤ p2 ∧ p2 ≤ z ∧ p + su.length ≤ p2 ∧ ∀ d, d + hbr r o ≤ 64 → hl su (d + 1) = some (d + 1)
theorem hbr_1 {r o : Nat} (hr : r ≤ 4) : hbr r o = hbr (r + 1) o + 1 := by
  unfold hbr
  omega
/-- a sign, a part, what stands behind it -/
theorem FL_step {r o p e k p2 p3 : Nat} {cs su : List Nat} (hr : r ≤ 4) (hj : jl k = r) (he : p < e) (h2 : FA z (r + 1) o e (.inr (p2, cs))) (h3 : FL z r o p2 (.inr (p3, su))) : FL z r o p (.inr (p3, cs ++ sg k :: su)) := by
  obtain ⟨s1, s2, s3, s4, s5, s6, s7⟩ := sg_r hj hr
  obtain ⟨f1, f2, f3, f4⟩ := h2
  obtain ⟨g1, g2, g3, g4⟩ := h3
  refine ⟨by omega, g2, ?_, fun d hd => ?_⟩
  · rw [List.length_append, List.length_cons]; omega
  · rw [hl_t (f4 (d + 1) (by rw [hbr_1 hr] at hd; omega))]
    show (hgt (sg k) (d + 2)).bind (hl su) = _
    rw [hgt_bin s3 s4 s5, bn_s]
    exact g4 d hd
/-- chains of all ranks but that of the comparing signs -/
theorem PL_of {n r o : Nat} (hT : T < 6) (hz : z ≤ 160) (ho : o ≤ 5) (hr : r ≤ 4) (hr2 : ¬ r = 2) (ih : ∀ p, p ≤ z → PP x z T n (r + 1) o p) : ∀ d p, z - p ≤ d → p ≤ z → ∃ res, FL z r o p res ∧ (∀ F i, i + d < 160 → d + 2 ≤ F → SC x z T (LSr n r o 160 F i) p res) ∧ DL x z T (RK (lsr r)) r o p res := by
  have hlr := (lor_b (r := r) (by omega)).2 (by omega)
  intro d
  induction d with
  | zero =>
    intro p hd hp
    have hj : ¬ jl (lx x z p).2.2.1 = r := fun hj => by
      obtain ⟨s1, s2, s3, s4, s5, s6, s7⟩ := sg_r hj hr
      obtain ⟨l1, l2, l3, l4, l5⟩ := lx_ok x hp
      have := l4 (by omega)
      omega
    refine ⟨.inr (p, []), ⟨Nat.le_refl _, hp, Nat.le_refl _, fun d _ => rfl⟩, fun F i hi hF => ?_, DL_end (fun pd h => RK_m hlr.2.2.2.1 h) hj⟩
    obtain ⟨F, rfl⟩ : ∃ j, F = j + 1 := ⟨F - 1, by omega⟩
    exact SC_end hp hr hj
  | succ d ihd =>
    intro p hd hp
    by_cases hj : jl (lx x z p).2.2.1 = r
    · obtain ⟨s1, s2, s3, s4, s5, s6, s7⟩ := sg_r hj hr
      obtain ⟨l1, l2, l3, l4, l5⟩ := lx_ok x hp
      have l6 := l4 (by omega)
      obtain ⟨res2, a1, a2, a3⟩ := ih (lx x z p).2.1 l3
      have hQ2 : ∀ pd, RK (lor (r + 1)) pd → RK (lsr r) (pd ++ [sg (lx x z p).2.2.1]) := fun pd h => RK_ap (RK_m hlr.2.2.2.2.1 h) (RK_1 (by omega) (by rw [s6]; exact hlr.2.2.2.2.2.2.2 hr2))
      cases res2 with
      | inl b =>
        refine ⟨.inl b, trivial, fun F i hi hF => ?_, DL_step (Q2 := RK (lsr r)) (res2 := .inl b) (res3 := .inl 0) hT hz hp ho hr hj (fun _ h => h) hQ2 a1 a3 (fun p2 cs2 h => by cases h)⟩
        obtain ⟨F, rfl⟩ : ∃ j, F = j + 2 := ⟨F - 2, by omega⟩
        exact SC_step (res2 := .inl b) (res3 := .inl 0) hT hz hp hr hj (by omega) (Nat.le_refl _) a1 a2 (fun p2 cs2 h => by cases h)
      | inr y =>
        obtain ⟨p2, cs2⟩ := y
        have a1' := a1
        obtain ⟨f1, f2, f3, f4⟩ := a1'
        obtain ⟨res3, b1, b2, b3⟩ := ihd p2 (by omega) f2
        cases res3 with
        | inl b =>
          refine ⟨.inl b, trivial, fun F i hi hF => ?_, DL_step (Q2 := RK (lsr r)) (res2 := .inr (p2, cs2)) (res3 := .inl b) hT hz hp ho hr hj (fun _ h => h) hQ2 a1 a3 (fun p2 cs2 h => by cases h; exact b3)⟩
          obtain ⟨F, rfl⟩ : ∃ j, F = j + 2 := ⟨F - 2, by omega⟩
          exact SC_step (res2 := .inr (p2, cs2)) (res3 := .inl b) hT hz hp hr hj (by omega) (Nat.le_refl _) a1 a2 (fun p2 cs2 h => by cases h; exact b2 (F + 1) (i + 1) (by omega) (by omega))
        | inr y =>
          obtain ⟨p3, su⟩ := y
          refine ⟨.inr (p3, cs2 ++ sg (lx x z p).2.2.1 :: su), FL_step hr hj (by omega) a1 b1, fun F i hi hF => ?_, DL_step (Q2 := RK (lsr r)) (res2 := .inr (p2, cs2)) (res3 := .inr (p3, su)) hT hz hp ho hr hj (fun _ h => h) hQ2 a1 a3 (fun p2 cs2 h => by cases h; exact b3)⟩
          obtain ⟨F, rfl⟩ : ∃ j, F = j + 2 := ⟨F - 2, by omega⟩
          exact SC_step (res2 := .inr (p2, cs2)) (res3 := .inr (p3, su)) hT hz hp hr hj (by omega) (Nat.le_refl _) a1 a2 (fun p2 cs2 h => by cases h; exact b2 (F + 1) (i + 1) (by omega) (by omega))
    · refine ⟨.inr (p, []), ⟨Nat.le_refl _, hp, Nat.le_refl _, fun d _ => rfl⟩, fun F i hi hF => ?_, DL_end (fun pd h => RK_m hlr.2.2.2.1 h) hj⟩
      obtain ⟨F, rfl⟩ : ∃ j, F = j + 1 := ⟨F - 1, by omega⟩
      exact SC_end hp hr hj
/-- one comparing sign at most -/
theorem PL_2 {n o : Nat} (hT : T < 6) (hz : z ≤ 160) (ho : o ≤ 5) (ih : ∀ p, p ≤ z → PP x z T n 3 o p) : ∀ p, p ≤ z → ∃ res, FL z 2 o p res ∧ SC x z T (LSr n 2 o 1 am_NF 0) p res ∧ DL x z T (RK (lsr 2)) 2 o p res := by
  intro p hp
  by_cases hj : jl (lx x z p).2.2.1 = 2
  · obtain ⟨s1, s2, s3, s4, s5, s6, s7⟩ := sg_r hj (by omega)
    obtain ⟨l1, l2, l3, l4, l5⟩ := lx_ok x hp
    have l6 := l4 (by omega)
    obtain ⟨res2, a1, a2, a3⟩ := ih (lx x z p).2.1 l3
    have hQ2 : ∀ pd, RK (lor (2 + 1)) pd → RK 3 (pd ++ [sg (lx x z p).2.2.1]) ∧ RP (pd ++ [sg (lx x z p).2.2.1]) := fun pd h => ⟨RK_ap (RK_m (by decide) h) (RK_1 (by omega) (by rw [s6]; decide)), pd, sg (lx x z p).2.2.1, [], rfl, h, by omega, s6⟩
    have eF : am_NF = 3998 + 2 := rfl
    cases res2 with
    | inl b =>
      refine ⟨.inl b, trivial, ?_, DL_step (Q2 := fun pd => RK 3 pd ∧ RP pd) (res2 := .inl b) (res3 := .inl 0) hT hz hp ho (by omega) hj (fun _ h => h) hQ2 a1 a3 (fun p2 cs2 h => by cases h)⟩
      rw [eF]
      exact SC_step (res2 := .inl b) (res3 := .inl 0) hT hz hp (by omega) hj (by omega) (by omega) a1 a2 (fun p2 cs2 h => by cases h)
    | inr y =>
      obtain ⟨p2, cs2⟩ := y
      have a1' := a1
      obtain ⟨f1, f2, f3, f4⟩ := a1'
      refine ⟨.inr (p2, cs2 ++ sg (lx x z p).2.2.1 :: []), FL_step (by omega) hj (by omega) a1 ⟨Nat.le_refl _, f2, Nat.le_refl _, fun d _ => rfl⟩, ?_, DL_step (Q2 := fun pd => RK 3 pd ∧ RP pd) (res2 := .inr (p2, cs2)) (res3 := .inr (p2, [])) hT hz hp ho (by omega) hj (fun _ h => h) hQ2 a1 a3 (fun p2 cs2 h => by cases h; exact DL_end2)⟩
      rw [eF]
      exact SC_step (res2 := .inr (p2, cs2)) (res3 := .inr (p2, [])) hT hz hp (by omega) hj (by omega) (by omega) a1 a2 (fun p2 cs2 h => by cases h; exact SC_end2 f2 (by omega) (by omega) (by omega))
  · refine ⟨.inr (p, []), ⟨Nat.le_refl _, hp, Nat.le_refl _, fun d _ => rfl⟩, ?_, DL_end (fun pd h => RK_m (by decide) h) hj⟩
    rw [show am_NF = 3999 + 1 from rfl]
    exact SC_end hp (by omega) hj
/-- a chain from its first part on -/
theorem PP_chain {n r o p : Nat} {res1 : Nat ⊕ (Nat × List Nat)} (hr : r ≤ 4) (ho : o ≤ 5) (hp : p ≤ z) (hn : r = 2 → ¬ (lx x z p).2.2.1 = 6 ∨ 5 ≤ o) (a1 : FA z (r + 1) o p res1) (a2 : SC x z T ((X_Read n).1 (nI (r + 1)) (nI o)) p res1) (a3 : DC x z T (r + 1) o p res1) (hl2 : ∀ p1 cs1, res1 = .inr (p1, cs1) → ∃ res, FL z r o p1 res ∧ SC x z T (LSr n r o (if r = 2 then 1 else 160) am_NF 0) p1 res ∧ DL x z T (RK (lsr r)) r o p1 res) : PP x z T (n + 1) r o p := by
  cases res1 with
  | inl b => exact ⟨.inl b, trivial, SC_chain (res1 := .inl b) (res2 := .inl 0) hr ho hn hp a1 a2 (fun p1 cs1 h => by cases h), DC_chain (res1 := .inl b) (res2 := .inl 0) hr hn a1 a3 (fun p1 cs1 h => by cases h)⟩
  | inr y =>
    obtain ⟨p1, cs1⟩ := y
    obtain ⟨res2, b1, b2, b3⟩ := hl2 p1 cs1 rfl
    have a1' := a1
    obtain ⟨f1, f2, f3, f4⟩ := a1'
    cases res2 with
    | inl b => exact ⟨.inl b, trivial, SC_chain (res1 := .inr (p1, cs1)) (res2 := .inl b) hr ho hn hp a1 a2 (fun p1 cs1 h => by cases h; exact b2), DC_chain (res1 := .inr (p1, cs1)) (res2 := .inl b) hr hn a1 a3 (fun p1 cs1 h => by cases h; exact b3)⟩
    | inr y =>
      obtain ⟨p2, su⟩ := y
      have b1' := b1
      obtain ⟨g1, g2, g3, g4⟩ := b1'
      refine ⟨.inr (p2, cs1 ++ su), ⟨by omega, g2, ?_, fun d hd => ?_⟩, SC_chain (res1 := .inr (p1, cs1)) (res2 := .inr (p2, su)) hr ho hn hp a1 a2 (fun p1 cs1 h => by cases h; exact b2), DC_chain (res1 := .inr (p1, cs1)) (res2 := .inr (p2, su)) hr hn a1 a3 (fun p1 cs1 h => by cases h; exact b3)⟩
      · rw [List.length_append]; omega
      · rw [hl_t (f4 d (by rw [hbr_1 hr] at hd; omega))]
        exact g4 d hd
/-- a sign before a part -/
theorem FA_un {r r2 o o2 p e p2 c : Nat} {cs : List Nat} (hc : c = 13 ∨ c = 19) (he : p < e) (hh : hbr r2 o2 ≤ hbr r o) (h : FA z r2 o2 e (.inr (p2, cs))) : FA z r o p (.inr (p2, cs ++ [c])) := by
  obtain ⟨f1, f2, f3, f4⟩ := h
  refine ⟨by omega, f2, ?_, fun d hd => ?_⟩
  · rw [List.length_append]; show p + (cs.length + 1) ≤ p2; omega
  · rw [hl_t (f4 d (by omega))]
    show (hgt c (d + 1)).bind (hl []) = _
    rw [hgt_un hc]; rfl
theorem PP_all (hT : T < 6) (hz : z ≤ 160) : ∀ n, (∀ r o p, r ≤ 5 → o ≤ 5 → p ≤ z → 7 * (5 - o) + 7 - r ≤ n → PP x z T n r o p) ∧ (∀ o p, o ≤ 5 → p ≤ z → 7 * (5 - o) + 1 ≤ n → PO x z T n o p) := by
  intro n
  induction n with
  | zero => exact ⟨fun r o p hr ho hp h => by omega, fun o p ho hp h => by omega⟩
  | succ n ih =>
    refine ⟨fun r o p hr ho hp hn => ?_, fun o p ho hp hn => ?_⟩
    · obtain ⟨l1, l2, l3, l4, l5⟩ := lx_ok x hp
      by_cases h5 : r = 5
      · subst h5
        obtain ⟨res, a1, a2, a3⟩ := ih.2 o p ho hp (by omega)
        exact ⟨res, a1, SC_one a2, DC_one a3⟩
      · have h4 : r ≤ 4 := by omega
        by_cases h2 : r = 2
        · subst h2
          by_cases hk : (lx x z p).2.2.1 = 6 ∧ o < 5
          · obtain ⟨res, a1, a2, a3⟩ := ih.1 2 (o + 1) (lx x z p).2.1 hr (by omega) l3 (by omega)
            have b2 := SC_not hT hz hp hk.1 hk.2 a1 a2
            have b3 := DC_not hz hp hk.1 hk.2 a3
            cases res with
            | inl b => exact ⟨.inl b, trivial, b2, b3⟩
            | inr y =>
              obtain ⟨p2, cs⟩ := y
              exact ⟨.inr (p2, cs ++ [13]), FA_un (Or.inl rfl) (by have := l4 (by omega); omega) (by unfold hbr; omega) a1, b2, b3⟩
          · obtain ⟨res1, a1, a2, a3⟩ := ih.1 3 o p (by omega) ho hp (by omega)
            refine PP_chain h4 ho hp (fun _ => by omega) a1 a2 a3 (fun p1 cs1 h => ?_)
            subst h
            exact PL_2 hT hz ho (fun p hp => ih.1 3 o p (by omega) ho hp (by omega)) p1 a1.2.1
        · obtain ⟨res1, a1, a2, a3⟩ := ih.1 (r + 1) o p (by omega) ho hp (by omega)
          refine PP_chain h4 ho hp (fun h => absurd h h2) a1 a2 a3 (fun p1 cs1 h => ?_)
          subst h
          obtain ⟨res, b1, b2, b3⟩ := PL_of hT hz ho h4 h2 (fun p hp => ih.1 (r + 1) o p (by omega) ho hp (by omega)) (z - p1) p1 (Nat.le_refl _) a1.2.1
          have g1 := a1.1
          exact ⟨res, b1, by rw [if_neg h2]; exact b2 am_NF 0 (by omega) (by show _ ≤ 4000; omega), b3⟩
    · obtain ⟨l1, l2, l3, l4, l5⟩ := lx_ok x hp
      by_cases hk : (lx x z p).2.2.1 = 1 ∨ (lx x z p).2.2.1 = 2
      · have l6 := l4 (by omega)
        refine ⟨_, ?_, SC_oper hT hz hp hk, D_oper hT hz hp ho hk⟩
        refine ⟨by omega, l3, by show p + 1 ≤ _; omega, fun d hd => ?_⟩
        have hd2 : d + 1 ≤ 64 := by unfold hbr at hd; omega
        show (hgt _ d).bind (hl []) = _
        rcases hk with hk | hk
        · rw [if_pos hk, hgt_num (l5.2.1 hk) hd2]; rfl
        · rw [if_neg (by omega), hgt_nam (l5.2.2.1 hk) hd2]; rfl
      · by_cases hk2 : (lx x z p).2.2.1 = 45 ∧ o < 5
        · obtain ⟨res, a1, a2, a3⟩ := ih.2 (o + 1) (lx x z p).2.1 (by omega) l3 (by omega)
          have b2 := SC_neg hT hz hp hk2.1 hk2.2 a1 a2
          have b3 := D_neg hz hp hk2.1 hk2.2 a3
          cases res with
          | inl b => exact ⟨.inl b, trivial, b2, b3⟩
          | inr y =>
            obtain ⟨p2, cs⟩ := y
            exact ⟨.inr (p2, cs ++ [19]), FA_un (Or.inr rfl) (by have := l4 (by omega); omega) (by unfold hbr; omega) a1, b2, b3⟩
        · by_cases hk3 : (lx x z p).2.2.1 = 40 ∧ o < 5
          · obtain ⟨res, a1, a2, a3⟩ := ih.1 0 (o + 1) (lx x z p).2.1 (by omega) (by omega) l3 (by omega)
            have b2 := SC_paren hz hp hk3.1 hk3.2 a1 a2
            have b3 := D_paren hT hz hp hk3.1 hk3.2 a1 a3
            cases res with
            | inl b => exact ⟨.inl b, trivial, b2, b3⟩
            | inr y =>
              obtain ⟨p2, cs⟩ := y
              obtain ⟨f1, f2, f3, f4⟩ := a1
              obtain ⟨n1, n2, n3, n4, n5⟩ := lx_ok x f2
              refine ⟨if (lx x z p2).2.2.1 = 41 then .inr ((lx x z p2).2.1, cs) else .inl (lx x z p2).1, ?_, b2, b3⟩
              by_cases q : (lx x z p2).2.2.1 = 41
              · rw [if_pos q]
                exact ⟨by omega, n3, by omega, fun d hd => f4 d (by unfold hbr at hd ⊢; omega)⟩
              · rw [if_neg q]; exact trivial
          · exact ⟨.inl (lx x z p).1, trivial, SC_noone hp hz ho (fun h => hk (Or.inl h)) (fun h => hk (Or.inr h)) (fun h => by omega) (fun h => by omega), D_noone hp ho (fun h => hk (Or.inl h)) (fun h => hk (Or.inr h)) (fun h => by omega) (fun h => by omega)⟩
end

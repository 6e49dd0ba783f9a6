/-! ===== a run over a part of the heap, as a contract over the whole of it ===== -/
theorem am_mv_rv {q r : Nat → Nat} (v : Value) : am_rv q (am_mv r v) = am_rv (fun k => q (r k)) v := by cases v <;> rfl
theorem am_mv_map {q r : Nat → Nat} (as : List Value) : (as.map (am_mv r)).map (am_rv q) = as.map (am_rv (fun k => q (r k))) := by
  rw [List.map_map]
  apply List.map_congr_left
  intro v _
  exact am_mv_rv v
theorem am_mc_rc {q r : Nat → Nat} {ty : Nat → ClassId} (c : am_C) : am_rc q ty (am_mc r c) = am_rc (fun k => q (r k)) ty c := by
  cases c with
  | inr o =>
    show Sum.inr (o.1, (o.2.map (am_mv r)).map (am_rv q)) = Sum.inr (o.1, o.2.map (am_rv _))
    rw [am_mv_map]
  | inl o =>
    obtain ⟨t, n, z⟩ := o
    match z with
    | .inl f => rfl
    | .inr (.inl f) => rfl
    | .inr (.inr (.inl f)) => rfl
    | .inr (.inr (.inr (.inl f))) => rfl
    | .inr (.inr (.inr (.inr f))) =>
      show Sum.inl (ty t, n, _) = Sum.inl (ty t, n, _)
      congr 7
      funext i
      by_cases hi : i < n
      · rw [if_pos hi, if_pos hi]
        show Option.map q (if i < n then (f i).map r else f i) = _
        rw [if_pos hi, Option.map_map]
        rfl
      · rw [if_neg hi, if_neg hi]
theorem am_ro_hi {lo n off k : Nat} (h : am_pX ≤ k) : am_ro lo n off k = k := by
  unfold am_ro
  rw [Nat.ble_eq_true_of_le h]
  rfl
theorem am_ro_lo {lo n off k : Nat} (hp : k < am_pX) (h : k < n) : am_ro lo n off k = k + lo := by
  unfold am_ro
  rw [show Nat.ble am_pX k = false from Bool.eq_false_iff.mpr (fun q => by have := Nat.le_of_ble_eq_true q; omega), show Nat.ble n k = false from Bool.eq_false_iff.mpr (fun q => by have := Nat.le_of_ble_eq_true q; omega)]
  rfl
theorem am_ro_mid {lo n off k : Nat} (hp : k < am_pX) (h : n ≤ k) : am_ro lo n off k = k + off := by
  unfold am_ro
  rw [show Nat.ble am_pX k = false from Bool.eq_false_iff.mpr (fun q => by have := Nat.le_of_ble_eq_true q; omega), Nat.ble_eq_true_of_le h]
  rfl
theorem am_rz_len {q : Nat → Nat} {ty : Nat → ClassId} {h : am_H} : (am_rz q ty h).length = h.length := List.length_mapIdx
theorem am_rz_at {q : Nat → Nat} {ty : Nat → ClassId} {h : am_H} {k : Nat} {e : Nat × va_E} (he : (am_rz q ty h)[k]? = some e) : ∃ c, h[k]? = some c ∧ e = (q k, am_rc q ty c) := by
  unfold am_rz at he
  rw [List.getElem?_mapIdx] at he
  cases hk : h[k]? with
  | none => rw [hk] at he; cases he
  | some c =>
    rw [hk] at he
    cases he
    exact ⟨c, rfl, rfl⟩
section FRAME
variable {sc : Option (Nat × (Nat → Int32))} {D : va_G} {ty : Nat → ClassId} {q q1 : Nat → Nat} {pre post h0 h2 : am_H} {sz : Nat}
/-- the part's cells are cells of the whole -/
theorem am_fr_in (hb : h2.length + (pre.length + post.length) ≤ am_pX) (hle : h0.length ≤ h2.length) (k : Nat) (e : Nat × va_E) (he : (am_rz (fun k => q (am_ro pre.length h0.length (pre.length + post.length) k)) ty h0)[k]? = some e) : (am_rz q ty (pre ++ (h0.map (am_mc (am_ro pre.length h0.length (pre.length + post.length))) ++ post)))[pre.length + k]? = some e := by
  obtain ⟨c, hc, rfl⟩ := am_rz_at he
  have hk : k < h0.length := (List.getElem?_eq_some_iff.mp hc).1
  have h1 : (pre ++ (h0.map (am_mc (am_ro pre.length h0.length (pre.length + post.length))) ++ post))[pre.length + k]? = some (am_mc (am_ro pre.length h0.length (pre.length + post.length)) c) := by
    rw [List.getElem?_append_right (by omega), Nat.add_sub_cancel_left, List.getElem?_append_left (by rw [List.length_map]; exact hk), List.getElem?_map, hc]
    rfl
  rw [am_rz_get h1, am_mc_rc, am_ro_lo (by omega) hk, Nat.add_comm k]
theorem am_fr_vA (hb : h2.length + (pre.length + post.length) ≤ am_pX) (hle : h0.length ≤ h2.length) (x : Nat) (hx : va_A (am_rz (fun k => q (am_ro pre.length h0.length (pre.length + post.length) k)) ty h0) sz x) : va_A (am_rz q ty (pre ++ (h0.map (am_mc (am_ro pre.length h0.length (pre.length + post.length))) ++ post))) sz x := by
  rcases hx with ⟨k, e, hx⟩ | hx
  · exact Or.inl ⟨_, e, am_fr_in hb hle k (x, e) hx⟩
  · exact Or.inr hx
theorem am_fr_D {A : Nat → Prop} (hb : h2.length + (pre.length + post.length) ≤ am_pX) (hle : h0.length ≤ h2.length) (h : va_D A (am_rz q ty (pre ++ (h0.map (am_mc (am_ro pre.length h0.length (pre.length + post.length))) ++ post)))) : va_D A (am_rz (fun k => q (am_ro pre.length h0.length (pre.length + post.length) k)) ty h0) :=
  ⟨fun i j p1 p2 h1 h3 h4 => by have := h.1 _ _ _ _ (am_fr_in hb hle i p1 h1) (am_fr_in hb hle j p2 h3) h4; omega, fun k e he => h.2 _ e (am_fr_in hb hle k e he)⟩
theorem am_fr_P (hb : h2.length + (pre.length + post.length) ≤ am_pX) (hle : h0.length ≤ h2.length) {U : State} (h : am_P sc D ty q (pre ++ (h0.map (am_mc (am_ro pre.length h0.length (pre.length + post.length))) ++ post)) sz U) : am_P sc D ty (fun k => q (am_ro pre.length h0.length (pre.length + post.length) k)) h0 sz U := by
  obtain ⟨a1, a2, a3, a4, a5⟩ := h
  refine ⟨a1, a2.by (fun k => pre.length + k) (fun k e he => am_fr_in hb hle k e he), a3, am_fr_D hb hle a4, ?_⟩
  refine am_X_narrow (am_X_q (q := q) (fun j hj => ?_) a5) (fun x hx => am_fr_vA hb hle x hx)
  show q (am_ro _ _ _ j) = q j
  rw [am_ro_hi hj]
/-- the places behind: those of the whole, and those that are new -/
def am_q2 (q q1 : Nat → Nat) (lo hi n : Nat) : Nat → Nat := fun j => if lo ≤ j ∧ j < hi then q1 (n + (j - lo)) else q j
theorem am_q2_ro (hb : h2.length + (pre.length + post.length) ≤ am_pX) (hle : h0.length ≤ h2.length) (f1 : am_ag (fun k => q (am_ro pre.length h0.length (pre.length + post.length) k)) q1 h0.length h2.length) (k : Nat) : am_q2 q q1 (pre.length + (h0.length + post.length)) (pre.length + (h2.length + post.length)) h0.length (am_ro pre.length h0.length (pre.length + post.length) k) = q1 k := by
  unfold am_q2
  rcases Nat.lt_or_ge k h0.length with hk | hk
  · rw [am_ro_lo (by omega) hk, if_neg (by omega), f1 k (Or.inl hk)]
    show _ = q (am_ro _ _ _ k)
    rw [am_ro_lo (by omega) hk]
  · rcases Nat.lt_or_ge k am_pX with hp | hp
    · rw [am_ro_mid hp hk]
      rcases Nat.lt_or_ge k h2.length with h9 | h9
      · rw [if_pos (by omega)]
        congr 1
        omega
      · rw [if_neg (by omega), f1 k (Or.inr h9)]
        show _ = q (am_ro _ _ _ k)
        rw [am_ro_mid hp hk]
    · rw [am_ro_hi hp, if_neg (by omega), f1 k (Or.inr (by omega))]
      show _ = q (am_ro _ _ _ k)
      rw [am_ro_hi hp]
theorem am_q2_ag : am_ag q (am_q2 q q1 (pre.length + (h0.length + post.length)) (pre.length + (h2.length + post.length)) h0.length) (pre.length + (h0.length + post.length)) (pre.length + (h2.length + post.length)) := fun j hj => by
  unfold am_q2
  rw [if_neg (by omega)]
/-- a cell behind: one of the whole's others, or one of the part's -/
theorem am_fr_out (hb : h2.length + (pre.length + post.length) ≤ am_pX) (hle : h0.length ≤ h2.length) (f1 : am_ag (fun k => q (am_ro pre.length h0.length (pre.length + post.length) k)) q1 h0.length h2.length) (hn : h2.length = h0.length ∨ (pre ++ post).all (am_nc (pre.length + (h0.length + post.length)) (pre.length + (h2.length + post.length))) = true) (j : Nat) (e : Nat × va_E) (he : (am_rz (am_q2 q q1 (pre.length + (h0.length + post.length)) (pre.length + (h2.length + post.length)) h0.length) ty (pre ++ ((h2.take h0.length).map (am_mc (am_ro pre.length h0.length (pre.length + post.length))) ++ (post ++ (h2.drop h0.length).map (am_mc (am_ro pre.length h0.length (pre.length + post.length)))))))[j]? = some e) :
    ((am_rz q ty (pre ++ (h0.map (am_mc (am_ro pre.length h0.length (pre.length + post.length))) ++ post)))[j]? = some e ∧ (j < pre.length ∨ pre.length + h0.length ≤ j)) ∨ ∃ k, (am_rz q1 ty h2)[k]? = some e ∧ am_ro pre.length h0.length (pre.length + post.length) k = j := by
  have hq2 := am_q2_ro hb hle f1
  obtain ⟨c, hc, rfl⟩ := am_rz_at he
  have hcc : ∀ c, (c ∈ pre ∨ c ∈ post) → am_rc (am_q2 q q1 (pre.length + (h0.length + post.length)) (pre.length + (h2.length + post.length)) h0.length) ty c = am_rc q ty c := fun c hm => by
    rcases hn with hn | hn
    · have : am_q2 q q1 (pre.length + (h0.length + post.length)) (pre.length + (h2.length + post.length)) h0.length = q := by
        funext j
        unfold am_q2
        rw [if_neg (by omega)]
      rw [this]
    · exact am_nc_rc am_q2_ag (List.all_eq_true.mp hn c (by rw [List.mem_append]; exact hm))
  have part : ∀ k c0, h2[k]? = some c0 → am_ro pre.length h0.length (pre.length + post.length) k = j → c = am_mc (am_ro pre.length h0.length (pre.length + post.length)) c0 → ∃ k, (am_rz q1 ty h2)[k]? = some (am_q2 q q1 (pre.length + (h0.length + post.length)) (pre.length + (h2.length + post.length)) h0.length j, am_rc (am_q2 q q1 (pre.length + (h0.length + post.length)) (pre.length + (h2.length + post.length)) h0.length) ty c) ∧ am_ro pre.length h0.length (pre.length + post.length) k = j := fun k c0 hk hj hcc0 => by
    refine ⟨k, ?_, hj⟩
    rw [am_rz_get hk, ← hj, hq2 k, hcc0, am_mc_rc]
    congr 3
    funext k9
    exact (hq2 k9).symm
  rcases Nat.lt_or_ge j pre.length with h1 | h1
  · rw [List.getElem?_append_left h1] at hc
    left
    refine ⟨?_, Or.inl h1⟩
    rw [am_rz_get (show (pre ++ _)[j]? = some c by rw [List.getElem?_append_left h1]; exact hc), hcc c (Or.inl (List.mem_of_getElem? hc)), am_q2_ag j (by omega)]
  · rw [List.getElem?_append_right h1] at hc
    have hl1 : ((h2.take h0.length).map (am_mc (am_ro pre.length h0.length (pre.length + post.length)))).length = h0.length := by rw [List.length_map, List.length_take]; omega
    rcases Nat.lt_or_ge (j - pre.length) h0.length with h3 | h3
    · right
      rw [List.getElem?_append_left (by omega), List.getElem?_map] at hc
      cases hk : (h2.take h0.length)[j - pre.length]? with
      | none => rw [hk] at hc; cases hc
      | some c0 =>
        rw [hk] at hc
        rw [List.getElem?_take] at hk
        rw [if_pos h3] at hk
        refine part (j - pre.length) c0 hk ?_ (Option.some.inj hc).symm
        rw [am_ro_lo (by omega) h3]
        omega
    · rw [List.getElem?_append_right (by omega), hl1] at hc
      rcases Nat.lt_or_ge (j - pre.length - h0.length) post.length with h4 | h4
      · rw [List.getElem?_append_left h4] at hc
        left
        refine ⟨?_, Or.inr (by omega)⟩
        rw [am_rz_get (c := c) (k := j) (show (pre ++ _)[j]? = some c by rw [List.getElem?_append_right h1, List.getElem?_append_right (by rw [List.length_map]; omega), List.length_map]; exact hc), hcc c (Or.inr (List.mem_of_getElem? hc)), am_q2_ag j (by omega)]
      · right
        rw [List.getElem?_append_right h4, List.getElem?_map] at hc
        cases hk : (h2.drop h0.length)[j - pre.length - h0.length - post.length]? with
        | none => rw [hk] at hc; cases hc
        | some c0 =>
          rw [hk] at hc
          rw [List.getElem?_drop] at hk
          have hlt := (List.getElem?_eq_some_iff.mp hk).1
          refine part _ c0 hk ?_ (Option.some.inj hc).symm
          rw [am_ro_mid (by omega) (by omega)]
          omega
theorem am_ro_inj {i j : Nat} (hb : h2.length + (pre.length + post.length) ≤ am_pX) (hle : h0.length ≤ h2.length) (hi : i < h2.length) (hj : j < h2.length) (e : am_ro pre.length h0.length (pre.length + post.length) i = am_ro pre.length h0.length (pre.length + post.length) j) : i = j := by
  rcases Nat.lt_or_ge i h0.length with h1 | h1 <;> rcases Nat.lt_or_ge j h0.length with h3 | h3
  · rw [am_ro_lo (by omega) h1, am_ro_lo (by omega) h3] at e; omega
  · rw [am_ro_lo (by omega) h1, am_ro_mid (by omega) h3] at e; omega
  · rw [am_ro_mid (by omega) h1, am_ro_lo (by omega) h3] at e; omega
  · rw [am_ro_mid (by omega) h1, am_ro_mid (by omega) h3] at e; omega
set_option maxHeartbeats 1000000 in
theorem am_fr_Q (hb : h2.length + (pre.length + post.length) ≤ am_pX) (hle : h0.length ≤ h2.length) (hn : h2.length = h0.length ∨ (pre ++ post).all (am_nc (pre.length + (h0.length + post.length)) (pre.length + (h2.length + post.length))) = true) {r0 : Option Value} {a a1 : Array Value} {st t : State} {o : Outcome}
    (hP : am_P sc D ty q (pre ++ (h0.map (am_mc (am_ro pre.length h0.length (pre.length + post.length))) ++ post)) sz st) (hQ : am_Q D ty (fun k => q (am_ro pre.length h0.length (pre.length + post.length) k)) h0 r0 h2 sz a st o t) :
    am_Q D ty q (pre ++ (h0.map (am_mc (am_ro pre.length h0.length (pre.length + post.length))) ++ post)) (r0.map (am_mv (am_ro pre.length h0.length (pre.length + post.length)))) (pre ++ ((h2.take h0.length).map (am_mc (am_ro pre.length h0.length (pre.length + post.length))) ++ (post ++ (h2.drop h0.length).map (am_mc (am_ro pre.length h0.length (pre.length + post.length)))))) sz a1 st o t := by
  obtain ⟨⟨q1, f1, f2, f3, f4, f5⟩, f6⟩ := hQ
  obtain ⟨a1, a2, a3, a4, a5⟩ := hP
  have hq2 := am_q2_ro hb hle f1
  have out := am_fr_out (ty := ty) hb hle f1 hn
  have lh : (pre ++ (h0.map (am_mc (am_ro pre.length h0.length (pre.length + post.length))) ++ post)).length = pre.length + (h0.length + post.length) := by rw [List.length_append, List.length_append, List.length_map]
  have lh1 : (pre ++ ((h2.take h0.length).map (am_mc (am_ro pre.length h0.length (pre.length + post.length))) ++ (post ++ (h2.drop h0.length).map (am_mc (am_ro pre.length h0.length (pre.length + post.length)))))).length = pre.length + (h2.length + post.length) := by
    simp only [List.length_append, List.length_map, List.length_take, List.length_drop]
    omega
  -- a cell of the frame isn't one of the part's
  have away : ∀ (j : Nat) (e : Nat × va_E), (am_rz q ty (pre ++ (h0.map (am_mc (am_ro pre.length h0.length (pre.length + post.length))) ++ post)))[j]? = some e → (j < pre.length ∨ pre.length + h0.length ≤ j) → ¬ va_A (am_rz (fun k => q (am_ro pre.length h0.length (pre.length + post.length) k)) ty h0) sz e.1 := by
    intro j e he hj hA
    rcases hA with ⟨k, e2, hk⟩ | hA
    · have := a4.1 _ _ _ _ he (am_fr_in hb hle k _ hk) rfl
      have hk9 : k < h0.length := by have := (List.getElem?_eq_some_iff.mp hk).1; rwa [am_rz_len] at this
      omega
    · have := (a2 j e he).lt
      omega
  refine ⟨⟨am_q2 q q1 (pre.length + (h0.length + post.length)) (pre.length + (h2.length + post.length)) h0.length, ?_, ?_, ?_, f4, ?_, ?_⟩, ?_⟩
  · rw [lh, lh1]
    exact am_q2_ag
  · rw [f2]
    congr 1
    cases r0 with
    | none => rfl
    | some v =>
      show some (am_rv q1 v) = some (am_rv _ (am_mv _ v))
      rw [am_mv_rv]
      congr 2
      funext k
      exact (hq2 k).symm
  · intro j e he
    rcases out j e he with ⟨h3, h4⟩ | ⟨k, h3, -⟩
    · refine (a2 j e h3).kept (f6.2 _ ?_ (away j e h3 h4))
      exact (a2 j e h3).lt
    · exact f3 k e h3
  · intro i j p1 p2 hi hj hp
    rcases out i p1 hi with ⟨h3, h4⟩ | ⟨k, h3, hk⟩ <;> rcases out j p2 hj with ⟨h5, h6⟩ | ⟨k2, h5, hk2⟩
    · exact a4.1 _ _ _ _ h3 h5 hp
    · exact absurd (by rw [hp]; exact f5.2 _ _ h5) (away i p1 h3 h4)
    · exact absurd (by rw [← hp]; exact f5.2 _ _ h3) (away j p2 h5 h6)
    · rw [← hk, ← hk2, f5.1 _ _ _ _ h3 h5 hp]
  · intro j e he
    rcases out j e he with ⟨h3, h4⟩ | ⟨k, h3, -⟩
    · exact va_A.in h3
    · exact am_fr_vA hb hle _ (f5.2 _ _ h3)
  · exact ⟨f6.1, fun x hx hA => f6.2 x hx (fun w => hA (am_fr_vA hb hle x w))⟩
end FRAME
/-- the frame rule -/
theorem am_frame {sc : Option (Nat × (Nat → Int32))} {l : Launch} {d : Nat} {D : va_G} {ty : Nat → ClassId} {E : am_E} (hE : ∀ (z : Nat) (as : List Value) (h : am_H) (r : Option Value) (h1 : am_H) (mc1 ms1 : Nat), z < 129 → E z as h r h1 mc1 ms1 → am_MetD sc l d D ty z as h r h1 mc1 ms1) (z : Nat) (as : List Value) (h : am_H) (r : Option Value) (h1 : am_H) (mc1 ms1 : Nat) (hz : z < 129) (he : am_fr E z as h r h1 mc1 ms1) : am_MetD sc l d D ty z as h r h1 mc1 ms1 := by
  obtain ⟨pre, post, h0, h2, as0, r0, he, hle, hb, hn, rfl, rfl, rfl, rfl⟩ := he
  intro q sz hle2
  have M := hE z as0 h0 r0 h2 mc1 ms1 hz he (fun k => q (am_ro pre.length h0.length (pre.length + post.length) k)) sz hle
  unfold Met at M ⊢
  refine MetFree.mono M (fun a s hp => ⟨?_, am_fr_P (h2 := h2) hb hle hp.2⟩) (fun _ _ _ _ _ h => h) (fun a s o t hp hq => ⟨am_fr_Q hb hle hn hp.2 hq.1, ?_⟩)
  · rw [hp.1, am_mv_map]
  · obtain ⟨-, L, hL1, hL2⟩ := hq
    exact ⟨L, hL1, fun x hx => am_fr_vA (h2 := h2) hb hle _ (hL2 x hx)⟩

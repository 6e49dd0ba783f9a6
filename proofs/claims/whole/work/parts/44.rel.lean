/-! ===== what holds between two calls: the class's cells and the model's tell the same ===== -/
/-- the cells that tell (the others are scratch) -/
def kp (c j : Nat) : Bool := match c with
  | 34 => false
  | 35 => false
  | 37 => false
  | 38 => false
  | 39 => false
  | 41 => false
  | 43 => false
  | 44 => false
  | 67 => false
  | 68 => false
  | 69 => false
  | 71 => false
  | 72 => false
  | 73 => false
  | 74 => false
  | 18 => Nat.beq j 0
  | 53 => Nat.ble j 24
  | _ => true
def KP (w w' : am_W) : Prop := ∀ c j, kp c j = true → w'.1 c j = w.1 c j
theorem KP_r (w : am_W) : KP w w := fun _ _ _ => rfl
theorem KP_t {a b c : am_W} (h : KP a b) (k : KP b c) : KP a c := fun x j q => (k x j q).trans (h x j q)
/-- only cells of S were written -/
def EX (S : Nat → Bool) (w w' : am_W) : Prop := ∀ c, S c = false → w'.1 c = w.1 c
theorem EX_r (S : Nat → Bool) (w : am_W) : EX S w w := fun _ _ => rfl
theorem EX_t {S : Nat → Bool} {a b c : am_W} (h : EX S a b) (k : EX S b c) : EX S a c := fun x q => (k x q).trans (h x q)
theorem EX_m {S R : Nat → Bool} {a b : am_W} (hs : ∀ c, R c = false → S c = false) (h : EX S a b) : EX R a b := fun x q => h x (hs x q)
theorem EX_st {S : Nat → Bool} {w : am_W} {c : Nat} {i x : Int32} (h : S c = true) : EX S w (wst w c i x) := fun a ha => mf_n (Bool.eq_false_iff.mpr (fun q => by rw [Nat.eq_of_beq_eq_true q, h] at ha; cases ha))
theorem EX_sf {S : Nat → Bool} {w : am_W} {c j : Nat} {x : Int32} (h : S c = true) : EX S w (wsf w c j x) := fun a ha => mf_n (Bool.eq_false_iff.mpr (fun q => by rw [Nat.eq_of_beq_eq_true q, h] at ha; cases ha))
theorem KP_ex {S : Nat → Bool} {a b : am_W} (hs : ∀ c, S c = true → ∀ j, kp c j = false) (h : EX S a b) : KP a b := fun c j q => by
  cases hc : S c
  · rw [h c hc]
  · rw [hs c hc j] at q; cases q
/-- the kept rail -/
def KC (n m g s : Nat) (v : am_V) (w : am_W) : Prop := w.1 9 0 = nI n ∧ w.1 9 1 = nI g ∧ w.1 9 2 = nI m ∧ w.1 9 3 = nI s ∧ w.1 9 4 = mk (evr v) n ∧ (∀ t, t < n → w.1 10 t = nI (v 1 t) ∧ w.1 11 t = nI (v 2 t) ∧ w.1 12 t = nI (v 3 t)) ∧ ∀ l, l < m → w.1 13 l = nI (v 4 l) ∧ w.1 14 l = nI (v 5 l) ∧ w.1 15 l = nI (v 6 l) ∧ w.1 16 l = mk (gr v l) n
/-- the model's image -/
def KM (n m g s : Nat) (v : am_V) (w : am_W) : Prop := w.1 53 15 = nI n ∧ w.1 53 16 = nI m ∧ w.1 53 17 = nI g ∧ w.1 53 18 = nI s ∧ (∀ t, t < n → w.1 61 t = nI (v 3 t)) ∧ ∀ l, l < m → w.1 61 (8 + 3 * l) = nI (v 4 l) ∧ w.1 61 (8 + 3 * l + 1) = nI (v 5 l) ∧ w.1 61 (8 + 3 * l + 2) = nI (v 6 l)
def IM (n T : Nat) (v : am_V) (w : am_W) : Prop := (w.1 0 8 = nI 0 ∧ w.1 53 14 = nI 0) ∨ (w.1 0 8 = nI 1 ∧ w.1 53 14 = nI 1 ∧ ∃ (n0 m0 g0 s0 f0 : Nat) (v0 : am_V), n0 ≤ n ∧ f0 < T ∧ VI n0 m0 v0 ∧ g0 < 2 ^ n0 ∧ s0 < 2 ^ m0 ∧ (∀ t, t < n0 → v0 1 t = v 1 t ∧ v0 2 t = v 2 t) ∧ KC n0 m0 g0 s0 v0 w ∧ KM n0 m0 g0 s0 v0 w ∧ w.1 0 9 = nI f0 ∧ w.1 53 19 = nI f0)
/-- the sheets -/
def SS (w : am_W) : Prop := ∀ k, k < 4 → w.1 (45 + 2 * k) 0 = w.1 62 k ∧ (w.1 62 k = -nI 1 ∨ ∃ so, so < 3 ∧ w.1 62 k = nI so) ∧ (∃ z, z ≤ 40 ∧ w.1 63 k = nI z ∧ w.1 (45 + 2 * k) 1 = nI z) ∧ ∀ i, i < 40 → w.1 (46 + 2 * k) i = w.1 64 (40 * k + i)
/-- the tape -/
def TP (w : am_W) : Prop := ∃ z, z ≤ 160 ∧ w.1 18 0 = nI z ∧ w.1 53 9 = nI z ∧ ∀ i, i < z → w.1 19 i = w.1 58 i ∧ ∃ b, b < 256 ∧ w.1 58 i = nI b
/-- the class's step for a code of the model's -/
def stp (c : Nat) : Int32 := bif Nat.ble 100000 c then nI (c - 100000) else bif Nat.ble c 5 then -nI 1 - nI c else match c with
  | 11 => -nI 15
  | 12 => -nI 14
  | 13 => -nI 8
  | 14 => -nI 12
  | 15 => -nI 13
  | 16 => -nI 10
  | 17 => -nI 11
  | 18 => -nI 9
  | _ => -nI 7
/-- how a code changes the height of the stack; none: it can't stand here -/
def hgt (c d : Nat) : Option Nat := bif Nat.ble 100000 c && Nat.ble c 109999 || Nat.ble c 5 then (bif Nat.ble (d + 1) 64 then some (d + 1) else none) else bif Nat.beq c 13 || Nat.beq c 19 then (bif Nat.ble 1 d then some d else none) else bif Nat.ble 11 c && Nat.ble c 18 then (bif Nat.ble 2 d then some (d - 1) else none) else none
/-- k codes from i on take the stack from height d to 1 -/
def hts (c : Nat → Nat) : Nat → Nat → Nat → Prop
  | 0, _, d => d = 1
  | k + 1, i, d => ∃ e, hgt (c i) d = some e ∧ hts c k (i + 1) e
/-- the texts: of each the first code behind each part, and the codes -/
def TX (T : Nat) (te tc : Nat → Nat → Nat) (w : am_W) : Prop := ∀ t, t < T → te t 0 = 0 ∧ te t 0 ≤ te t 1 ∧ te t 1 ≤ te t 2 ∧ te t 2 ≤ te t 3 ∧ te t 3 ≤ 160 ∧ (∀ p, p < 3 → w.1 (27 + 1 + t) p = nI (te t (p + 1)) ∧ hts (tc t) (te t (p + 1) - te t p) (te t p) 0) ∧ (∀ p, p < 4 → w.1 60 (4 * t + p) = nI (te t p)) ∧ ∀ i, i < te t 3 → w.1 (20 + 1 + t) i = stp (tc t i) ∧ w.1 59 (200 * t + i) = nI (tc t i)
def TT (T f : Nat) (w : am_W) : Prop := T ≤ 6 ∧ f < T ∧ w.1 17 1 = nI T ∧ w.1 17 2 = nI f ∧ w.1 53 12 = nI T ∧ w.1 53 13 = nI f
/-- what never changes -/
def ABC (w : am_W) : Prop := ∀ i, i < 96 → w.1 66 i = ([116, 97, 107, 101, 115, 32, 32, 32, 115, 97, 119, 115, 32, 32, 32, 32, 109, 105, 110, 100, 115, 32, 32, 32, 109, 111, 114, 101, 32, 32, 32, 32, 115, 111, 114, 116, 32, 32, 32, 32, 104, 111, 117, 114, 32, 32, 32, 32, 116, 104, 105, 110, 103, 32, 32, 32, 109, 97, 110, 121, 32, 32, 32, 32, 107, 105, 110, 100, 32, 32, 32, 32, 111, 114, 32, 32, 32, 32, 32, 32, 97, 110, 100, 32, 32, 32, 32, 32, 110, 111, 116, 32, 32, 32, 32, 32] : List Int32).getD i 0
def RQ (n m g s T f : Nat) (v : am_V) (te tc : Nat → Nat → Nat) (w : am_W) : Prop := VI n m v ∧ g < 2 ^ n ∧ s < 2 ^ m ∧ CC n m g s v w ∧ MM n m g s v w ∧ TT T f w ∧ TX T te tc w ∧ SS w ∧ TP w ∧ IM n T v w ∧ ABC w
def RR (w : am_W) : Prop := ∃ (n m g s T f : Nat) (v : am_V) (te tc : Nat → Nat → Nat), RQ n m g s T f v te tc w
/-- a call of both: one answer, and they still tell the same -/
def BOTH (F G : am_W → Option (Int32 × am_W)) : Prop := ∀ w, RR w → ∃ (r : Int32) (w1 w2 : am_W), F w = some (r, w1) ∧ G w1 = some (r, w2) ∧ RR w2
def BOTHL (F G : am_W → Option (Int64 × am_W)) : Prop := ∀ w, RR w → ∃ (r : Int64) (w1 w2 : am_W), F w = some (r, w1) ∧ G w1 = some (r, w2) ∧ RR w2
section
variable {n m g s T f : Nat} {v : am_V} {te tc : Nat → Nat → Nat} {w w' : am_W}
theorem CC_kp (k : KP w w') (h : CC n m g s v w) : CC n m g s v w' := ⟨(k 1 0 rfl).trans h.1, (k 1 1 rfl).trans h.2.1, (k 1 2 rfl).trans h.2.2.1, (k 1 3 rfl).trans h.2.2.2.1, (k 1 4 rfl).trans h.2.2.2.2.1, fun t ht => ⟨(k 2 t rfl).trans (h.2.2.2.2.2.1 t ht).1, (k 3 t rfl).trans (h.2.2.2.2.2.1 t ht).2.1, (k 4 t rfl).trans (h.2.2.2.2.2.1 t ht).2.2⟩, fun l hl => ⟨(k 5 l rfl).trans (h.2.2.2.2.2.2 l hl).1, (k 6 l rfl).trans (h.2.2.2.2.2.2 l hl).2.1, (k 7 l rfl).trans (h.2.2.2.2.2.2 l hl).2.2.1, (k 8 l rfl).trans (h.2.2.2.2.2.2 l hl).2.2.2⟩⟩
theorem MM_kp (k : KP w w') (h : MM n m g s v w) : MM n m g s v w' := ⟨(k 53 0 rfl).trans h.1, (k 53 4 rfl).trans h.2.1, (k 53 5 rfl).trans h.2.2.1, (k 53 7 rfl).trans h.2.2.2.1, fun t ht => ⟨(k 54 t rfl).trans (h.2.2.2.2.1 t ht).1, (k 55 t rfl).trans (h.2.2.2.2.1 t ht).2.1, (k 56 t rfl).trans (h.2.2.2.2.1 t ht).2.2⟩, fun l hl => ⟨(k 57 _ rfl).trans (h.2.2.2.2.2 l hl).1, (k 57 _ rfl).trans (h.2.2.2.2.2 l hl).2.1, (k 57 _ rfl).trans (h.2.2.2.2.2 l hl).2.2⟩⟩
theorem KC_kp (k : KP w w') (h : KC n m g s v w) : KC n m g s v w' := ⟨(k 9 0 rfl).trans h.1, (k 9 1 rfl).trans h.2.1, (k 9 2 rfl).trans h.2.2.1, (k 9 3 rfl).trans h.2.2.2.1, (k 9 4 rfl).trans h.2.2.2.2.1, fun t ht => ⟨(k 10 t rfl).trans (h.2.2.2.2.2.1 t ht).1, (k 11 t rfl).trans (h.2.2.2.2.2.1 t ht).2.1, (k 12 t rfl).trans (h.2.2.2.2.2.1 t ht).2.2⟩, fun l hl => ⟨(k 13 l rfl).trans (h.2.2.2.2.2.2 l hl).1, (k 14 l rfl).trans (h.2.2.2.2.2.2 l hl).2.1, (k 15 l rfl).trans (h.2.2.2.2.2.2 l hl).2.2.1, (k 16 l rfl).trans (h.2.2.2.2.2.2 l hl).2.2.2⟩⟩
theorem KM_kp (k : KP w w') (h : KM n m g s v w) : KM n m g s v w' := ⟨(k 53 15 rfl).trans h.1, (k 53 16 rfl).trans h.2.1, (k 53 17 rfl).trans h.2.2.1, (k 53 18 rfl).trans h.2.2.2.1, fun t ht => (k 61 t rfl).trans (h.2.2.2.2.1 t ht), fun l hl => ⟨(k 61 _ rfl).trans (h.2.2.2.2.2 l hl).1, (k 61 _ rfl).trans (h.2.2.2.2.2 l hl).2.1, (k 61 _ rfl).trans (h.2.2.2.2.2 l hl).2.2⟩⟩
theorem IM_kp (k : KP w w') (h : IM n T v w) : IM n T v w' := by
  rcases h with h | ⟨h1, h2, n0, m0, g0, s0, f0, v0, h3, h4, h5, h6, h7, h8, h9, h10, h11, h12⟩
  · exact Or.inl ⟨(k 0 8 rfl).trans h.1, (k 53 14 rfl).trans h.2⟩
  · exact Or.inr ⟨(k 0 8 rfl).trans h1, (k 53 14 rfl).trans h2, n0, m0, g0, s0, f0, v0, h3, h4, h5, h6, h7, h8, KC_kp k h9, KM_kp k h10, (k 0 9 rfl).trans h11, (k 53 19 rfl).trans h12⟩
theorem SS_kp (k : KP w w') (h : SS w) : SS w' := fun q hq => by
  have e1 : ∀ j, w'.1 (45 + 2 * q) j = w.1 (45 + 2 * q) j := fun j => k _ j (by match q, hq with | 0, _ => rfl | 1, _ => rfl | 2, _ => rfl | 3, _ => rfl)
  have e2 : ∀ j, w'.1 (46 + 2 * q) j = w.1 (46 + 2 * q) j := fun j => k _ j (by match q, hq with | 0, _ => rfl | 1, _ => rfl | 2, _ => rfl | 3, _ => rfl)
  obtain ⟨h1, h2, h3, h4⟩ := h q hq
  rw [e1 0, e1 1, k 62 q rfl, k 63 q rfl]
  exact ⟨h1, h2, h3, fun i hi => by rw [e2, k 64 _ rfl]; exact h4 i hi⟩
theorem TP_kp (k : KP w w') (h : TP w) : TP w' := by
  obtain ⟨z, h1, h2, h3, h4⟩ := h
  exact ⟨z, h1, (k 18 0 rfl).trans h2, (k 53 9 rfl).trans h3, fun i hi => by rw [k 19 i rfl, k 58 i rfl]; exact h4 i hi⟩
theorem TX_kp (k : KP w w') (h : TX T te tc w) (hT : T ≤ 6) : TX T te tc w' := fun t ht => by
  have e1 : ∀ j, w'.1 (27 + 1 + t) j = w.1 (27 + 1 + t) j := fun j => k _ j (by match t, Nat.lt_of_lt_of_le ht hT with | 0, _ => rfl | 1, _ => rfl | 2, _ => rfl | 3, _ => rfl | 4, _ => rfl | 5, _ => rfl)
  have e2 : ∀ j, w'.1 (20 + 1 + t) j = w.1 (20 + 1 + t) j := fun j => k _ j (by match t, Nat.lt_of_lt_of_le ht hT with | 0, _ => rfl | 1, _ => rfl | 2, _ => rfl | 3, _ => rfl | 4, _ => rfl | 5, _ => rfl)
  obtain ⟨h0, h1, h2, h3, h4, h5, h6, h7⟩ := h t ht
  exact ⟨h0, h1, h2, h3, h4, fun p hp => ⟨(e1 p).trans (h5 p hp).1, (h5 p hp).2⟩, fun p hp => (k 60 _ rfl).trans (h6 p hp), fun i hi => ⟨(e2 i).trans (h7 i hi).1, (k 59 _ rfl).trans (h7 i hi).2⟩⟩
theorem TT_kp (k : KP w w') (h : TT T f w) : TT T f w' := ⟨h.1, h.2.1, (k 17 1 rfl).trans h.2.2.1, (k 17 2 rfl).trans h.2.2.2.1, (k 53 12 rfl).trans h.2.2.2.2.1, (k 53 13 rfl).trans h.2.2.2.2.2⟩
theorem ABC_kp (k : KP w w') (h : ABC w) : ABC w' := fun i hi => (k 66 i rfl).trans (h i hi)
theorem RQ_kp (k : KP w w') (h : RQ n m g s T f v te tc w) : RQ n m g s T f v te tc w' := ⟨h.1, h.2.1, h.2.2.1, CC_kp k h.2.2.2.1, MM_kp k h.2.2.2.2.1, TT_kp k h.2.2.2.2.2.1, TX_kp k h.2.2.2.2.2.2.1 h.2.2.2.2.2.1.1, SS_kp k h.2.2.2.2.2.2.2.1, TP_kp k h.2.2.2.2.2.2.2.2.1, IM_kp k h.2.2.2.2.2.2.2.2.2.1, ABC_kp k h.2.2.2.2.2.2.2.2.2.2⟩
theorem RR_kp (k : KP w w') (h : RR w) : RR w' := by
  obtain ⟨n, m, g, s, T, f, v, te, tc, h⟩ := h
  exact ⟨n, m, g, s, T, f, v, te, tc, RQ_kp k h⟩
end
/-- calls that write scratch alone -/
theorem BOTH_q {F G : am_W → Option (Int32 × am_W)} (h : ∀ {n m g s T f : Nat} {v : am_V} {te tc : Nat → Nat → Nat} {w : am_W}, RQ n m g s T f v te tc w → ∃ (r : Int32) (w1 w2 : am_W), F w = some (r, w1) ∧ G w1 = some (r, w2) ∧ KP w w2) : BOTH F G := fun w hr => by
  obtain ⟨n, m, g, s, T, f, v, te, tc, hq⟩ := hr
  obtain ⟨r, w1, w2, h1, h2, h3⟩ := h hq
  exact ⟨r, w1, w2, h1, h2, n, m, g, s, T, f, v, te, tc, RQ_kp h3 hq⟩
theorem BOTHL_q {F G : am_W → Option (Int64 × am_W)} (h : ∀ {n m g s T f : Nat} {v : am_V} {te tc : Nat → Nat → Nat} {w : am_W}, RQ n m g s T f v te tc w → ∃ (r : Int64) (w1 w2 : am_W), F w = some (r, w1) ∧ G w1 = some (r, w2) ∧ KP w w2) : BOTHL F G := fun w hr => by
  obtain ⟨n, m, g, s, T, f, v, te, tc, hq⟩ := hr
  obtain ⟨r, w1, w2, h1, h2, h3⟩ := h hq
  exact ⟨r, w1, w2, h1, h2, n, m, g, s, T, f, v, te, tc, RQ_kp h3 hq⟩
/-- calls that write nothing -/
theorem BOTH_0 {F G : am_W → Option (Int32 × am_W)} (h : ∀ {n m g s T f : Nat} {v : am_V} {te tc : Nat → Nat → Nat} {w : am_W}, RQ n m g s T f v te tc w → ∃ r : Int32, F w = some (r, w) ∧ G w = some (r, w)) : BOTH F G := BOTH_q (fun {n m g s T f v te tc w} hq => by
  obtain ⟨r, h1, h2⟩ := h hq
  exact ⟨r, w, w, h1, h2, KP_r w⟩)

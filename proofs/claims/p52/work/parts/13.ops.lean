/-! ===== what the abstract machine does, the machine does: the standing of a method, and each instruction ===== -/
noncomputable def am_tblg : List Jvm.Cond := wt_tbl.filter goodWord
noncomputable def am_ws (y : Nat) : List Jvm.Cond := Jvm.Cond.code (am_nm y) (am_code y) (am_ml y) (am_ret y) :: am_tblg
theorem am_mg {w : Jvm.Cond} (h : w ∈ wt_tbl) (hg : goodWord w = true) : w ∈ am_tblg := List.mem_filter.mpr ⟨h, hg⟩
def am_rm (d mc ms : Nat) : Room := { frames := d + 3, cells := mc, slots := ms, locals := 60 * (d + 3) }
def am_tys (ty : Nat → ClassId) : List (ClassId × FieldType) := [(ty 0, .int), (ty 1, .long), (ty 2, .object RX6), (ty 3, .array .int), (ty 4, .byte)]
def am_nestB (w : Jvm.Cond) : Bool := match w with
  | .methodLinkNest _ _ _ _ => true
  | _ => false
/-- words of the tables that a callee's list can't bear -/
def am_Nw (U : State) : Prop := (∀ w ∈ wt_tbl, am_nestB w = true → va_Nw w U) ∧ va_AO RX6 U ∧ va_Nw (.arrayOver (.array .int)) U
theorem am_ao {t : FieldType} {u U : State} (h : u.vm = U.vm) (hb : (Jvm.Cond.arrayOver t).before #[] u = true) : (Jvm.Cond.arrayOver t).before #[] U = true := by
  unfold Jvm.Cond.before Jvm.Cond.holds at hb ⊢
  simp only [Jvm.Cond.value] at hb ⊢
  rw [← h]
  exact hb
theorem am_Nw_warm {s U : State} (hW : s.WarmedH U.vm) (h : am_Nw s) : am_Nw U := by
  refine ⟨fun w hw hb => ?_, h.2.1.moved hW.alike, ?_⟩
  · have h1 := h.1 w hw hb
    cases w with
    | methodLinkNest a i x z => exact va_Nw.warmM hW h1
    | _ => cases hb
  · have h2 : (Jvm.Cond.arrayOver (.array .int)).before #[] (s.setVm U.vm) = true := by rw [Cond.arrayOver_setVmC hW.alike]; exact h.2.2
    exact am_ao (rfl : (s.setVm U.vm).vm = U.vm) h2
theorem am_Nw_same {s U : State} (hv : s.vm = U.vm) (h : am_Nw s) : am_Nw U := by
  refine ⟨fun w hw hb => ?_, am_ao hv h.2.1, am_ao hv h.2.2⟩
  have h1 := h.1 w hw hb
  cases w with
  | methodLinkNest a i x z => exact va_tabs rfl hv h1
  | _ => cases hb
/-- what lies outside the heap of cells: the script; two static arrays; String constants; two statics; and those words -/
def am_so (i : Nat) : String := match i with
  | 0 => "LockedToAnothers$LawBook"
  | 1 => "LockedToAnothers$Reader"
  | 2 => "LockedToAnothers$Reader"
  | 3 => "LockedToAnothersLaw"
  | 4 => "LockedToAnothersLaw"
  | 5 => "LockedToAnothersLaw"
  | _ => "LockedToAnothersLaw"
def am_si (i : Nat) : Nat := match i with
  | 0 => 42
  | 1 => 74
  | 2 => 84
  | 3 => 74
  | 4 => 86
  | 5 => 88
  | _ => 90
def am_X (sc : Option (Nat × (Nat → Int32))) (q : Nat → Nat) (A : Nat → Prop) (U : State) (H : Heap) : Prop :=
  ((True ∧ True) ∧ vk_S 7 am_ln am_byt (fun i => q (am_pS + i)) (fun i => q (am_pV + i)) A U H ∧ va_Z "java/lang/String" "COMPACT_STRINGS" "Z" (.int 1) A U H ∧ va_Zq "jdk/internal/util/Preconditions" "SIOOBE_FORMATTER" "Ljava/util/function/BiFunction;" A U H) ∧ am_Nw U ∧ (∀ i, i < 7 → vk_R (am_so i) (am_si i) (am_stx i) (q (am_pS + i)) U) ∧ (va_Z "java/lang/Integer" "DigitOnes" "[B" (.ref (q (am_pX + 1))) A U H ∧ va_T .byte (q (am_pX + 1)) 100 (fun j => .int (am_ones j)) A U H) ∧ (∀ w, sc = some w → va_T .int (q am_pL) w.1 (fun j => .int (w.2 j)) A U H)
theorem am_X_warm {sc : Option (Nat × (Nat → Int32))} {q : Nat → Nat} {A : Nat → Prop} {u U : State} {H : Heap} (hW : u.WarmedH U.vm) (h : am_X sc q A u H) : am_X sc q A U H := ⟨⟨⟨trivial, trivial⟩, h.1.2.1.moved hW.alike, h.1.2.2.1.moved hW.alike, h.1.2.2.2.moved hW.alike⟩, am_Nw_warm hW h.2.1, fun i hi => (h.2.2.1 i hi).warm hW, ⟨h.2.2.2.1.1.moved hW.alike, h.2.2.2.1.2.moved hW.alike⟩, fun w hw => (h.2.2.2.2 w hw).moved hW.alike⟩
theorem am_X_same {sc : Option (Nat × (Nat → Int32))} {q : Nat → Nat} {A : Nat → Prop} {u U : State} {H : Heap} (hv : u.vm = U.vm) (h : am_X sc q A u H) : am_X sc q A U H := by
  have ha : u.vm.Alike U.vm := by rw [hv]; exact Vm.Alike.refl _
  exact ⟨⟨⟨trivial, trivial⟩, h.1.2.1.moved ha, h.1.2.2.1.moved ha, h.1.2.2.2.moved ha⟩, am_Nw_same hv h.2.1, fun i hi => (h.2.2.1 i hi).same hv.symm, ⟨h.2.2.2.1.1.moved ha, h.2.2.2.1.2.moved ha⟩, fun w hw => (h.2.2.2.2 w hw).moved ha⟩
theorem am_X_kept {sc : Option (Nat × (Nat → Int32))} {q : Nat → Nat} {A : Nat → Prop} {U : State} {H H1 : Heap} (h : am_X sc q A U H) (hq : ∀ a : Nat, a < H.size → ¬ A a → H1[a]? = H[a]?) : am_X sc q A U H1 := ⟨⟨⟨trivial, trivial⟩, h.1.2.1.kept hq, h.1.2.2.1.kept hq, h.1.2.2.2.kept hq⟩, h.2.1, h.2.2.1, ⟨h.2.2.2.1.1.kept hq, h.2.2.2.1.2.kept hq⟩, fun w hw => (h.2.2.2.2 w hw).kept hq⟩
theorem am_X_narrow {sc : Option (Nat × (Nat → Int32))} {q : Nat → Nat} {A B : Nat → Prop} {U : State} {H : Heap} (h : am_X sc q A U H) (hAB : ∀ q, B q → A q) : am_X sc q B U H := ⟨⟨⟨trivial, trivial⟩, h.1.2.1.narrow hAB, h.1.2.2.1.narrow hAB, h.1.2.2.2.narrow hAB⟩, h.2.1, h.2.2.1, ⟨h.2.2.2.1.1.narrow hAB, h.2.2.2.1.2.narrow hAB⟩, fun w hw => (h.2.2.2.2 w hw).narrow hAB⟩
theorem am_X_q {sc : Option (Nat × (Nat → Int32))} {q q1 : Nat → Nat} {A : Nat → Prop} {U : State} {H : Heap} (hq : ∀ j, am_pX ≤ j → q1 j = q j) (h : am_X sc q A U H) : am_X sc q1 A U H := by
  have e1 : (fun i => q1 (am_pS + i)) = fun i => q (am_pS + i) := funext fun i => hq _ (by show 2000000 ≤ 3000000 + i; omega)
  have e2 : (fun i => q1 (am_pV + i)) = fun i => q (am_pV + i) := funext fun i => hq _ (by show 2000000 ≤ 3000000 + 1000 + i; omega)
  have e3 : ∀ i, q1 (am_pS + i) = q (am_pS + i) := fun i => hq _ (by show 2000000 ≤ 3000000 + i; omega)
  have e4 : q1 (am_pX + 1) = q (am_pX + 1) := hq _ (by show 2000000 ≤ 2000000 + 1; omega)
  have e5 : q1 am_pL = q am_pL := hq _ (by show 2000000 ≤ 2500000; omega)
  unfold am_X
  rw [e1, e2, e4, e5]
  simp only [e3]
  exact h
theorem am_X_ag {sc : Option (Nat × (Nat → Int32))} {q q1 : Nat → Nat} {A : Nat → Prop} {U : State} {H : Heap} {lo hi : Nat} (hq : am_ag q q1 lo hi) (hh : hi ≤ am_pX) (h : am_X sc q A U H) : am_X sc q1 A U H := am_X_q (fun j hj => hq j (Or.inr (Nat.le_trans hh hj))) h
/-- how a method's return goes on: r is answered, h1 is the heap -/
def am_end (y : Nat) (i : Instr) (r : Option Value) : Prop := match i, r with
  | .ireturn, some (.int x) => ∃ t, am_ret y = some t ∧ narrow t (.int x) = .int x
  | .lreturn, some (.long _) => am_ret y = some .long
  | .areturn, some (.ref _) => ∃ t, am_ret y = some t ∧ ((∃ n, t = .object n) ∨ ∃ t1, t = .array t1)
  | .return_, none => am_ret y = none
  | _, _ => False
def am_Rt (p : Program) (l : Launch) (e : Env) (R : Room) (s : State) (m : MethodId) (args : Array Value) (below : List Frame) (meth : Method) (c : Code) (y mc ms : Nat) (Φ : Option Value → am_H → Prop) (D : va_G) (ty : Nat → ClassId) (A : Nat → Prop) (q0 : Nat → Nat) (h0 : am_H) (Qf : State → Prop) : Prop :=
  ∀ (i : Instr) (r : Option Value) (h1 : am_H) (q : Nat → Nat) (H : Heap) (locs : List Loc) (ls : Array Slot) (pc k n : Nat), am_end y i r → decode (am_code y) pc = .ok (i, 1) → Φ r h1 → am_ag q0 q h0.length h1.length → h0.length ≤ h1.length → va_P D vwCl (am_rz q ty h1) H → va_D A (am_rz q ty h1) → va_S A s.heap H locs → k ≤ mc → n ≤ ms → W p l e R s m args below meth c H locs k n Qf (F0 m pc ls (r.map (am_rv q)).toList)
def am_Cx (p : Program) (l : Launch) (e : Env) (R : Room) (s : State) (m : MethodId) (args : Array Value) (below : List Frame) (meth : Method) (c : Code) (sc : Option (Nat × (Nat → Int32))) (y d mc ms : Nat) (Φ : Option Value → am_H → Prop) (D : va_G) (ty : Nat → ClassId) (A : Nat → Prop) (q0 : Nat → Nat) (h0 : am_H) (Qf : State → Prop) : Prop :=
  p.tables.exec = Jvm.exec ∧ c.code = am_code y ∧ c.maxLocals = am_ml y ∧ (mc ≤ R.cells ∧ ms ≤ R.slots ∧ d + 4 ≤ R.frames ∧ 60 * (d + 4) ≤ R.locals) ∧ s.vm.findClass (am_nm y).cls = some m.cls ∧ True ∧ ((am_nm y).name = "<init>" → meth.name = "<init>") ∧ (∀ w ∈ am_tblg, w.before args s = true) ∧ va_K D vwCl (am_tys ty) s ∧ (∀ q : Nat, s.heap.size ≤ q → A q) ∧ am_X sc q0 A s s.heap ∧
  am_Rt p l e R s m args below meth c y mc ms Φ D ty A q0 h0 Qf
def am_Wt (p : Program) (l : Launch) (e : Env) (R : Room) (s : State) (m : MethodId) (args : Array Value) (below : List Frame) (meth : Method) (c : Code) (y mc ms : Nat) (D : va_G) (ty : Nat → ClassId) (A : Nat → Prop) (q0 : Nat → Nat) (h0 : am_H) (Qf : State → Prop) (x : am_S) : Prop :=
  ∀ (q : Nat → Nat) (H : Heap) (locs : List Loc) (ls : Array Slot), am_ag q0 q h0.length x.2.2.2.1.length → h0.length ≤ x.2.2.2.1.length → va_P D vwCl (am_rz q ty x.2.2.2.1) H → va_D A (am_rz q ty x.2.2.2.1) → va_S A s.heap H locs → lv_has ls (am_ml y) (am_rl q x.2.1) → x.2.2.2.2.1 ≤ mc → x.2.2.2.2.2 ≤ ms →
  W p l e R s m args below meth c H locs x.2.2.2.2.1 x.2.2.2.2.2 Qf (F0 m x.1 ls (x.2.2.1.map (am_rv q)))
section OPS
variable {p : Program} {l : Launch} {e : Env} {R : Room} {s : State} {m : MethodId} {args : Array Value} {below : List Frame} {meth : Method} {c : Code} {sc : Option (Nat × (Nat → Int32))} {y d mc ms : Nat} {Φ : Option Value → am_H → Prop} {D : va_G} {ty : Nat → ClassId} {A : Nat → Prop} {q0 : Nat → Nat} {h0 : am_H} {Qf : State → Prop}
variable {E : am_E} {P : am_S → Prop} {pc a b k n : Nat} {kf kt : Option (List Nat)} {tg : List (Nat × List Nat)} {lv : am_L} {st : List Value} {h : am_H}
theorem am_o_iconst (C : am_Cx p l e R s m args below meth c sc y d mc ms Φ D ty A q0 h0 Qf) (hP : ∀ x : am_S, P x → am_Wt p l e R s m args below meth c y mc ms D ty A q0 h0 Qf x) {x : Int} {len : Nat} (hd : decode (am_code y) pc = .ok (.iconst x, len)) (hn : len = 1)  (hs : am_ex E sc y mc ms Φ P (.iconst x) a b kf kt tg pc lv st h k n) : am_Wt p l e R s m args below meth c y mc ms D ty A q0 h0 Qf (pc, lv, st, h, k, n) := by
  subst hn
  replace hs : P _ := hs
  intro q H locs ls g1 g2 g3 g4 g5 g6 g7 g8
  exact lv_iconst C.1 C.2.1 hd rfl (hP _ (hs) q H locs ls g1 g2 g3 g4 g5 (am_has_pick _ g6) g7 g8)
theorem am_o_bipush (C : am_Cx p l e R s m args below meth c sc y d mc ms Φ D ty A q0 h0 Qf) (hP : ∀ x : am_S, P x → am_Wt p l e R s m args below meth c y mc ms D ty A q0 h0 Qf x) {x : Int} {len : Nat} (hd : decode (am_code y) pc = .ok (.bipush x, len)) (hn : len = 2)  (hs : am_ex E sc y mc ms Φ P (.bipush x) a b kf kt tg pc lv st h k n) : am_Wt p l e R s m args below meth c y mc ms D ty A q0 h0 Qf (pc, lv, st, h, k, n) := by
  subst hn
  replace hs : P _ := hs
  intro q H locs ls g1 g2 g3 g4 g5 g6 g7 g8
  exact lv_bipush C.1 C.2.1 hd rfl (hP _ (hs) q H locs ls g1 g2 g3 g4 g5 (am_has_pick _ g6) g7 g8)
theorem am_o_sipush (C : am_Cx p l e R s m args below meth c sc y d mc ms Φ D ty A q0 h0 Qf) (hP : ∀ x : am_S, P x → am_Wt p l e R s m args below meth c y mc ms D ty A q0 h0 Qf x) {x : Int} {len : Nat} (hd : decode (am_code y) pc = .ok (.sipush x, len)) (hn : len = 3)  (hs : am_ex E sc y mc ms Φ P (.sipush x) a b kf kt tg pc lv st h k n) : am_Wt p l e R s m args below meth c y mc ms D ty A q0 h0 Qf (pc, lv, st, h, k, n) := by
  subst hn
  replace hs : P _ := hs
  intro q H locs ls g1 g2 g3 g4 g5 g6 g7 g8
  exact lv_sipush C.1 C.2.1 hd rfl (hP _ (hs) q H locs ls g1 g2 g3 g4 g5 (am_has_pick _ g6) g7 g8)
theorem am_o_lconst (C : am_Cx p l e R s m args below meth c sc y d mc ms Φ D ty A q0 h0 Qf) (hP : ∀ x : am_S, P x → am_Wt p l e R s m args below meth c y mc ms D ty A q0 h0 Qf x) {x : Fin 2} {len : Nat} (hd : decode (am_code y) pc = .ok (.lconst x, len)) (hn : len = 1)  (hs : am_ex E sc y mc ms Φ P (.lconst x) a b kf kt tg pc lv st h k n) : am_Wt p l e R s m args below meth c y mc ms D ty A q0 h0 Qf (pc, lv, st, h, k, n) := by
  subst hn
  replace hs : P _ := hs
  intro q H locs ls g1 g2 g3 g4 g5 g6 g7 g8
  exact lv_lconst C.1 C.2.1 hd rfl (hP _ (hs) q H locs ls g1 g2 g3 g4 g5 (am_has_pick _ g6) g7 g8)
theorem am_o_aconst_null (C : am_Cx p l e R s m args below meth c sc y d mc ms Φ D ty A q0 h0 Qf) (hP : ∀ x : am_S, P x → am_Wt p l e R s m args below meth c y mc ms D ty A q0 h0 Qf x)  {len : Nat} (hd : decode (am_code y) pc = .ok (.aconst_null, len)) (hn : len = 1)  (hs : am_ex E sc y mc ms Φ P (.aconst_null) a b kf kt tg pc lv st h k n) : am_Wt p l e R s m args below meth c y mc ms D ty A q0 h0 Qf (pc, lv, st, h, k, n) := by
  subst hn
  replace hs : P _ := hs
  intro q H locs ls g1 g2 g3 g4 g5 g6 g7 g8
  exact lv_null C.1 C.2.1 hd (hP _ (hs) q H locs ls g1 g2 g3 g4 g5 (am_has_pick _ g6) g7 g8)
theorem am_o_iload (C : am_Cx p l e R s m args below meth c sc y d mc ms Φ D ty A q0 h0 Qf) (hP : ∀ x : am_S, P x → am_Wt p l e R s m args below meth c y mc ms D ty A q0 h0 Qf x) {x : Nat} {len : Nat} (hd : decode (am_code y) pc = .ok (.iload x, len)) (hn : len = 2)  (hs : am_ex E sc y mc ms Φ P (.iload x) a b kf kt tg pc lv st h k n) : am_Wt p l e R s m args below meth c y mc ms D ty A q0 h0 Qf (pc, lv, st, h, k, n) := by
  subst hn
  replace hs : am_oi (am_get lv x) _ := hs
  unfold am_oi at hs
  split at hs
  · rename_i v hv
    intro q H locs ls g1 g2 g3 g4 g5 g6 g7 g8
    exact lv_iload C.1 C.2.1 hd (am_has_get g6 hv) (hP _ (hs) q H locs ls g1 g2 g3 g4 g5 (am_has_pick _ g6) g7 g8)
  · exact hs.elim
theorem am_o_iload_n (C : am_Cx p l e R s m args below meth c sc y d mc ms Φ D ty A q0 h0 Qf) (hP : ∀ x : am_S, P x → am_Wt p l e R s m args below meth c y mc ms D ty A q0 h0 Qf x) {x : Fin 4} {len : Nat} (hd : decode (am_code y) pc = .ok (.iload_n x, len)) (hn : len = 1)  (hs : am_ex E sc y mc ms Φ P (.iload_n x) a b kf kt tg pc lv st h k n) : am_Wt p l e R s m args below meth c y mc ms D ty A q0 h0 Qf (pc, lv, st, h, k, n) := by
  subst hn
  replace hs : am_oi (am_get lv (x : Nat)) _ := hs
  unfold am_oi at hs
  split at hs
  · rename_i v hv
    intro q H locs ls g1 g2 g3 g4 g5 g6 g7 g8
    exact lv_iload_n C.1 C.2.1 hd rfl (am_has_get g6 hv) (hP _ (hs) q H locs ls g1 g2 g3 g4 g5 (am_has_pick _ g6) g7 g8)
  · exact hs.elim
theorem am_o_lload (C : am_Cx p l e R s m args below meth c sc y d mc ms Φ D ty A q0 h0 Qf) (hP : ∀ x : am_S, P x → am_Wt p l e R s m args below meth c y mc ms D ty A q0 h0 Qf x) {x : Nat} {len : Nat} (hd : decode (am_code y) pc = .ok (.lload x, len)) (hn : len = 2)  (hs : am_ex E sc y mc ms Φ P (.lload x) a b kf kt tg pc lv st h k n) : am_Wt p l e R s m args below meth c y mc ms D ty A q0 h0 Qf (pc, lv, st, h, k, n) := by
  subst hn
  replace hs : am_ol (am_get lv x) _ := hs
  unfold am_ol at hs
  split at hs
  · rename_i v hv
    intro q H locs ls g1 g2 g3 g4 g5 g6 g7 g8
    exact lv_lload C.1 C.2.1 hd (am_has_get g6 hv) (hP _ (hs) q H locs ls g1 g2 g3 g4 g5 (am_has_pick _ g6) g7 g8)
  · exact hs.elim
theorem am_o_lload_n (C : am_Cx p l e R s m args below meth c sc y d mc ms Φ D ty A q0 h0 Qf) (hP : ∀ x : am_S, P x → am_Wt p l e R s m args below meth c y mc ms D ty A q0 h0 Qf x) {x : Fin 4} {len : Nat} (hd : decode (am_code y) pc = .ok (.lload_n x, len)) (hn : len = 1)  (hs : am_ex E sc y mc ms Φ P (.lload_n x) a b kf kt tg pc lv st h k n) : am_Wt p l e R s m args below meth c y mc ms D ty A q0 h0 Qf (pc, lv, st, h, k, n) := by
  subst hn
  replace hs : am_ol (am_get lv (x : Nat)) _ := hs
  unfold am_ol at hs
  split at hs
  · rename_i v hv
    intro q H locs ls g1 g2 g3 g4 g5 g6 g7 g8
    exact lv_lload_n C.1 C.2.1 hd rfl (am_has_get g6 hv) (hP _ (hs) q H locs ls g1 g2 g3 g4 g5 (am_has_pick _ g6) g7 g8)
  · exact hs.elim
theorem am_o_aload (C : am_Cx p l e R s m args below meth c sc y d mc ms Φ D ty A q0 h0 Qf) (hP : ∀ x : am_S, P x → am_Wt p l e R s m args below meth c y mc ms D ty A q0 h0 Qf x) {x : Nat} {len : Nat} (hd : decode (am_code y) pc = .ok (.aload x, len)) (hn : len = 2)  (hs : am_ex E sc y mc ms Φ P (.aload x) a b kf kt tg pc lv st h k n) : am_Wt p l e R s m args below meth c y mc ms D ty A q0 h0 Qf (pc, lv, st, h, k, n) := by
  subst hn
  replace hs : am_oa (am_get lv x) _ := hs
  unfold am_oa at hs
  split at hs
  · rename_i v hv
    intro q H locs ls g1 g2 g3 g4 g5 g6 g7 g8
    exact lv_aload C.1 C.2.1 hd (am_has_get g6 hv) (hP _ (hs) q H locs ls g1 g2 g3 g4 g5 (am_has_pick _ g6) g7 g8)
  · exact hs.elim
theorem am_o_aload_n (C : am_Cx p l e R s m args below meth c sc y d mc ms Φ D ty A q0 h0 Qf) (hP : ∀ x : am_S, P x → am_Wt p l e R s m args below meth c y mc ms D ty A q0 h0 Qf x) {x : Fin 4} {len : Nat} (hd : decode (am_code y) pc = .ok (.aload_n x, len)) (hn : len = 1)  (hs : am_ex E sc y mc ms Φ P (.aload_n x) a b kf kt tg pc lv st h k n) : am_Wt p l e R s m args below meth c y mc ms D ty A q0 h0 Qf (pc, lv, st, h, k, n) := by
  subst hn
  replace hs : am_oa (am_get lv (x : Nat)) _ := hs
  unfold am_oa at hs
  split at hs
  · rename_i v hv
    intro q H locs ls g1 g2 g3 g4 g5 g6 g7 g8
    exact lv_aload_n C.1 C.2.1 hd rfl (am_has_get g6 hv) (hP _ (hs) q H locs ls g1 g2 g3 g4 g5 (am_has_pick _ g6) g7 g8)
  · exact hs.elim
theorem am_o_istore (C : am_Cx p l e R s m args below meth c sc y d mc ms Φ D ty A q0 h0 Qf) (hP : ∀ x : am_S, P x → am_Wt p l e R s m args below meth c y mc ms D ty A q0 h0 Qf x) {x : Nat} {len : Nat} (hd : decode (am_code y) pc = .ok (.istore x, len)) (hn : len = 2)  (hs : am_ex E sc y mc ms Φ P (.istore x) a b kf kt tg pc lv st h k n) : am_Wt p l e R s m args below meth c y mc ms D ty A q0 h0 Qf (pc, lv, st, h, k, n) := by
  subst hn
  replace hs : am_i1 st _ := hs
  unfold am_i1 at hs
  split at hs
  · rename_i v r
    unfold am_b at hs
    split at hs
    · rename_i hb
      intro q H locs ls g1 g2 g3 g4 g5 g6 g7 g8
      exact lv_istore (i := x) (lv' := am_rl q (am_set1 x (.int v) lv)) C.1 C.2.1 hd g6 (by have := Nat.ble_eq.mp hb; omega) (am_rl_set1 (v := .int v)) (fun ls1 g61 => hP _ hs q H locs ls1 g1 g2 g3 g4 g5 (am_has_pick _ g61) g7 g8)
    · exact hs.elim
  · exact hs.elim
theorem am_o_istore_n (C : am_Cx p l e R s m args below meth c sc y d mc ms Φ D ty A q0 h0 Qf) (hP : ∀ x : am_S, P x → am_Wt p l e R s m args below meth c y mc ms D ty A q0 h0 Qf x) {x : Fin 4} {len : Nat} (hd : decode (am_code y) pc = .ok (.istore_n x, len)) (hn : len = 1)  (hs : am_ex E sc y mc ms Φ P (.istore_n x) a b kf kt tg pc lv st h k n) : am_Wt p l e R s m args below meth c y mc ms D ty A q0 h0 Qf (pc, lv, st, h, k, n) := by
  subst hn
  replace hs : am_i1 st _ := hs
  unfold am_i1 at hs
  split at hs
  · rename_i v r
    unfold am_b at hs
    split at hs
    · rename_i hb
      intro q H locs ls g1 g2 g3 g4 g5 g6 g7 g8
      exact lv_istore_n (i := (x : Nat)) (lv' := am_rl q (am_set1 (x : Nat) (.int v) lv)) C.1 C.2.1 hd rfl g6 (by have := Nat.ble_eq.mp hb; omega) (am_rl_set1 (v := .int v)) (fun ls1 g61 => hP _ hs q H locs ls1 g1 g2 g3 g4 g5 (am_has_pick _ g61) g7 g8)
    · exact hs.elim
  · exact hs.elim
theorem am_o_astore (C : am_Cx p l e R s m args below meth c sc y d mc ms Φ D ty A q0 h0 Qf) (hP : ∀ x : am_S, P x → am_Wt p l e R s m args below meth c y mc ms D ty A q0 h0 Qf x) {x : Nat} {len : Nat} (hd : decode (am_code y) pc = .ok (.astore x, len)) (hn : len = 2)  (hs : am_ex E sc y mc ms Φ P (.astore x) a b kf kt tg pc lv st h k n) : am_Wt p l e R s m args below meth c y mc ms D ty A q0 h0 Qf (pc, lv, st, h, k, n) := by
  subst hn
  replace hs : am_r1 st _ := hs
  unfold am_r1 at hs
  split at hs
  · rename_i v r
    unfold am_b at hs
    split at hs
    · rename_i hb
      intro q H locs ls g1 g2 g3 g4 g5 g6 g7 g8
      exact lv_astore (i := x) (lv' := am_rl q (am_set1 x (.ref v) lv)) C.1 C.2.1 hd g6 (by have := Nat.ble_eq.mp hb; omega) (am_rl_set1 (v := .ref v)) (fun ls1 g61 => hP _ hs q H locs ls1 g1 g2 g3 g4 g5 (am_has_pick _ g61) g7 g8)
    · exact hs.elim
  · exact hs.elim
theorem am_o_astore_n (C : am_Cx p l e R s m args below meth c sc y d mc ms Φ D ty A q0 h0 Qf) (hP : ∀ x : am_S, P x → am_Wt p l e R s m args below meth c y mc ms D ty A q0 h0 Qf x) {x : Fin 4} {len : Nat} (hd : decode (am_code y) pc = .ok (.astore_n x, len)) (hn : len = 1)  (hs : am_ex E sc y mc ms Φ P (.astore_n x) a b kf kt tg pc lv st h k n) : am_Wt p l e R s m args below meth c y mc ms D ty A q0 h0 Qf (pc, lv, st, h, k, n) := by
  subst hn
  replace hs : am_r1 st _ := hs
  unfold am_r1 at hs
  split at hs
  · rename_i v r
    unfold am_b at hs
    split at hs
    · rename_i hb
      intro q H locs ls g1 g2 g3 g4 g5 g6 g7 g8
      exact lv_astore_n (i := (x : Nat)) (lv' := am_rl q (am_set1 (x : Nat) (.ref v) lv)) C.1 C.2.1 hd rfl g6 (by have := Nat.ble_eq.mp hb; omega) (am_rl_set1 (v := .ref v)) (fun ls1 g61 => hP _ hs q H locs ls1 g1 g2 g3 g4 g5 (am_has_pick _ g61) g7 g8)
    · exact hs.elim
  · exact hs.elim
theorem am_o_lstore (C : am_Cx p l e R s m args below meth c sc y d mc ms Φ D ty A q0 h0 Qf) (hP : ∀ x : am_S, P x → am_Wt p l e R s m args below meth c y mc ms D ty A q0 h0 Qf x) {x : Nat} {len : Nat} (hd : decode (am_code y) pc = .ok (.lstore x, len)) (hn : len = 2)  (hs : am_ex E sc y mc ms Φ P (.lstore x) a b kf kt tg pc lv st h k n) : am_Wt p l e R s m args below meth c y mc ms D ty A q0 h0 Qf (pc, lv, st, h, k, n) := by
  subst hn
  replace hs : am_l1 st _ := hs
  unfold am_l1 at hs
  split at hs
  · rename_i v r
    unfold am_b at hs
    split at hs
    · rename_i hb
      intro q H locs ls g1 g2 g3 g4 g5 g6 g7 g8
      exact lv_lstore (i := x) (lv' := am_rl q (am_set2 x (.long v) lv)) C.1 C.2.1 hd g6 (by have := Nat.ble_eq.mp hb; omega) (am_rl_set2 (v := .long v)) (fun ls1 g61 => hP _ hs q H locs ls1 g1 g2 g3 g4 g5 (am_has_pick _ g61) g7 g8)
    · exact hs.elim
  · exact hs.elim
theorem am_o_lstore_n (C : am_Cx p l e R s m args below meth c sc y d mc ms Φ D ty A q0 h0 Qf) (hP : ∀ x : am_S, P x → am_Wt p l e R s m args below meth c y mc ms D ty A q0 h0 Qf x) {x : Fin 4} {len : Nat} (hd : decode (am_code y) pc = .ok (.lstore_n x, len)) (hn : len = 1)  (hs : am_ex E sc y mc ms Φ P (.lstore_n x) a b kf kt tg pc lv st h k n) : am_Wt p l e R s m args below meth c y mc ms D ty A q0 h0 Qf (pc, lv, st, h, k, n) := by
  subst hn
  replace hs : am_l1 st _ := hs
  unfold am_l1 at hs
  split at hs
  · rename_i v r
    unfold am_b at hs
    split at hs
    · rename_i hb
      intro q H locs ls g1 g2 g3 g4 g5 g6 g7 g8
      exact lv_lstore_n (i := (x : Nat)) (lv' := am_rl q (am_set2 (x : Nat) (.long v) lv)) C.1 C.2.1 hd rfl g6 (by have := Nat.ble_eq.mp hb; omega) (am_rl_set2 (v := .long v)) (fun ls1 g61 => hP _ hs q H locs ls1 g1 g2 g3 g4 g5 (am_has_pick _ g61) g7 g8)
    · exact hs.elim
  · exact hs.elim
theorem am_o_iinc (C : am_Cx p l e R s m args below meth c sc y d mc ms Φ D ty A q0 h0 Qf) (hP : ∀ x : am_S, P x → am_Wt p l e R s m args below meth c y mc ms D ty A q0 h0 Qf x) {x : Nat} {z : Int} {len : Nat} (hd : decode (am_code y) pc = .ok (.iinc x z, len)) (hn : len = 3)  (hs : am_ex E sc y mc ms Φ P (.iinc x z) a b kf kt tg pc lv st h k n) : am_Wt p l e R s m args below meth c y mc ms D ty A q0 h0 Qf (pc, lv, st, h, k, n) := by
  subst hn
  replace hs : am_oi (am_get lv x) _ := hs
  unfold am_oi at hs
  split at hs
  · rename_i v hv
    unfold am_b at hs
    split at hs
    · rename_i hb
      intro q H locs ls g1 g2 g3 g4 g5 g6 g7 g8
      obtain ⟨k9, hk9⟩ := am_has_place (q := q) hv
      exact lv_iinc (lv' := am_rl q (am_set1 x (.int (v + Int32.ofInt z)) lv)) C.1 C.2.1 hd g6 hk9 rfl (by have := Nat.ble_eq.mp hb; omega) (am_rl_set1 (v := .int (v + Int32.ofInt z))) (fun ls1 g61 => hP _ hs q H locs ls1 g1 g2 g3 g4 g5 (am_has_pick _ g61) g7 g8)
    · exact hs.elim
  · exact hs.elim
theorem am_o_iadd (C : am_Cx p l e R s m args below meth c sc y d mc ms Φ D ty A q0 h0 Qf) (hP : ∀ x : am_S, P x → am_Wt p l e R s m args below meth c y mc ms D ty A q0 h0 Qf x)  {len : Nat} (hd : decode (am_code y) pc = .ok (.iadd, len)) (hn : len = 1)  (hs : am_ex E sc y mc ms Φ P (.iadd) a b kf kt tg pc lv st h k n) : am_Wt p l e R s m args below meth c y mc ms D ty A q0 h0 Qf (pc, lv, st, h, k, n) := by
  subst hn
  replace hs : am_i2 st _ := hs
  unfold am_i2 at hs
  split at hs
  · intro q H locs ls g1 g2 g3 g4 g5 g6 g7 g8
    exact lv_iadd C.1 C.2.1 hd (hP _ (hs) q H locs ls g1 g2 g3 g4 g5 (am_has_pick _ g6) g7 g8)
  · exact hs.elim
theorem am_o_isub (C : am_Cx p l e R s m args below meth c sc y d mc ms Φ D ty A q0 h0 Qf) (hP : ∀ x : am_S, P x → am_Wt p l e R s m args below meth c y mc ms D ty A q0 h0 Qf x)  {len : Nat} (hd : decode (am_code y) pc = .ok (.isub, len)) (hn : len = 1)  (hs : am_ex E sc y mc ms Φ P (.isub) a b kf kt tg pc lv st h k n) : am_Wt p l e R s m args below meth c y mc ms D ty A q0 h0 Qf (pc, lv, st, h, k, n) := by
  subst hn
  replace hs : am_i2 st _ := hs
  unfold am_i2 at hs
  split at hs
  · intro q H locs ls g1 g2 g3 g4 g5 g6 g7 g8
    exact lv_isub C.1 C.2.1 hd (hP _ (hs) q H locs ls g1 g2 g3 g4 g5 (am_has_pick _ g6) g7 g8)
  · exact hs.elim
theorem am_o_imul (C : am_Cx p l e R s m args below meth c sc y d mc ms Φ D ty A q0 h0 Qf) (hP : ∀ x : am_S, P x → am_Wt p l e R s m args below meth c y mc ms D ty A q0 h0 Qf x)  {len : Nat} (hd : decode (am_code y) pc = .ok (.imul, len)) (hn : len = 1)  (hs : am_ex E sc y mc ms Φ P (.imul) a b kf kt tg pc lv st h k n) : am_Wt p l e R s m args below meth c y mc ms D ty A q0 h0 Qf (pc, lv, st, h, k, n) := by
  subst hn
  replace hs : am_i2 st _ := hs
  unfold am_i2 at hs
  split at hs
  · intro q H locs ls g1 g2 g3 g4 g5 g6 g7 g8
    exact lv_imul C.1 C.2.1 hd (hP _ (hs) q H locs ls g1 g2 g3 g4 g5 (am_has_pick _ g6) g7 g8)
  · exact hs.elim
theorem am_o_iand (C : am_Cx p l e R s m args below meth c sc y d mc ms Φ D ty A q0 h0 Qf) (hP : ∀ x : am_S, P x → am_Wt p l e R s m args below meth c y mc ms D ty A q0 h0 Qf x)  {len : Nat} (hd : decode (am_code y) pc = .ok (.iand, len)) (hn : len = 1)  (hs : am_ex E sc y mc ms Φ P (.iand) a b kf kt tg pc lv st h k n) : am_Wt p l e R s m args below meth c y mc ms D ty A q0 h0 Qf (pc, lv, st, h, k, n) := by
  subst hn
  replace hs : am_i2 st _ := hs
  unfold am_i2 at hs
  split at hs
  · intro q H locs ls g1 g2 g3 g4 g5 g6 g7 g8
    exact lv_iand C.1 C.2.1 hd (hP _ (hs) q H locs ls g1 g2 g3 g4 g5 (am_has_pick _ g6) g7 g8)
  · exact hs.elim
theorem am_o_ior (C : am_Cx p l e R s m args below meth c sc y d mc ms Φ D ty A q0 h0 Qf) (hP : ∀ x : am_S, P x → am_Wt p l e R s m args below meth c y mc ms D ty A q0 h0 Qf x)  {len : Nat} (hd : decode (am_code y) pc = .ok (.ior, len)) (hn : len = 1)  (hs : am_ex E sc y mc ms Φ P (.ior) a b kf kt tg pc lv st h k n) : am_Wt p l e R s m args below meth c y mc ms D ty A q0 h0 Qf (pc, lv, st, h, k, n) := by
  subst hn
  replace hs : am_i2 st _ := hs
  unfold am_i2 at hs
  split at hs
  · intro q H locs ls g1 g2 g3 g4 g5 g6 g7 g8
    exact lv_ior C.1 C.2.1 hd (hP _ (hs) q H locs ls g1 g2 g3 g4 g5 (am_has_pick _ g6) g7 g8)
  · exact hs.elim
theorem am_o_ixor (C : am_Cx p l e R s m args below meth c sc y d mc ms Φ D ty A q0 h0 Qf) (hP : ∀ x : am_S, P x → am_Wt p l e R s m args below meth c y mc ms D ty A q0 h0 Qf x)  {len : Nat} (hd : decode (am_code y) pc = .ok (.ixor, len)) (hn : len = 1)  (hs : am_ex E sc y mc ms Φ P (.ixor) a b kf kt tg pc lv st h k n) : am_Wt p l e R s m args below meth c y mc ms D ty A q0 h0 Qf (pc, lv, st, h, k, n) := by
  subst hn
  replace hs : am_i2 st _ := hs
  unfold am_i2 at hs
  split at hs
  · intro q H locs ls g1 g2 g3 g4 g5 g6 g7 g8
    exact lv_ixor C.1 C.2.1 hd (hP _ (hs) q H locs ls g1 g2 g3 g4 g5 (am_has_pick _ g6) g7 g8)
  · exact hs.elim
theorem am_o_ishl (C : am_Cx p l e R s m args below meth c sc y d mc ms Φ D ty A q0 h0 Qf) (hP : ∀ x : am_S, P x → am_Wt p l e R s m args below meth c y mc ms D ty A q0 h0 Qf x)  {len : Nat} (hd : decode (am_code y) pc = .ok (.ishl, len)) (hn : len = 1)  (hs : am_ex E sc y mc ms Φ P (.ishl) a b kf kt tg pc lv st h k n) : am_Wt p l e R s m args below meth c y mc ms D ty A q0 h0 Qf (pc, lv, st, h, k, n) := by
  subst hn
  replace hs : am_i2 st _ := hs
  unfold am_i2 at hs
  split at hs
  · intro q H locs ls g1 g2 g3 g4 g5 g6 g7 g8
    exact lv_ishl C.1 C.2.1 hd (hP _ (hs) q H locs ls g1 g2 g3 g4 g5 (am_has_pick _ g6) g7 g8)
  · exact hs.elim
theorem am_o_ishr (C : am_Cx p l e R s m args below meth c sc y d mc ms Φ D ty A q0 h0 Qf) (hP : ∀ x : am_S, P x → am_Wt p l e R s m args below meth c y mc ms D ty A q0 h0 Qf x)  {len : Nat} (hd : decode (am_code y) pc = .ok (.ishr, len)) (hn : len = 1)  (hs : am_ex E sc y mc ms Φ P (.ishr) a b kf kt tg pc lv st h k n) : am_Wt p l e R s m args below meth c y mc ms D ty A q0 h0 Qf (pc, lv, st, h, k, n) := by
  subst hn
  replace hs : am_i2 st _ := hs
  unfold am_i2 at hs
  split at hs
  · intro q H locs ls g1 g2 g3 g4 g5 g6 g7 g8
    exact lv_ishr C.1 C.2.1 hd (hP _ (hs) q H locs ls g1 g2 g3 g4 g5 (am_has_pick _ g6) g7 g8)
  · exact hs.elim
theorem am_o_iushr (C : am_Cx p l e R s m args below meth c sc y d mc ms Φ D ty A q0 h0 Qf) (hP : ∀ x : am_S, P x → am_Wt p l e R s m args below meth c y mc ms D ty A q0 h0 Qf x)  {len : Nat} (hd : decode (am_code y) pc = .ok (.iushr, len)) (hn : len = 1)  (hs : am_ex E sc y mc ms Φ P (.iushr) a b kf kt tg pc lv st h k n) : am_Wt p l e R s m args below meth c y mc ms D ty A q0 h0 Qf (pc, lv, st, h, k, n) := by
  subst hn
  replace hs : am_i2 st _ := hs
  unfold am_i2 at hs
  split at hs
  · intro q H locs ls g1 g2 g3 g4 g5 g6 g7 g8
    exact lv_iushr C.1 C.2.1 hd rfl (hP _ (hs) q H locs ls g1 g2 g3 g4 g5 (am_has_pick _ g6) g7 g8)
  · exact hs.elim
theorem am_o_ladd (C : am_Cx p l e R s m args below meth c sc y d mc ms Φ D ty A q0 h0 Qf) (hP : ∀ x : am_S, P x → am_Wt p l e R s m args below meth c y mc ms D ty A q0 h0 Qf x)  {len : Nat} (hd : decode (am_code y) pc = .ok (.ladd, len)) (hn : len = 1)  (hs : am_ex E sc y mc ms Φ P (.ladd) a b kf kt tg pc lv st h k n) : am_Wt p l e R s m args below meth c y mc ms D ty A q0 h0 Qf (pc, lv, st, h, k, n) := by
  subst hn
  replace hs : am_l2 st _ := hs
  unfold am_l2 at hs
  split at hs
  · intro q H locs ls g1 g2 g3 g4 g5 g6 g7 g8
    exact lv_ladd C.1 C.2.1 hd (hP _ (hs) q H locs ls g1 g2 g3 g4 g5 (am_has_pick _ g6) g7 g8)
  · exact hs.elim
theorem am_o_lsub (C : am_Cx p l e R s m args below meth c sc y d mc ms Φ D ty A q0 h0 Qf) (hP : ∀ x : am_S, P x → am_Wt p l e R s m args below meth c y mc ms D ty A q0 h0 Qf x)  {len : Nat} (hd : decode (am_code y) pc = .ok (.lsub, len)) (hn : len = 1)  (hs : am_ex E sc y mc ms Φ P (.lsub) a b kf kt tg pc lv st h k n) : am_Wt p l e R s m args below meth c y mc ms D ty A q0 h0 Qf (pc, lv, st, h, k, n) := by
  subst hn
  replace hs : am_l2 st _ := hs
  unfold am_l2 at hs
  split at hs
  · intro q H locs ls g1 g2 g3 g4 g5 g6 g7 g8
    exact lv_lsub C.1 C.2.1 hd (hP _ (hs) q H locs ls g1 g2 g3 g4 g5 (am_has_pick _ g6) g7 g8)
  · exact hs.elim
theorem am_o_lmul (C : am_Cx p l e R s m args below meth c sc y d mc ms Φ D ty A q0 h0 Qf) (hP : ∀ x : am_S, P x → am_Wt p l e R s m args below meth c y mc ms D ty A q0 h0 Qf x)  {len : Nat} (hd : decode (am_code y) pc = .ok (.lmul, len)) (hn : len = 1)  (hs : am_ex E sc y mc ms Φ P (.lmul) a b kf kt tg pc lv st h k n) : am_Wt p l e R s m args below meth c y mc ms D ty A q0 h0 Qf (pc, lv, st, h, k, n) := by
  subst hn
  replace hs : am_l2 st _ := hs
  unfold am_l2 at hs
  split at hs
  · intro q H locs ls g1 g2 g3 g4 g5 g6 g7 g8
    exact lv_lmul C.1 C.2.1 hd (hP _ (hs) q H locs ls g1 g2 g3 g4 g5 (am_has_pick _ g6) g7 g8)
  · exact hs.elim
theorem am_o_land (C : am_Cx p l e R s m args below meth c sc y d mc ms Φ D ty A q0 h0 Qf) (hP : ∀ x : am_S, P x → am_Wt p l e R s m args below meth c y mc ms D ty A q0 h0 Qf x)  {len : Nat} (hd : decode (am_code y) pc = .ok (.land, len)) (hn : len = 1)  (hs : am_ex E sc y mc ms Φ P (.land) a b kf kt tg pc lv st h k n) : am_Wt p l e R s m args below meth c y mc ms D ty A q0 h0 Qf (pc, lv, st, h, k, n) := by
  subst hn
  replace hs : am_l2 st _ := hs
  unfold am_l2 at hs
  split at hs
  · intro q H locs ls g1 g2 g3 g4 g5 g6 g7 g8
    exact lv_land C.1 C.2.1 hd (hP _ (hs) q H locs ls g1 g2 g3 g4 g5 (am_has_pick _ g6) g7 g8)
  · exact hs.elim
theorem am_o_lor (C : am_Cx p l e R s m args below meth c sc y d mc ms Φ D ty A q0 h0 Qf) (hP : ∀ x : am_S, P x → am_Wt p l e R s m args below meth c y mc ms D ty A q0 h0 Qf x)  {len : Nat} (hd : decode (am_code y) pc = .ok (.lor, len)) (hn : len = 1)  (hs : am_ex E sc y mc ms Φ P (.lor) a b kf kt tg pc lv st h k n) : am_Wt p l e R s m args below meth c y mc ms D ty A q0 h0 Qf (pc, lv, st, h, k, n) := by
  subst hn
  replace hs : am_l2 st _ := hs
  unfold am_l2 at hs
  split at hs
  · intro q H locs ls g1 g2 g3 g4 g5 g6 g7 g8
    exact lv_lor C.1 C.2.1 hd (hP _ (hs) q H locs ls g1 g2 g3 g4 g5 (am_has_pick _ g6) g7 g8)
  · exact hs.elim
theorem am_o_lxor (C : am_Cx p l e R s m args below meth c sc y d mc ms Φ D ty A q0 h0 Qf) (hP : ∀ x : am_S, P x → am_Wt p l e R s m args below meth c y mc ms D ty A q0 h0 Qf x)  {len : Nat} (hd : decode (am_code y) pc = .ok (.lxor, len)) (hn : len = 1)  (hs : am_ex E sc y mc ms Φ P (.lxor) a b kf kt tg pc lv st h k n) : am_Wt p l e R s m args below meth c y mc ms D ty A q0 h0 Qf (pc, lv, st, h, k, n) := by
  subst hn
  replace hs : am_l2 st _ := hs
  unfold am_l2 at hs
  split at hs
  · intro q H locs ls g1 g2 g3 g4 g5 g6 g7 g8
    exact lv_lxor C.1 C.2.1 hd (hP _ (hs) q H locs ls g1 g2 g3 g4 g5 (am_has_pick _ g6) g7 g8)
  · exact hs.elim
theorem am_o_lshl (C : am_Cx p l e R s m args below meth c sc y d mc ms Φ D ty A q0 h0 Qf) (hP : ∀ x : am_S, P x → am_Wt p l e R s m args below meth c y mc ms D ty A q0 h0 Qf x)  {len : Nat} (hd : decode (am_code y) pc = .ok (.lshl, len)) (hn : len = 1)  (hs : am_ex E sc y mc ms Φ P (.lshl) a b kf kt tg pc lv st h k n) : am_Wt p l e R s m args below meth c y mc ms D ty A q0 h0 Qf (pc, lv, st, h, k, n) := by
  subst hn
  replace hs : am_i1 st _ := hs
  unfold am_i1 at hs
  split at hs
  · unfold am_l1 at hs
    split at hs
    · intro q H locs ls g1 g2 g3 g4 g5 g6 g7 g8
      exact lv_lshl C.1 C.2.1 hd rfl (hP _ (hs) q H locs ls g1 g2 g3 g4 g5 (am_has_pick _ g6) g7 g8)
    · exact hs.elim
  · exact hs.elim
theorem am_o_lshr (C : am_Cx p l e R s m args below meth c sc y d mc ms Φ D ty A q0 h0 Qf) (hP : ∀ x : am_S, P x → am_Wt p l e R s m args below meth c y mc ms D ty A q0 h0 Qf x)  {len : Nat} (hd : decode (am_code y) pc = .ok (.lshr, len)) (hn : len = 1)  (hs : am_ex E sc y mc ms Φ P (.lshr) a b kf kt tg pc lv st h k n) : am_Wt p l e R s m args below meth c y mc ms D ty A q0 h0 Qf (pc, lv, st, h, k, n) := by
  subst hn
  replace hs : am_i1 st _ := hs
  unfold am_i1 at hs
  split at hs
  · unfold am_l1 at hs
    split at hs
    · intro q H locs ls g1 g2 g3 g4 g5 g6 g7 g8
      exact lv_lshr C.1 C.2.1 hd rfl (hP _ (hs) q H locs ls g1 g2 g3 g4 g5 (am_has_pick _ g6) g7 g8)
    · exact hs.elim
  · exact hs.elim
theorem am_o_lushr (C : am_Cx p l e R s m args below meth c sc y d mc ms Φ D ty A q0 h0 Qf) (hP : ∀ x : am_S, P x → am_Wt p l e R s m args below meth c y mc ms D ty A q0 h0 Qf x)  {len : Nat} (hd : decode (am_code y) pc = .ok (.lushr, len)) (hn : len = 1)  (hs : am_ex E sc y mc ms Φ P (.lushr) a b kf kt tg pc lv st h k n) : am_Wt p l e R s m args below meth c y mc ms D ty A q0 h0 Qf (pc, lv, st, h, k, n) := by
  subst hn
  replace hs : am_i1 st _ := hs
  unfold am_i1 at hs
  split at hs
  · unfold am_l1 at hs
    split at hs
    · intro q H locs ls g1 g2 g3 g4 g5 g6 g7 g8
      exact lv_lushr C.1 C.2.1 hd rfl (hP _ (hs) q H locs ls g1 g2 g3 g4 g5 (am_has_pick _ g6) g7 g8)
    · exact hs.elim
  · exact hs.elim
theorem am_o_lcmp (C : am_Cx p l e R s m args below meth c sc y d mc ms Φ D ty A q0 h0 Qf) (hP : ∀ x : am_S, P x → am_Wt p l e R s m args below meth c y mc ms D ty A q0 h0 Qf x)  {len : Nat} (hd : decode (am_code y) pc = .ok (.lcmp, len)) (hn : len = 1)  (hs : am_ex E sc y mc ms Φ P (.lcmp) a b kf kt tg pc lv st h k n) : am_Wt p l e R s m args below meth c y mc ms D ty A q0 h0 Qf (pc, lv, st, h, k, n) := by
  subst hn
  replace hs : am_l2 st _ := hs
  unfold am_l2 at hs
  split at hs
  · intro q H locs ls g1 g2 g3 g4 g5 g6 g7 g8
    exact W.lcmp C.1 C.2.1 hd (hP _ (hs) q H locs ls g1 g2 g3 g4 g5 (am_has_pick _ g6) g7 g8)
  · exact hs.elim
theorem am_o_idiv (C : am_Cx p l e R s m args below meth c sc y d mc ms Φ D ty A q0 h0 Qf) (hP : ∀ x : am_S, P x → am_Wt p l e R s m args below meth c y mc ms D ty A q0 h0 Qf x)  {len : Nat} (hd : decode (am_code y) pc = .ok (.idiv, len)) (hn : len = 1)  (hs : am_ex E sc y mc ms Φ P (.idiv) a b kf kt tg pc lv st h k n) : am_Wt p l e R s m args below meth c y mc ms D ty A q0 h0 Qf (pc, lv, st, h, k, n) := by
  subst hn
  replace hs : am_i2 st _ := hs
  unfold am_i2 at hs
  split at hs
  · intro q H locs ls g1 g2 g3 g4 g5 g6 g7 g8
    exact lv_idiv C.1 C.2.1 hd hs.1 (hP _ (hs.2) q H locs ls g1 g2 g3 g4 g5 (am_has_pick _ g6) g7 g8)
  · exact hs.elim
theorem am_o_irem (C : am_Cx p l e R s m args below meth c sc y d mc ms Φ D ty A q0 h0 Qf) (hP : ∀ x : am_S, P x → am_Wt p l e R s m args below meth c y mc ms D ty A q0 h0 Qf x)  {len : Nat} (hd : decode (am_code y) pc = .ok (.irem, len)) (hn : len = 1)  (hs : am_ex E sc y mc ms Φ P (.irem) a b kf kt tg pc lv st h k n) : am_Wt p l e R s m args below meth c y mc ms D ty A q0 h0 Qf (pc, lv, st, h, k, n) := by
  subst hn
  replace hs : am_i2 st _ := hs
  unfold am_i2 at hs
  split at hs
  · intro q H locs ls g1 g2 g3 g4 g5 g6 g7 g8
    exact lv_irem C.1 C.2.1 hd hs.1 (hP _ (hs.2) q H locs ls g1 g2 g3 g4 g5 (am_has_pick _ g6) g7 g8)
  · exact hs.elim
theorem am_o_ldiv (C : am_Cx p l e R s m args below meth c sc y d mc ms Φ D ty A q0 h0 Qf) (hP : ∀ x : am_S, P x → am_Wt p l e R s m args below meth c y mc ms D ty A q0 h0 Qf x)  {len : Nat} (hd : decode (am_code y) pc = .ok (.ldiv, len)) (hn : len = 1)  (hs : am_ex E sc y mc ms Φ P (.ldiv) a b kf kt tg pc lv st h k n) : am_Wt p l e R s m args below meth c y mc ms D ty A q0 h0 Qf (pc, lv, st, h, k, n) := by
  subst hn
  replace hs : am_l2 st _ := hs
  unfold am_l2 at hs
  split at hs
  · intro q H locs ls g1 g2 g3 g4 g5 g6 g7 g8
    exact lv_ldiv C.1 C.2.1 hd hs.1 (hP _ (hs.2) q H locs ls g1 g2 g3 g4 g5 (am_has_pick _ g6) g7 g8)
  · exact hs.elim
theorem am_o_lrem (C : am_Cx p l e R s m args below meth c sc y d mc ms Φ D ty A q0 h0 Qf) (hP : ∀ x : am_S, P x → am_Wt p l e R s m args below meth c y mc ms D ty A q0 h0 Qf x)  {len : Nat} (hd : decode (am_code y) pc = .ok (.lrem, len)) (hn : len = 1)  (hs : am_ex E sc y mc ms Φ P (.lrem) a b kf kt tg pc lv st h k n) : am_Wt p l e R s m args below meth c y mc ms D ty A q0 h0 Qf (pc, lv, st, h, k, n) := by
  subst hn
  replace hs : am_l2 st _ := hs
  unfold am_l2 at hs
  split at hs
  · intro q H locs ls g1 g2 g3 g4 g5 g6 g7 g8
    exact lv_lrem C.1 C.2.1 hd hs.1 (hP _ (hs.2) q H locs ls g1 g2 g3 g4 g5 (am_has_pick _ g6) g7 g8)
  · exact hs.elim
theorem am_o_ineg (C : am_Cx p l e R s m args below meth c sc y d mc ms Φ D ty A q0 h0 Qf) (hP : ∀ x : am_S, P x → am_Wt p l e R s m args below meth c y mc ms D ty A q0 h0 Qf x)  {len : Nat} (hd : decode (am_code y) pc = .ok (.ineg, len)) (hn : len = 1)  (hs : am_ex E sc y mc ms Φ P (.ineg) a b kf kt tg pc lv st h k n) : am_Wt p l e R s m args below meth c y mc ms D ty A q0 h0 Qf (pc, lv, st, h, k, n) := by
  subst hn
  replace hs : am_i1 st _ := hs
  unfold am_i1 at hs
  split at hs
  · intro q H locs ls g1 g2 g3 g4 g5 g6 g7 g8
    exact lv_ineg C.1 C.2.1 hd (hP _ (hs) q H locs ls g1 g2 g3 g4 g5 (am_has_pick _ g6) g7 g8)
  · exact hs.elim
theorem am_o_i2l (C : am_Cx p l e R s m args below meth c sc y d mc ms Φ D ty A q0 h0 Qf) (hP : ∀ x : am_S, P x → am_Wt p l e R s m args below meth c y mc ms D ty A q0 h0 Qf x)  {len : Nat} (hd : decode (am_code y) pc = .ok (.i2l, len)) (hn : len = 1)  (hs : am_ex E sc y mc ms Φ P (.i2l) a b kf kt tg pc lv st h k n) : am_Wt p l e R s m args below meth c y mc ms D ty A q0 h0 Qf (pc, lv, st, h, k, n) := by
  subst hn
  replace hs : am_i1 st _ := hs
  unfold am_i1 at hs
  split at hs
  · intro q H locs ls g1 g2 g3 g4 g5 g6 g7 g8
    exact lv_i2l C.1 C.2.1 hd rfl (hP _ (hs) q H locs ls g1 g2 g3 g4 g5 (am_has_pick _ g6) g7 g8)
  · exact hs.elim
theorem am_o_l2i (C : am_Cx p l e R s m args below meth c sc y d mc ms Φ D ty A q0 h0 Qf) (hP : ∀ x : am_S, P x → am_Wt p l e R s m args below meth c y mc ms D ty A q0 h0 Qf x)  {len : Nat} (hd : decode (am_code y) pc = .ok (.l2i, len)) (hn : len = 1)  (hs : am_ex E sc y mc ms Φ P (.l2i) a b kf kt tg pc lv st h k n) : am_Wt p l e R s m args below meth c y mc ms D ty A q0 h0 Qf (pc, lv, st, h, k, n) := by
  subst hn
  replace hs : am_l1 st _ := hs
  unfold am_l1 at hs
  split at hs
  · intro q H locs ls g1 g2 g3 g4 g5 g6 g7 g8
    exact lv_l2i C.1 C.2.1 hd rfl (hP _ (hs) q H locs ls g1 g2 g3 g4 g5 (am_has_pick _ g6) g7 g8)
  · exact hs.elim
theorem am_o_i2b (C : am_Cx p l e R s m args below meth c sc y d mc ms Φ D ty A q0 h0 Qf) (hP : ∀ x : am_S, P x → am_Wt p l e R s m args below meth c y mc ms D ty A q0 h0 Qf x)  {len : Nat} (hd : decode (am_code y) pc = .ok (.i2b, len)) (hn : len = 1)  (hs : am_ex E sc y mc ms Φ P (.i2b) a b kf kt tg pc lv st h k n) : am_Wt p l e R s m args below meth c y mc ms D ty A q0 h0 Qf (pc, lv, st, h, k, n) := by
  subst hn
  replace hs : am_i1 st _ := hs
  unfold am_i1 at hs
  split at hs
  · intro q H locs ls g1 g2 g3 g4 g5 g6 g7 g8
    exact lv_i2b C.1 C.2.1 hd rfl (hP _ (hs) q H locs ls g1 g2 g3 g4 g5 (am_has_pick _ g6) g7 g8)
  · exact hs.elim
theorem am_o_i2s (C : am_Cx p l e R s m args below meth c sc y d mc ms Φ D ty A q0 h0 Qf) (hP : ∀ x : am_S, P x → am_Wt p l e R s m args below meth c y mc ms D ty A q0 h0 Qf x)  {len : Nat} (hd : decode (am_code y) pc = .ok (.i2s, len)) (hn : len = 1)  (hs : am_ex E sc y mc ms Φ P (.i2s) a b kf kt tg pc lv st h k n) : am_Wt p l e R s m args below meth c y mc ms D ty A q0 h0 Qf (pc, lv, st, h, k, n) := by
  subst hn
  replace hs : am_i1 st _ := hs
  unfold am_i1 at hs
  split at hs
  · intro q H locs ls g1 g2 g3 g4 g5 g6 g7 g8
    exact lv_i2s C.1 C.2.1 hd rfl (hP _ (hs) q H locs ls g1 g2 g3 g4 g5 (am_has_pick _ g6) g7 g8)
  · exact hs.elim
theorem am_o_i2c (C : am_Cx p l e R s m args below meth c sc y d mc ms Φ D ty A q0 h0 Qf) (hP : ∀ x : am_S, P x → am_Wt p l e R s m args below meth c y mc ms D ty A q0 h0 Qf x)  {len : Nat} (hd : decode (am_code y) pc = .ok (.i2c, len)) (hn : len = 1)  (hs : am_ex E sc y mc ms Φ P (.i2c) a b kf kt tg pc lv st h k n) : am_Wt p l e R s m args below meth c y mc ms D ty A q0 h0 Qf (pc, lv, st, h, k, n) := by
  subst hn
  replace hs : am_i1 st _ := hs
  unfold am_i1 at hs
  split at hs
  · intro q H locs ls g1 g2 g3 g4 g5 g6 g7 g8
    exact lv_i2c C.1 C.2.1 hd rfl (hP _ (hs) q H locs ls g1 g2 g3 g4 g5 (am_has_pick _ g6) g7 g8)
  · exact hs.elim
theorem am_o_dup (C : am_Cx p l e R s m args below meth c sc y d mc ms Φ D ty A q0 h0 Qf) (hP : ∀ x : am_S, P x → am_Wt p l e R s m args below meth c y mc ms D ty A q0 h0 Qf x)  {len : Nat} (hd : decode (am_code y) pc = .ok (.dup, len)) (hn : len = 1)  (hs : am_ex E sc y mc ms Φ P (.dup) a b kf kt tg pc lv st h k n) : am_Wt p l e R s m args below meth c y mc ms D ty A q0 h0 Qf (pc, lv, st, h, k, n) := by
  subst hn
  replace hs : am_b _ (am_ov st.head? _) := hs
  unfold am_b at hs
  split at hs
  · rename_i hb
    unfold am_ov at hs
    split at hs
    · rename_i v hv
      obtain ⟨r, rfl⟩ : ∃ r, st = v :: r := by
        cases st with
        | nil => cases hv
        | cons w r => cases hv; exact ⟨r, rfl⟩
      intro q H locs ls g1 g2 g3 g4 g5 g6 g7 g8
      exact lv_dup C.1 C.2.1 hd (by rw [am_rv_cat]; exact Nat.eq_of_beq_eq_true hb) (hP _ (hs) q H locs ls g1 g2 g3 g4 g5 (am_has_pick _ g6) g7 g8)
    · exact hs.elim
  · exact hs.elim
theorem am_o_dup2 (C : am_Cx p l e R s m args below meth c sc y d mc ms Φ D ty A q0 h0 Qf) (hP : ∀ x : am_S, P x → am_Wt p l e R s m args below meth c y mc ms D ty A q0 h0 Qf x)  {len : Nat} (hd : decode (am_code y) pc = .ok (.dup2, len)) (hn : len = 1)  (hs : am_ex E sc y mc ms Φ P (.dup2) a b kf kt tg pc lv st h k n) : am_Wt p l e R s m args below meth c y mc ms D ty A q0 h0 Qf (pc, lv, st, h, k, n) := by
  subst hn
  replace hs : am_ov st.head? _ := hs
  cases st with
  | nil => exact hs.elim
  | cons v r0 => cases r0 with
    | nil => exact hs.elim
    | cons w r =>
      replace hs : am_b (Nat.beq v.category 1 && Nat.beq w.category 1) _ := hs
      unfold am_b at hs
      split at hs
      · rename_i hb
        simp only [Bool.and_eq_true] at hb
        intro q H locs ls g1 g2 g3 g4 g5 g6 g7 g8
        exact lv_dup2_11 C.1 C.2.1 hd (by rw [am_rv_cat]; exact Nat.eq_of_beq_eq_true hb.1) (by rw [am_rv_cat]; exact Nat.eq_of_beq_eq_true hb.2) (hP _ (hs) q H locs ls g1 g2 g3 g4 g5 (am_has_pick _ g6) g7 g8)
      · exact hs.elim
theorem am_o_pop (C : am_Cx p l e R s m args below meth c sc y d mc ms Φ D ty A q0 h0 Qf) (hP : ∀ x : am_S, P x → am_Wt p l e R s m args below meth c y mc ms D ty A q0 h0 Qf x)  {len : Nat} (hd : decode (am_code y) pc = .ok (.pop, len)) (hn : len = 1)  (hs : am_ex E sc y mc ms Φ P (.pop) a b kf kt tg pc lv st h k n) : am_Wt p l e R s m args below meth c y mc ms D ty A q0 h0 Qf (pc, lv, st, h, k, n) := by
  subst hn
  cases st with
  | nil => exact False.elim hs
  | cons v r =>
    replace hs : am_b (Nat.beq v.category 1) _ := hs
    unfold am_b at hs
    split at hs
    · rename_i hb
      intro q H locs ls g1 g2 g3 g4 g5 g6 g7 g8
      exact lv_pop C.1 C.2.1 hd (by rw [am_rv_cat]; exact Nat.eq_of_beq_eq_true hb) (hP _ (hs) q H locs ls g1 g2 g3 g4 g5 (am_has_pick _ g6) g7 g8)
    · exact hs.elim
theorem am_o_goto (C : am_Cx p l e R s m args below meth c sc y d mc ms Φ D ty A q0 h0 Qf) (hP : ∀ x : am_S, P x → am_Wt p l e R s m args below meth c y mc ms D ty A q0 h0 Qf x) {off : Int} {len : Nat} (hd : decode (am_code y) pc = .ok (.goto off, len)) (hn : len = 3) (ht : (pc : Int) + off = (a : Int)) (hs : am_ex E sc y mc ms Φ P (.goto off) a b kf kt tg pc lv st h k n) : am_Wt p l e R s m args below meth c y mc ms D ty A q0 h0 Qf (pc, lv, st, h, k, n) := by
  subst hn
  replace hs : P _ := hs
  intro q H locs ls g1 g2 g3 g4 g5 g6 g7 g8
  exact lv_goto C.1 C.2.1 hd ht (hP _ (hs) q H locs ls g1 g2 g3 g4 g5 (am_has_pick _ g6) g7 g8)
theorem am_o_ifCond (C : am_Cx p l e R s m args below meth c sc y d mc ms Φ D ty A q0 h0 Qf) (hP : ∀ x : am_S, P x → am_Wt p l e R s m args below meth c y mc ms D ty A q0 h0 Qf x) {cc : Jvm.ClassFile.Cond} {off : Int} {len : Nat} (hd : decode (am_code y) pc = .ok (.ifCond cc off, len)) (hn : len = 3) (ht : (pc : Int) + off = (a : Int)) (hs : am_ex E sc y mc ms Φ P (.ifCond cc off) a b kf kt tg pc lv st h k n) : am_Wt p l e R s m args below meth c y mc ms D ty A q0 h0 Qf (pc, lv, st, h, k, n) := by
  subst hn
  replace hs : am_i1 st _ := hs
  unfold am_i1 at hs
  split at hs
  · cases cc
    · intro q H locs ls g1 g2 g3 g4 g5 g6 g7 g8
      exact lv_if_eq C.1 C.2.1 hd ht (fun w => (hP _ (hs.1 w) q H locs ls g1 g2 g3 g4 g5 (am_has_pick _ g6) g7 g8)) (fun w => (hP _ (hs.2 w) q H locs ls g1 g2 g3 g4 g5 (am_has_pick _ g6) g7 g8))
    · intro q H locs ls g1 g2 g3 g4 g5 g6 g7 g8
      exact lv_if_ne C.1 C.2.1 hd ht (fun w => (hP _ (hs.1 w) q H locs ls g1 g2 g3 g4 g5 (am_has_pick _ g6) g7 g8)) (fun w => (hP _ (hs.2 w) q H locs ls g1 g2 g3 g4 g5 (am_has_pick _ g6) g7 g8))
    · intro q H locs ls g1 g2 g3 g4 g5 g6 g7 g8
      exact lv_if_lt C.1 C.2.1 hd ht (fun w => (hP _ (hs.1 w) q H locs ls g1 g2 g3 g4 g5 (am_has_pick _ g6) g7 g8)) (fun w => (hP _ (hs.2 w) q H locs ls g1 g2 g3 g4 g5 (am_has_pick _ g6) g7 g8))
    · intro q H locs ls g1 g2 g3 g4 g5 g6 g7 g8
      exact lv_if_ge C.1 C.2.1 hd ht (fun w => (hP _ (hs.1 w) q H locs ls g1 g2 g3 g4 g5 (am_has_pick _ g6) g7 g8)) (fun w => (hP _ (hs.2 w) q H locs ls g1 g2 g3 g4 g5 (am_has_pick _ g6) g7 g8))
    · intro q H locs ls g1 g2 g3 g4 g5 g6 g7 g8
      exact lv_if_gt C.1 C.2.1 hd ht (fun w => (hP _ (hs.1 w) q H locs ls g1 g2 g3 g4 g5 (am_has_pick _ g6) g7 g8)) (fun w => (hP _ (hs.2 w) q H locs ls g1 g2 g3 g4 g5 (am_has_pick _ g6) g7 g8))
    · intro q H locs ls g1 g2 g3 g4 g5 g6 g7 g8
      exact lv_if_le C.1 C.2.1 hd ht (fun w => (hP _ (hs.1 w) q H locs ls g1 g2 g3 g4 g5 (am_has_pick _ g6) g7 g8)) (fun w => (hP _ (hs.2 w) q H locs ls g1 g2 g3 g4 g5 (am_has_pick _ g6) g7 g8))
  · exact hs.elim
theorem am_o_if_icmp (C : am_Cx p l e R s m args below meth c sc y d mc ms Φ D ty A q0 h0 Qf) (hP : ∀ x : am_S, P x → am_Wt p l e R s m args below meth c y mc ms D ty A q0 h0 Qf x) {cc : Jvm.ClassFile.Cond} {off : Int} {len : Nat} (hd : decode (am_code y) pc = .ok (.if_icmp cc off, len)) (hn : len = 3) (ht : (pc : Int) + off = (a : Int)) (hs : am_ex E sc y mc ms Φ P (.if_icmp cc off) a b kf kt tg pc lv st h k n) : am_Wt p l e R s m args below meth c y mc ms D ty A q0 h0 Qf (pc, lv, st, h, k, n) := by
  subst hn
  replace hs : am_i2 st _ := hs
  unfold am_i2 at hs
  split at hs
  · cases cc
    · intro q H locs ls g1 g2 g3 g4 g5 g6 g7 g8
      exact lv_icmp_eq C.1 C.2.1 hd ht (fun w => (hP _ (hs.1 w) q H locs ls g1 g2 g3 g4 g5 (am_has_pick _ g6) g7 g8)) (fun w => (hP _ (hs.2 w) q H locs ls g1 g2 g3 g4 g5 (am_has_pick _ g6) g7 g8))
    · intro q H locs ls g1 g2 g3 g4 g5 g6 g7 g8
      exact lv_icmp_ne C.1 C.2.1 hd ht (fun w => (hP _ (hs.1 w) q H locs ls g1 g2 g3 g4 g5 (am_has_pick _ g6) g7 g8)) (fun w => (hP _ (hs.2 w) q H locs ls g1 g2 g3 g4 g5 (am_has_pick _ g6) g7 g8))
    · intro q H locs ls g1 g2 g3 g4 g5 g6 g7 g8
      exact lv_icmp_lt C.1 C.2.1 hd ht (fun w => (hP _ (hs.1 w) q H locs ls g1 g2 g3 g4 g5 (am_has_pick _ g6) g7 g8)) (fun w => (hP _ (hs.2 w) q H locs ls g1 g2 g3 g4 g5 (am_has_pick _ g6) g7 g8))
    · intro q H locs ls g1 g2 g3 g4 g5 g6 g7 g8
      exact lv_icmp_ge C.1 C.2.1 hd ht (fun w => (hP _ (hs.1 w) q H locs ls g1 g2 g3 g4 g5 (am_has_pick _ g6) g7 g8)) (fun w => (hP _ (hs.2 w) q H locs ls g1 g2 g3 g4 g5 (am_has_pick _ g6) g7 g8))
    · intro q H locs ls g1 g2 g3 g4 g5 g6 g7 g8
      exact lv_icmp_gt C.1 C.2.1 hd ht (fun w => (hP _ (hs.1 w) q H locs ls g1 g2 g3 g4 g5 (am_has_pick _ g6) g7 g8)) (fun w => (hP _ (hs.2 w) q H locs ls g1 g2 g3 g4 g5 (am_has_pick _ g6) g7 g8))
    · intro q H locs ls g1 g2 g3 g4 g5 g6 g7 g8
      exact lv_icmp_le C.1 C.2.1 hd ht (fun w => (hP _ (hs.1 w) q H locs ls g1 g2 g3 g4 g5 (am_has_pick _ g6) g7 g8)) (fun w => (hP _ (hs.2 w) q H locs ls g1 g2 g3 g4 g5 (am_has_pick _ g6) g7 g8))
  · exact hs.elim
theorem am_o_ifnull (C : am_Cx p l e R s m args below meth c sc y d mc ms Φ D ty A q0 h0 Qf) (hP : ∀ x : am_S, P x → am_Wt p l e R s m args below meth c y mc ms D ty A q0 h0 Qf x) {off : Int} {len : Nat} (hd : decode (am_code y) pc = .ok (.ifnull off, len)) (hn : len = 3) (ht : (pc : Int) + off = (a : Int)) (hs : am_ex E sc y mc ms Φ P (.ifnull off) a b kf kt tg pc lv st h k n) : am_Wt p l e R s m args below meth c y mc ms D ty A q0 h0 Qf (pc, lv, st, h, k, n) := by
  subst hn
  cases st with
  | nil => exact False.elim hs
  | cons v r => cases v with
    | null =>
      replace hs : P _ := hs
      intro q H locs ls g1 g2 g3 g4 g5 g6 g7 g8
      exact lv_ifnullN C.1 C.2.1 hd ht (hP _ (hs) q H locs ls g1 g2 g3 g4 g5 (am_has_pick _ g6) g7 g8)
    | ref o =>
      replace hs : P _ := hs
      intro q H locs ls g1 g2 g3 g4 g5 g6 g7 g8
      exact lv_ifnull C.1 C.2.1 hd (hP _ (hs) q H locs ls g1 g2 g3 g4 g5 (am_has_pick _ g6) g7 g8)
    | _ => exact False.elim hs
theorem am_o_ifnonnull (C : am_Cx p l e R s m args below meth c sc y d mc ms Φ D ty A q0 h0 Qf) (hP : ∀ x : am_S, P x → am_Wt p l e R s m args below meth c y mc ms D ty A q0 h0 Qf x) {off : Int} {len : Nat} (hd : decode (am_code y) pc = .ok (.ifnonnull off, len)) (hn : len = 3) (ht : (pc : Int) + off = (a : Int)) (hs : am_ex E sc y mc ms Φ P (.ifnonnull off) a b kf kt tg pc lv st h k n) : am_Wt p l e R s m args below meth c y mc ms D ty A q0 h0 Qf (pc, lv, st, h, k, n) := by
  subst hn
  cases st with
  | nil => exact False.elim hs
  | cons v r => cases v with
    | null =>
      replace hs : P _ := hs
      intro q H locs ls g1 g2 g3 g4 g5 g6 g7 g8
      exact lv_ifnonnullN C.1 C.2.1 hd (hP _ (hs) q H locs ls g1 g2 g3 g4 g5 (am_has_pick _ g6) g7 g8)
    | ref o =>
      replace hs : P _ := hs
      intro q H locs ls g1 g2 g3 g4 g5 g6 g7 g8
      exact lv_ifnonnull C.1 C.2.1 hd ht (hP _ (hs) q H locs ls g1 g2 g3 g4 g5 (am_has_pick _ g6) g7 g8)
    | _ => exact False.elim hs
end OPS

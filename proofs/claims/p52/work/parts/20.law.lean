/-! ===== the law: out of its run on the abstract machine (the skeleton's rows first) ===== -/
def R_law : String := "LockedToAnothersLaw"
def lw_P (b : Addr) (xs : List Int32) (args : Array Value) (s : State) : Prop := args = #[.ref b] ∧ s.IntsAt b xs ∧ xs.length ≤ 260 ∧ (Jvm.Cond.and given_1 narrow_1).before args s = true
def lw_Q (_ : Array Value) (s : State) (o : Outcome) (t : State) : Prop := o = .returned (some (.int 1)) ∧ Framed s o t [] 600000 7302250
def lw_Z (below : List Frame) (a : Array Value) (s : State) : State → Prop := fun t => ∃ o, t.status = .running ∧ Ended t below o ∧ lw_Q a s o t
/-- the law's own end, with 1 on the stack, nothing written that was there before, its room as the claim has it -/
theorem lw_ret {p : Program} {l : Launch} {e : Env} {s : State} {m : MethodId} {below : List Frame} {meth : Method} {c : Code} {b : Nat} (hx : p.tables.exec = Jvm.exec) (hb : c.code = code) (hr : meth.sig.returnType = ret) (hlocks : meth.locks = false) {pc : Nat} {H : Heap} {ls : Array Slot} (hdg : decode code pc = .ok (.ireturn, 1)) : W p l e room_1 s m #[Value.ref b] below meth c H [] 600000 7302250 (lw_Z below #[Value.ref b] s) (F0 m pc ls [.int 1]) := by
  intro T hT X
  obtain ⟨fs, hret, hrun, hended, hW, hframe⟩ := X.leave (v := some (.int 1)) (hlocks := hlocks) (fun h => by rw [hr] at h; cases h)
  have hmeth' : T.vm.method? m = some meth := X.method'
  refine ⟨T.setFrames fs, ?_, .returned (some (.int 1)), hrun, hended, rfl, ⟨_, rfl⟩, hW, hframe⟩
  jvm_step X.here [X.here.top, hx, hb, hdg, hmeth', hr, ret, narrow_b1]
  (try refine ⟨rfl, ?_⟩); (try refine ⟨rfl, ?_⟩)
  first | (intro acts; rw [hret _ acts rfl rfl rfl]) | rw [hret _ _ rfl rfl rfl]
  exact Steps.refl _
/-- what holds at the law's entry: the machine, the code, the tables' words (any of lw_tbl by 'hts w (by decide +kernel)'), the script of L ints xs at the cell b, what the Statement gives of the start (any of its parts by flat_of_before) -/
def lw_At (p : Program) (s : State) (m : MethodId) (meth : Method) (c : Code) (b L : Nat) (xs : Nat → Int32) : Prop :=
  p.tables.exec = Jvm.exec ∧ c.code = code ∧ meth.sig.returnType = ret ∧ c.maxLocals = 11 ∧ s.vm.findClass R_law = some m.cls ∧ (∀ w ∈ lw_tbl, w.before #[Value.ref b] s = true) ∧ va_X b L xs s s.heap ∧ b < s.heap.size ∧ meth.locks = false ∧ (Jvm.Cond.and given_1 narrow_1).before #[Value.ref b] s = true

theorem am_wS : Jvm.Cond.arrayOver (.object RX6) ∈ wt_tbl := List.mem_of_getElem? (i := 381) (by decide +kernel)
theorem am_wG : Jvm.Cond.arrayOver (.array .int) ∈ wt_tbl := List.mem_of_getElem? (i := 155) (by decide +kernel)
/-- the law runs, on the abstract machine, on every script -/
def am_law : Prop := ∀ (L : Nat) (xs : Nat → Int32), L ≤ 260 → am_go (am_fr (am_run (some (L, xs)) 1000)) (some (L, xs)) 129 600000 7302250 (fun r _ => r = some (.int 1)) (0, [(0, .ref am_pL)], [], [], 0, 0)
theorem am_tyI {args : Array Value} {s : State} {t : FieldType} (h : (Jvm.Cond.arrayClass t).before args s = true) : ∃ cA, ArrOfT s cA t ∧ s.vm.findClass ("[" ++ t.toString) = some cA := by
  obtain ⟨c, k, comp, h1, h2, h3⟩ := Cond.arrayClass_spec h
  exact ⟨c, fun n z => ⟨fun k h => (by cases h), k, h2, comp, h3⟩, h1⟩
theorem am_tyO {args : Array Value} {s : State} {C : String} (h : (Jvm.Cond.arrayOver (.object C)).before args s = true) : ∃ cA, ArrOfT s cA (.object C) ∧ va_RA s cA (.object C) := by
  obtain ⟨comp, c, k, h1, h2, h3, h4, h5⟩ := Cond.arrayOver_spec h
  exact ⟨c, fun n z => ⟨fun k h => (by cases h), k, h3, comp, h4⟩, k, comp, h3, h4, h1, h5⟩
theorem am_tyG {args : Array Value} {s : State} {t : FieldType} (h : (Jvm.Cond.arrayOver (.array t)).before args s = true) : ∃ cA, ArrOfT s cA (.array t) ∧ s.vm.findClass ("[" ++ (FieldType.array t).toString) = some cA := by
  obtain ⟨comp, c, k, h1, h2, h3, h4, h5⟩ := Jvm.Stand.arrayOver_specB h
  exact ⟨c, fun n z => ⟨fun k h => (by cases h), k, h3, comp, h4⟩, h5⟩
theorem am_cl_kn {s : State} {args : Array Value} (hts : ∀ w ∈ wt_tbl, w.before args s = true) : ∃ (dC : Nat → ClassId) (dI : Nat → Nat → Nat), ∀ (k : Nat) (q : vw_C), vwCl[k]? = some q → u_Kn s q.1 q.2.1 q.2.2 (dC k) (dI k) := by
  have h : ∀ k : Nat, ∃ (c : ClassId) (i : Nat → Nat), ∀ q : vw_C, vwCl[k]? = some q → u_Kn s q.1 q.2.1 q.2.2 c i := by
    intro k
    by_cases hk : k < 9
    · obtain ⟨c, i, h⟩ := u_known (C := am_R k) (T := am_T k) (N := am_Nf k) (n := am_Nf k) hts (am_cl_in hk) (hts _ (am_ni hk).1)
      refine ⟨c, i, fun q hq => ?_⟩
      rw [am_cl_get hk] at hq
      cases hq
      exact h
    · refine ⟨0, fun _ => 0, fun q hq => ?_⟩
      have h9 : vwCl.length = 9 := rfl
      rw [List.getElem?_eq_none (by omega)] at hq
      cases hq
  exact ⟨fun k => (h k).choose, fun k => (h k).choose_spec.choose, fun k => (h k).choose_spec.choose_spec⟩
def am_tm (i : Nat) : Term := .string (am_so i) (am_si i)
theorem am_r7 {P : Nat → Prop} (h0 : P 0) (h1 : P 1) (h2 : P 2) (h3 : P 3) (h4 : P 4) (h5 : P 5) (h6 : P 6) : ∀ i : Nat, i < 7 → P i := fun i hi => by
  match i, hi with
  | 0, _ => exact h0
  | 1, _ => exact h1
  | 2, _ => exact h2
  | 3, _ => exact h3
  | 4, _ => exact h4
  | 5, _ => exact h5
  | 6, _ => exact h6
/-- the words of the start, flat -/
def am_fl : List Jvm.Cond := flatC (Jvm.Cond.and given_1 narrow_1)
theorem am_flm {w : Jvm.Cond} (k : Nat) (h : am_fl[k]? = some w) : w ∈ flatC (Jvm.Cond.and given_1 narrow_1) := List.mem_of_getElem? h
def am_elf (i j : Nat) : Jvm.Cond := Jvm.Cond.eq (.elem (.field (am_tm i) "java/lang/String" "value" "[B") (.int (Int32.ofNat j))) (.int ((am_byt.getD i []).getD j 0))
set_option maxRecDepth 100000 in
theorem am_elr : (List.range 100).map (fun j => Jvm.Cond.eq (.elem (.static "java/lang/Integer" "DigitOnes" "[B") (.int (Int32.ofNat j))) (.int (am_ones j))) = (am_fl.drop 12).take 100 := by decide +kernel
theorem am_elo (j : Nat) (hj : j < 100) : Jvm.Cond.eq (.elem (.static "java/lang/Integer" "DigitOnes" "[B") (.int (Int32.ofNat j))) (.int (am_ones j)) ∈ flatC (Jvm.Cond.and given_1 narrow_1) := va_run am_elr j hj
theorem am_laysO : Jvm.Cond.laysStatic "java/lang/Integer" "DigitOnes" "[B" ∈ wt_tbl := List.mem_of_getElem? (i := 794) (by decide +kernel)
theorem am_iniO : Jvm.Cond.initialized "java/lang/Integer" ∈ wt_tbl := List.mem_of_getElem? (i := 34) (by decide +kernel)
set_option maxHeartbeats 4000000 in
theorem am_ones_of {s : State} {args : Array Value} {A : Nat → Prop} (hts : ∀ w ∈ wt_tbl, w.before args s = true) (hgv : (Jvm.Cond.and given_1 narrow_1).before args s = true) (hA : ∀ a : Nat, a < s.heap.size → ¬ A a) : ∃ t : Nat, va_Z "java/lang/Integer" "DigitOnes" "[B" (.ref t) A s s.heap ∧ va_T .byte t 100 (fun j => .int (am_ones j)) A s s.heap := by
  have hs := flat_of_before _ hgv
  have h1 : (Jvm.Cond.arrayOf (.static "java/lang/Integer" "DigitOnes" "[B") .byte).before args s = true := hs _ (am_flm 10 rfl)
  have h2 : (Jvm.Cond.eq (.length (.static "java/lang/Integer" "DigitOnes" "[B")) (.int 100)).before args s = true := hs _ (am_flm 11 rfl)
  obtain ⟨t, ht, hT⟩ := va_Tof (N := 100) (f := fun j => .int (am_ones j)) (by decide) h1 (va_eqt h2) (fun j hj => va_eqt (hs _ (am_elo j hj))) hA
  exact ⟨t, va_Zof (hts _ am_laysO) (hts _ am_iniO) ht hA, hT⟩
set_option maxRecDepth 100000 in
theorem am_elr0 : (List.range 40).map (am_elf 0) = (am_fl.drop 219).take 40 := by decide +kernel
set_option maxRecDepth 100000 in
theorem am_elr1 : (List.range 8).map (am_elf 1) = (am_fl.drop 327).take 8 := by decide +kernel
set_option maxRecDepth 100000 in
theorem am_elr2 : (List.range 59).map (am_elf 2) = (am_fl.drop 263).take 59 := by decide +kernel
set_option maxRecDepth 100000 in
theorem am_elr3 : (List.range 16).map (am_elf 3) = (am_fl.drop 341).take 16 := by decide +kernel
set_option maxRecDepth 100000 in
theorem am_elr4 : (List.range 16).map (am_elf 4) = (am_fl.drop 364).take 16 := by decide +kernel
set_option maxRecDepth 100000 in
theorem am_elr5 : (List.range 23).map (am_elf 5) = (am_fl.drop 388).take 23 := by decide +kernel
set_option maxRecDepth 100000 in
theorem am_elr6 : (List.range 1).map (am_elf 6) = (am_fl.drop 420).take 1 := by decide +kernel
theorem am_elm : ∀ i : Nat, i < 7 → ∀ j : Nat, j < am_ln.getD i 0 → am_elf i j ∈ flatC (Jvm.Cond.and given_1 narrow_1) := am_r7 (fun j hj => va_run am_elr0 j hj) (fun j hj => va_run am_elr1 j hj) (fun j hj => va_run am_elr2 j hj) (fun j hj => va_run am_elr3 j hj) (fun j hj => va_run am_elr4 j hj) (fun j hj => va_run am_elr5 j hj) (fun j hj => va_run am_elr6 j hj)
set_option maxRecDepth 100000 in
theorem am_elq0 : Jvm.Cond.exactly (am_tm 0) "java/lang/String" ∈ flatC (Jvm.Cond.and given_1 narrow_1) ∧ Jvm.Cond.eq (.field (am_tm 0) "java/lang/String" "coder" "B") (.int 0) ∈ flatC (Jvm.Cond.and given_1 narrow_1) ∧ Jvm.Cond.arrayOf (.field (am_tm 0) "java/lang/String" "value" "[B") .byte ∈ flatC (Jvm.Cond.and given_1 narrow_1) ∧ Jvm.Cond.eq (.length (.field (am_tm 0) "java/lang/String" "value" "[B")) (.int (Int32.ofNat (am_ln.getD 0 0))) ∈ flatC (Jvm.Cond.and given_1 narrow_1) := ⟨am_flm 215 (by decide +kernel), am_flm 216 (by decide +kernel), am_flm 217 (by decide +kernel), am_flm 218 (by decide +kernel)⟩
set_option maxRecDepth 100000 in
theorem am_elq1 : Jvm.Cond.exactly (am_tm 1) "java/lang/String" ∈ flatC (Jvm.Cond.and given_1 narrow_1) ∧ Jvm.Cond.eq (.field (am_tm 1) "java/lang/String" "coder" "B") (.int 0) ∈ flatC (Jvm.Cond.and given_1 narrow_1) ∧ Jvm.Cond.arrayOf (.field (am_tm 1) "java/lang/String" "value" "[B") .byte ∈ flatC (Jvm.Cond.and given_1 narrow_1) ∧ Jvm.Cond.eq (.length (.field (am_tm 1) "java/lang/String" "value" "[B")) (.int (Int32.ofNat (am_ln.getD 1 0))) ∈ flatC (Jvm.Cond.and given_1 narrow_1) := ⟨am_flm 323 (by decide +kernel), am_flm 324 (by decide +kernel), am_flm 325 (by decide +kernel), am_flm 326 (by decide +kernel)⟩
set_option maxRecDepth 100000 in
theorem am_elq2 : Jvm.Cond.exactly (am_tm 2) "java/lang/String" ∈ flatC (Jvm.Cond.and given_1 narrow_1) ∧ Jvm.Cond.eq (.field (am_tm 2) "java/lang/String" "coder" "B") (.int 0) ∈ flatC (Jvm.Cond.and given_1 narrow_1) ∧ Jvm.Cond.arrayOf (.field (am_tm 2) "java/lang/String" "value" "[B") .byte ∈ flatC (Jvm.Cond.and given_1 narrow_1) ∧ Jvm.Cond.eq (.length (.field (am_tm 2) "java/lang/String" "value" "[B")) (.int (Int32.ofNat (am_ln.getD 2 0))) ∈ flatC (Jvm.Cond.and given_1 narrow_1) := ⟨am_flm 259 (by decide +kernel), am_flm 260 (by decide +kernel), am_flm 261 (by decide +kernel), am_flm 262 (by decide +kernel)⟩
set_option maxRecDepth 100000 in
theorem am_elq3 : Jvm.Cond.exactly (am_tm 3) "java/lang/String" ∈ flatC (Jvm.Cond.and given_1 narrow_1) ∧ Jvm.Cond.eq (.field (am_tm 3) "java/lang/String" "coder" "B") (.int 0) ∈ flatC (Jvm.Cond.and given_1 narrow_1) ∧ Jvm.Cond.arrayOf (.field (am_tm 3) "java/lang/String" "value" "[B") .byte ∈ flatC (Jvm.Cond.and given_1 narrow_1) ∧ Jvm.Cond.eq (.length (.field (am_tm 3) "java/lang/String" "value" "[B")) (.int (Int32.ofNat (am_ln.getD 3 0))) ∈ flatC (Jvm.Cond.and given_1 narrow_1) := ⟨am_flm 337 (by decide +kernel), am_flm 338 (by decide +kernel), am_flm 339 (by decide +kernel), am_flm 340 (by decide +kernel)⟩
set_option maxRecDepth 100000 in
theorem am_elq4 : Jvm.Cond.exactly (am_tm 4) "java/lang/String" ∈ flatC (Jvm.Cond.and given_1 narrow_1) ∧ Jvm.Cond.eq (.field (am_tm 4) "java/lang/String" "coder" "B") (.int 0) ∈ flatC (Jvm.Cond.and given_1 narrow_1) ∧ Jvm.Cond.arrayOf (.field (am_tm 4) "java/lang/String" "value" "[B") .byte ∈ flatC (Jvm.Cond.and given_1 narrow_1) ∧ Jvm.Cond.eq (.length (.field (am_tm 4) "java/lang/String" "value" "[B")) (.int (Int32.ofNat (am_ln.getD 4 0))) ∈ flatC (Jvm.Cond.and given_1 narrow_1) := ⟨am_flm 360 (by decide +kernel), am_flm 361 (by decide +kernel), am_flm 362 (by decide +kernel), am_flm 363 (by decide +kernel)⟩
set_option maxRecDepth 100000 in
theorem am_elq5 : Jvm.Cond.exactly (am_tm 5) "java/lang/String" ∈ flatC (Jvm.Cond.and given_1 narrow_1) ∧ Jvm.Cond.eq (.field (am_tm 5) "java/lang/String" "coder" "B") (.int 0) ∈ flatC (Jvm.Cond.and given_1 narrow_1) ∧ Jvm.Cond.arrayOf (.field (am_tm 5) "java/lang/String" "value" "[B") .byte ∈ flatC (Jvm.Cond.and given_1 narrow_1) ∧ Jvm.Cond.eq (.length (.field (am_tm 5) "java/lang/String" "value" "[B")) (.int (Int32.ofNat (am_ln.getD 5 0))) ∈ flatC (Jvm.Cond.and given_1 narrow_1) := ⟨am_flm 384 (by decide +kernel), am_flm 385 (by decide +kernel), am_flm 386 (by decide +kernel), am_flm 387 (by decide +kernel)⟩
set_option maxRecDepth 100000 in
theorem am_elq6 : Jvm.Cond.exactly (am_tm 6) "java/lang/String" ∈ flatC (Jvm.Cond.and given_1 narrow_1) ∧ Jvm.Cond.eq (.field (am_tm 6) "java/lang/String" "coder" "B") (.int 0) ∈ flatC (Jvm.Cond.and given_1 narrow_1) ∧ Jvm.Cond.arrayOf (.field (am_tm 6) "java/lang/String" "value" "[B") .byte ∈ flatC (Jvm.Cond.and given_1 narrow_1) ∧ Jvm.Cond.eq (.length (.field (am_tm 6) "java/lang/String" "value" "[B")) (.int (Int32.ofNat (am_ln.getD 6 0))) ∈ flatC (Jvm.Cond.and given_1 narrow_1) := ⟨am_flm 416 (by decide +kernel), am_flm 417 (by decide +kernel), am_flm 418 (by decide +kernel), am_flm 419 (by decide +kernel)⟩
theorem am_elq : ∀ i : Nat, i < 7 → Jvm.Cond.exactly (am_tm i) "java/lang/String" ∈ flatC (Jvm.Cond.and given_1 narrow_1) ∧ Jvm.Cond.eq (.field (am_tm i) "java/lang/String" "coder" "B") (.int 0) ∈ flatC (Jvm.Cond.and given_1 narrow_1) ∧ Jvm.Cond.arrayOf (.field (am_tm i) "java/lang/String" "value" "[B") .byte ∈ flatC (Jvm.Cond.and given_1 narrow_1) ∧ Jvm.Cond.eq (.length (.field (am_tm i) "java/lang/String" "value" "[B")) (.int (Int32.ofNat (am_ln.getD i 0))) ∈ flatC (Jvm.Cond.and given_1 narrow_1) := am_r7 am_elq0 am_elq1 am_elq2 am_elq3 am_elq4 am_elq5 am_elq6
set_option maxRecDepth 100000 in
theorem am_eln_0_2 : Jvm.Cond.not (Jvm.Cond.eq (am_tm 0) (am_tm 2)) ∈ flatC (Jvm.Cond.and given_1 narrow_1) := am_flm 322 (by decide +kernel)
set_option maxRecDepth 100000 in
theorem am_eln_0_1 : Jvm.Cond.not (Jvm.Cond.eq (am_tm 0) (am_tm 1)) ∈ flatC (Jvm.Cond.and given_1 narrow_1) := am_flm 335 (by decide +kernel)
set_option maxRecDepth 100000 in
theorem am_eln_2_1 : Jvm.Cond.not (Jvm.Cond.eq (am_tm 2) (am_tm 1)) ∈ flatC (Jvm.Cond.and given_1 narrow_1) := am_flm 336 (by decide +kernel)
set_option maxRecDepth 100000 in
theorem am_eln_0_3 : Jvm.Cond.not (Jvm.Cond.eq (am_tm 0) (am_tm 3)) ∈ flatC (Jvm.Cond.and given_1 narrow_1) := am_flm 357 (by decide +kernel)
set_option maxRecDepth 100000 in
theorem am_eln_2_3 : Jvm.Cond.not (Jvm.Cond.eq (am_tm 2) (am_tm 3)) ∈ flatC (Jvm.Cond.and given_1 narrow_1) := am_flm 358 (by decide +kernel)
set_option maxRecDepth 100000 in
theorem am_eln_1_3 : Jvm.Cond.not (Jvm.Cond.eq (am_tm 1) (am_tm 3)) ∈ flatC (Jvm.Cond.and given_1 narrow_1) := am_flm 359 (by decide +kernel)
set_option maxRecDepth 100000 in
theorem am_eln_0_4 : Jvm.Cond.not (Jvm.Cond.eq (am_tm 0) (am_tm 4)) ∈ flatC (Jvm.Cond.and given_1 narrow_1) := am_flm 380 (by decide +kernel)
set_option maxRecDepth 100000 in
theorem am_eln_2_4 : Jvm.Cond.not (Jvm.Cond.eq (am_tm 2) (am_tm 4)) ∈ flatC (Jvm.Cond.and given_1 narrow_1) := am_flm 381 (by decide +kernel)
set_option maxRecDepth 100000 in
theorem am_eln_1_4 : Jvm.Cond.not (Jvm.Cond.eq (am_tm 1) (am_tm 4)) ∈ flatC (Jvm.Cond.and given_1 narrow_1) := am_flm 382 (by decide +kernel)
set_option maxRecDepth 100000 in
theorem am_eln_3_4 : Jvm.Cond.not (Jvm.Cond.eq (am_tm 3) (am_tm 4)) ∈ flatC (Jvm.Cond.and given_1 narrow_1) := am_flm 383 (by decide +kernel)
set_option maxRecDepth 100000 in
theorem am_eln_0_5 : Jvm.Cond.not (Jvm.Cond.eq (am_tm 0) (am_tm 5)) ∈ flatC (Jvm.Cond.and given_1 narrow_1) := am_flm 411 (by decide +kernel)
set_option maxRecDepth 100000 in
theorem am_eln_2_5 : Jvm.Cond.not (Jvm.Cond.eq (am_tm 2) (am_tm 5)) ∈ flatC (Jvm.Cond.and given_1 narrow_1) := am_flm 412 (by decide +kernel)
set_option maxRecDepth 100000 in
theorem am_eln_1_5 : Jvm.Cond.not (Jvm.Cond.eq (am_tm 1) (am_tm 5)) ∈ flatC (Jvm.Cond.and given_1 narrow_1) := am_flm 413 (by decide +kernel)
set_option maxRecDepth 100000 in
theorem am_eln_3_5 : Jvm.Cond.not (Jvm.Cond.eq (am_tm 3) (am_tm 5)) ∈ flatC (Jvm.Cond.and given_1 narrow_1) := am_flm 414 (by decide +kernel)
set_option maxRecDepth 100000 in
theorem am_eln_4_5 : Jvm.Cond.not (Jvm.Cond.eq (am_tm 4) (am_tm 5)) ∈ flatC (Jvm.Cond.and given_1 narrow_1) := am_flm 415 (by decide +kernel)
set_option maxRecDepth 100000 in
theorem am_eln_0_6 : Jvm.Cond.not (Jvm.Cond.eq (am_tm 0) (am_tm 6)) ∈ flatC (Jvm.Cond.and given_1 narrow_1) := am_flm 421 (by decide +kernel)
set_option maxRecDepth 100000 in
theorem am_eln_2_6 : Jvm.Cond.not (Jvm.Cond.eq (am_tm 2) (am_tm 6)) ∈ flatC (Jvm.Cond.and given_1 narrow_1) := am_flm 422 (by decide +kernel)
set_option maxRecDepth 100000 in
theorem am_eln_1_6 : Jvm.Cond.not (Jvm.Cond.eq (am_tm 1) (am_tm 6)) ∈ flatC (Jvm.Cond.and given_1 narrow_1) := am_flm 423 (by decide +kernel)
set_option maxRecDepth 100000 in
theorem am_eln_3_6 : Jvm.Cond.not (Jvm.Cond.eq (am_tm 3) (am_tm 6)) ∈ flatC (Jvm.Cond.and given_1 narrow_1) := am_flm 424 (by decide +kernel)
set_option maxRecDepth 100000 in
theorem am_eln_4_6 : Jvm.Cond.not (Jvm.Cond.eq (am_tm 4) (am_tm 6)) ∈ flatC (Jvm.Cond.and given_1 narrow_1) := am_flm 425 (by decide +kernel)
set_option maxRecDepth 100000 in
theorem am_eln_5_6 : Jvm.Cond.not (Jvm.Cond.eq (am_tm 5) (am_tm 6)) ∈ flatC (Jvm.Cond.and given_1 narrow_1) := am_flm 426 (by decide +kernel)
theorem am_eln : ∀ i j : Nat, i < 7 → j < 7 → ¬ i = j → Jvm.Cond.not (Jvm.Cond.eq (am_tm i) (am_tm j)) ∈ flatC (Jvm.Cond.and given_1 narrow_1) ∨ Jvm.Cond.not (Jvm.Cond.eq (am_tm j) (am_tm i)) ∈ flatC (Jvm.Cond.and given_1 narrow_1) := by
  intro i j hi hj hij
  match i, j, hi, hj with
  | 0, 0, _, _ => exact absurd rfl hij
  | 0, 1, _, _ => exact Or.inl am_eln_0_1
  | 0, 2, _, _ => exact Or.inl am_eln_0_2
  | 0, 3, _, _ => exact Or.inl am_eln_0_3
  | 0, 4, _, _ => exact Or.inl am_eln_0_4
  | 0, 5, _, _ => exact Or.inl am_eln_0_5
  | 0, 6, _, _ => exact Or.inl am_eln_0_6
  | 1, 0, _, _ => exact Or.inr am_eln_0_1
  | 1, 1, _, _ => exact absurd rfl hij
  | 1, 2, _, _ => exact Or.inr am_eln_2_1
  | 1, 3, _, _ => exact Or.inl am_eln_1_3
  | 1, 4, _, _ => exact Or.inl am_eln_1_4
  | 1, 5, _, _ => exact Or.inl am_eln_1_5
  | 1, 6, _, _ => exact Or.inl am_eln_1_6
  | 2, 0, _, _ => exact Or.inr am_eln_0_2
  | 2, 1, _, _ => exact Or.inl am_eln_2_1
  | 2, 2, _, _ => exact absurd rfl hij
  | 2, 3, _, _ => exact Or.inl am_eln_2_3
  | 2, 4, _, _ => exact Or.inl am_eln_2_4
  | 2, 5, _, _ => exact Or.inl am_eln_2_5
  | 2, 6, _, _ => exact Or.inl am_eln_2_6
  | 3, 0, _, _ => exact Or.inr am_eln_0_3
  | 3, 1, _, _ => exact Or.inr am_eln_1_3
  | 3, 2, _, _ => exact Or.inr am_eln_2_3
  | 3, 3, _, _ => exact absurd rfl hij
  | 3, 4, _, _ => exact Or.inl am_eln_3_4
  | 3, 5, _, _ => exact Or.inl am_eln_3_5
  | 3, 6, _, _ => exact Or.inl am_eln_3_6
  | 4, 0, _, _ => exact Or.inr am_eln_0_4
  | 4, 1, _, _ => exact Or.inr am_eln_1_4
  | 4, 2, _, _ => exact Or.inr am_eln_2_4
  | 4, 3, _, _ => exact Or.inr am_eln_3_4
  | 4, 4, _, _ => exact absurd rfl hij
  | 4, 5, _, _ => exact Or.inl am_eln_4_5
  | 4, 6, _, _ => exact Or.inl am_eln_4_6
  | 5, 0, _, _ => exact Or.inr am_eln_0_5
  | 5, 1, _, _ => exact Or.inr am_eln_1_5
  | 5, 2, _, _ => exact Or.inr am_eln_2_5
  | 5, 3, _, _ => exact Or.inr am_eln_3_5
  | 5, 4, _, _ => exact Or.inr am_eln_4_5
  | 5, 5, _, _ => exact absurd rfl hij
  | 5, 6, _, _ => exact Or.inl am_eln_5_6
  | 6, 0, _, _ => exact Or.inr am_eln_0_6
  | 6, 1, _, _ => exact Or.inr am_eln_1_6
  | 6, 2, _, _ => exact Or.inr am_eln_2_6
  | 6, 3, _, _ => exact Or.inr am_eln_3_6
  | 6, 4, _, _ => exact Or.inr am_eln_4_6
  | 6, 5, _, _ => exact Or.inr am_eln_5_6
  | 6, 6, _, _ => exact absurd rfl hij
theorem am_laysC : Jvm.Cond.laysStatic "java/lang/String" "COMPACT_STRINGS" "Z" ∈ wt_tbl := List.mem_of_getElem? (i := 166) (by decide +kernel)
theorem am_laysF : Jvm.Cond.laysStatic "jdk/internal/util/Preconditions" "SIOOBE_FORMATTER" "Ljava/util/function/BiFunction;" ∈ wt_tbl := List.mem_of_getElem? (i := 182) (by decide +kernel)
theorem am_wSR0 : Jvm.Cond.stringRef (am_so 0) (am_si 0) (am_stx 0) ∈ wt_tbl := List.mem_of_getElem? (i := 156) (by decide +kernel)
theorem am_wSR1 : Jvm.Cond.stringRef (am_so 1) (am_si 1) (am_stx 1) ∈ wt_tbl := List.mem_of_getElem? (i := 235) (by decide +kernel)
theorem am_wSR2 : Jvm.Cond.stringRef (am_so 2) (am_si 2) (am_stx 2) ∈ wt_tbl := List.mem_of_getElem? (i := 228) (by decide +kernel)
theorem am_wSR3 : Jvm.Cond.stringRef (am_so 3) (am_si 3) (am_stx 3) ∈ wt_tbl := List.mem_of_getElem? (i := 691) (by decide +kernel)
theorem am_wSR4 : Jvm.Cond.stringRef (am_so 4) (am_si 4) (am_stx 4) ∈ wt_tbl := List.mem_of_getElem? (i := 805) (by decide +kernel)
theorem am_wSR5 : Jvm.Cond.stringRef (am_so 5) (am_si 5) (am_stx 5) ∈ wt_tbl := List.mem_of_getElem? (i := 806) (by decide +kernel)
theorem am_wSR6 : Jvm.Cond.stringRef (am_so 6) (am_si 6) (am_stx 6) ∈ wt_tbl := List.mem_of_getElem? (i := 807) (by decide +kernel)
theorem am_wSR : ∀ i : Nat, i < 7 → Jvm.Cond.stringRef (am_so i) (am_si i) (am_stx i) ∈ wt_tbl := am_r7 am_wSR0 am_wSR1 am_wSR2 am_wSR3 am_wSR4 am_wSR5 am_wSR6
set_option maxHeartbeats 4000000 in
theorem am_strs_of {s : State} {args : Array Value} {A : Nat → Prop} (hgv : (Jvm.Cond.and given_1 narrow_1).before args s = true) (hA : ∀ a : Nat, a < s.heap.size → ¬ A a) : ∃ adK adV : Nat → Nat, vk_S 7 am_ln am_byt adK adV A s s.heap ∧ ∀ i : Nat, i < 7 → (am_tm i).eval args s none [] s = some (.ref (adK i)) := by
  have hs := flat_of_before _ hgv
  refine vk_Sof (tm := am_tm) (am_r7 (by decide) (by decide) (by decide) (by decide) (by decide) (by decide) (by decide)) (fun i hi => hs _ (am_elq i hi).1) (fun i hi => hs _ (am_elq i hi).2.1) (fun i hi => hs _ (am_elq i hi).2.2.1) (fun i hi => hs _ (am_elq i hi).2.2.2) (fun i hi j hj => hs _ (am_elm i hi j hj)) (fun i j hi hj hij => ?_) hA
  rcases am_eln i j hi hj hij with h | h
  · exact Or.inl (hs _ h)
  · exact Or.inr (hs _ h)
/-- the places outside the heap of cells -/
def am_q0 (b tO : Nat) (adK adV : Nat → Nat) : Nat → Nat := fun j => if j = am_pL then b else if j = am_pX + 1 then tO else if j < am_pV then adK (j - am_pS) else adV (j - am_pV)
theorem am_q0K {b tO : Nat} {adK adV : Nat → Nat} {i : Nat} (hi : i < 7) : am_q0 b tO adK adV (am_pS + i) = adK i := by
  unfold am_q0 am_pV am_pS am_pL am_pX
  rw [if_neg (by omega), if_neg (by omega), if_pos (by omega), Nat.add_sub_cancel_left]
theorem am_q0V {b tO : Nat} {adK adV : Nat → Nat} {i : Nat} : am_q0 b tO adK adV (am_pV + i) = adV i := by
  unfold am_q0 am_pV am_pS am_pL am_pX
  rw [if_neg (by omega), if_neg (by omega), if_neg (by omega), Nat.add_sub_cancel_left]
set_option maxHeartbeats 4000000 in
theorem whole_of (hlaw : am_law) {p : Program} {e : Env} {s : State} {m : MethodId} {below : List Frame} {meth : Method} {c : Code} (l : Launch) (hflags : l.flags = flags0) {b L : Nat} {xs : Nat → Int32} (hL : L ≤ 260) (C0 : lw_At p s m meth c b L xs) : W p l e room_1 s m #[Value.ref b] below meth c s.heap [] 0 0 (lw_Z below #[Value.ref b] s) (entryFrame m ([Value.ref b] : List Value).toArray 11) := by
  obtain ⟨hx, hb, hr, hml, hown, hts0, hX, hbl, hlocks, hgv⟩ := id C0
  have hts : ∀ w ∈ wt_tbl, w.before #[Value.ref b] s = true := fun w hw => by
    rcases List.mem_append.mp hw with hw | hw
    · obtain ⟨y9, hy9, rfl⟩ := List.mem_map.mp hw
      have h0 : (Jvm.Cond.selects "java/lang/StringBuilder" ⟨"java/lang/AbstractStringBuilder", "isLatin1", "()Z"⟩ ⟨"java/lang/AbstractStringBuilder", "isLatin1", "()Z"⟩).before #[Value.ref b] s = true := hts0 _ (List.mem_of_getElem? (i := 733) (by decide +kernel))
      simp only [am_pj, List.mem_cons, List.not_mem_nil, or_false] at hy9
      rcases hy9 with rfl | rfl | rfl | rfl
      · exact wt_sel (x := ⟨"java/lang/AbstractStringBuilder", "isLatin1", "()Z"⟩) rfl ⟨by decide +kernel, by decide +kernel⟩ h0 (hts0 _ (List.mem_of_getElem? (i := 700) (by decide +kernel))) (hts0 _ (List.mem_of_getElem? (i := 701) (by decide +kernel)))
      · exact wt_sel (x := ⟨"java/lang/AbstractStringBuilder", "isLatin1", "()Z"⟩) rfl ⟨by decide +kernel, by decide +kernel⟩ h0 (hts0 _ (List.mem_of_getElem? (i := 704) (by decide +kernel))) (hts0 _ (List.mem_of_getElem? (i := 705) (by decide +kernel)))
      · exact wt_sel (x := ⟨"java/lang/AbstractStringBuilder", "isLatin1", "()Z"⟩) rfl ⟨by decide +kernel, by decide +kernel⟩ h0 (hts0 _ (List.mem_of_getElem? (i := 743) (by decide +kernel))) (hts0 _ (List.mem_of_getElem? (i := 744) (by decide +kernel)))
      · exact wt_sel (x := ⟨"java/lang/AbstractStringBuilder", "isLatin1", "()Z"⟩) rfl ⟨by decide +kernel, by decide +kernel⟩ h0 (hts0 _ (List.mem_of_getElem? (i := 747) (by decide +kernel))) (hts0 _ (List.mem_of_getElem? (i := 748) (by decide +kernel)))
    · exact hts0 w hw
  obtain ⟨dC, dI, hKc⟩ := am_cl_kn hts
  obtain ⟨t0, a0, b0⟩ := am_tyI (hts _ am_wI)
  obtain ⟨t1, a1, b1⟩ := am_tyI (hts _ am_wJ)
  obtain ⟨t2, a2, b2⟩ := am_tyO (hts _ am_wS)
  obtain ⟨t3, a3, b3⟩ := am_tyG (hts _ am_wG)
  obtain ⟨t4, a4, b4⟩ := am_tyI (hts _ am_wB)
  have hA0 : ∀ a : Nat, a < s.heap.size → ¬ (fun q : Nat => s.heap.size ≤ q) a := fun a h1 h2 => Nat.lt_irrefl _ (Nat.lt_of_lt_of_le h1 h2)
  obtain ⟨tO, hZO, hTO⟩ := am_ones_of hts hgv hA0
  obtain ⟨adK, adV, hS1, hS2⟩ := am_strs_of hgv hA0
  have hsv := flat_of_before _ hgv
  have hcs : (Jvm.Cond.eq (.static "java/lang/String" "COMPACT_STRINGS" "Z") (.int 1)).before #[Value.ref b] s = true := hsv _ (am_flm 4 rfl)
  have hfm : (Jvm.Cond.isRef (.static "jdk/internal/util/Preconditions" "SIOOBE_FORMATTER" "Ljava/util/function/BiFunction;")).before #[Value.ref b] s = true := hsv _ (am_flm 5 rfl)
  have eV : (fun i => am_q0 b tO adK adV (am_pV + i)) = adV := funext fun i => am_q0V
  have hS3 : vk_S 7 am_ln am_byt (fun i => am_q0 b tO adK adV (am_pS + i)) (fun i => am_q0 b tO adK adV (am_pV + i)) (fun q : Nat => s.heap.size ≤ q) s s.heap := by
    rw [eV]
    have e0 : ∀ i, i < 7 → am_q0 b tO adK adV (am_pS + i) = adK i := fun i hi => am_q0K hi
    refine ⟨fun i hi => ?_, fun i j hi hj h => ?_⟩
    · dsimp only
      rw [e0 i hi]
      exact hS1.1 i hi
    · have h : am_q0 b tO adK adV (am_pS + i) = am_q0 b tO adK adV (am_pS + j) := h
      rw [e0 i hi, e0 j hj] at h
      exact hS1.2 i j hi hj h
  have hK : va_K (dC, dI) vwCl (am_tys (fun k => match k with
    | 0 => t0
    | 1 => t1
    | 2 => t2
    | 3 => t3
    | _ => t4)) s := by
    refine ⟨hKc, fun k q hq => ?_⟩
    match k, hq with
    | 0, hq => cases hq; exact ⟨a0, b0⟩
    | 1, hq => cases hq; exact ⟨a1, b1⟩
    | 2, hq => cases hq; exact ⟨a2, b2⟩
    | 3, hq => cases hq; exact ⟨a3, b3⟩
    | 4, hq => cases hq; exact ⟨a4, b4⟩
    | k + 5, hq => cases hq
  have hl := lv_entry ([.ref b]) (n := 11) (Nat.le_of_ble_eq_true rfl)
  rw [lg_entry_eq]
  refine am_simul (E := am_fr (am_run (some (L, xs)) 1000)) (sc := some (L, xs)) (y := 129) (d := 1000) (mc := 600000) (ms := 7302250) (Φ := fun r _ => r = some (.int 1)) (D := (dC, dI)) (A := fun q : Nat => s.heap.size ≤ q) (q0 := am_q0 b tO adK adV) (h0 := []) ⟨hx, hb, hml, ⟨Nat.le_of_ble_eq_true rfl, Nat.le_of_ble_eq_true rfl, Nat.le_of_ble_eq_true rfl, Nat.le_of_ble_eq_true rfl⟩, hown, trivial, fun h9 => ?_, fun w hw => hts w (List.mem_filter.mp hw).1, hK, fun _ h => h, ⟨⟨⟨trivial, trivial⟩, hS3, va_Zof (hts _ am_laysC) (hts _ am_wStr) (va_eqi hcs) hA0, va_Zqof (hts _ am_laysF) (hts _ am_wPCi) hfm hA0⟩, ?_, fun i hi => vk_R.of (hts _ (am_wSR i hi)) (by rw [am_q0K hi]; exact hS2 i hi), ⟨hZO, hTO⟩, fun w hw => ?_⟩, ?_⟩ (am_frame (fun z as h r h1 mc1 ms1 => am_met 1000 z as h r h1 mc1 ms1)) (0, [(0, .ref am_pL)], [], [], 0, 0) (hlaw L xs hL) (am_q0 b tO adK adV) s.heap [] _ (fun _ _ => rfl) (Nat.le_refl _) (fun k q h9 => (by cases h9)) ⟨fun i j p q h9 _ _ => (by cases h9), fun k q h9 => (by cases h9)⟩ va_S.rf hl (Nat.zero_le _) (Nat.zero_le _)
  · exact absurd h9 (by decide +kernel)
  · refine ⟨fun w hw hb => ?_, hts _ am_wS, hts _ am_wG⟩
    have h1 := hts w hw
    cases w with
    | methodLinkNest a i x z => exact va_Nw.of rfl h1
    | _ => cases hb
  · cases hw
    obtain ⟨scr, x1, x2, x3, x4, x5⟩ := hX
    exact ⟨scr, x1, x2, x3, by omega, by rw [x4], x5, hA0 b hbl⟩
  · intro i r h1 q H locs ls pc k n he hd hΦ g1 g2 g3 g4 g5 g7 g8
    have hΦ : r = some (.int 1) := hΦ
    subst hΦ
    unfold am_end at he
    split at he
    · rename_i x hx9
      cases hx9
      exact W.widen g7 g8 (va_forget g5.2.2 (lw_ret hx hb hr hlocks hd))
    · rename_i hx9
      cases hx9
    · rename_i hx9
      cases hx9
    · rename_i hx9
      cases hx9
    · exact he.elim

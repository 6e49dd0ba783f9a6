/-! ===== what a table row must say of the code and of the tables' words ===== -/
def am_stx (i : Nat) : String := match i with
  | 0 => "takes 0 ; saws 10 + sort * 5 ; minds 1 ;"
  | 1 => "();+-*<="
  | _ => "takes saws minds or and not more sort hour thing many kind "
def am_len (i : Instr) : Nat := match i with
  | .bipush _ => 2
  | .iload _ => 2
  | .lload _ => 2
  | .aload _ => 2
  | .istore _ => 2
  | .lstore _ => 2
  | .astore _ => 2
  | .newarray _ => 2
  | .ldc _ => 2
  | .sipush _ => 3
  | .iinc _ _ => 3
  | .goto _ => 3
  | .ifCond _ _ => 3
  | .if_icmp _ _ => 3
  | .ifnull _ => 3
  | .getfield _ => 3
  | .putfield _ => 3
  | .getstatic _ => 3
  | .new _ => 3
  | .anewarray _ => 3
  | .ldc_w _ => 3
  | .ldc2_w _ => 3
  | .invokestatic _ => 3
  | .invokevirtual _ => 3
  | .invokespecial _ => 3
  | .multianewarray _ _ => 4
  | _ => 1
noncomputable def am_dkB (y pc : Nat) (i : Instr) : Bool := match i with
  | .tableswitch _ _ _ _ => (match decode (am_code y) pc with
    | .ok (j, _) => decide (j = i)
    | _ => false)
  | .lookupswitch _ _ => (match decode (am_code y) pc with
    | .ok (j, _) => decide (j = i)
    | _ => false)
  | i => decide (decode (am_code y) pc = .ok (i, am_len i))
def am_sub (j : Nat) : List Jvm.Cond := match j with
  | 0 => tables_1_1
  | 1 => tables_1_2
  | 2 => tables_1_3
  | 3 => tables_1_4
  | 4 => tables_1_5
  | 5 => tables_1_6
  | 6 => tables_1_7
  | _ => k2_sels lw_privs
theorem am_sub_in (j : Nat) : ∀ w ∈ am_sub j, w ∈ lw_tbl := by
  intro w hw
  unfold lw_tbl tables_1
  simp only [List.mem_append]
  unfold am_sub at hw
  split at hw <;> simp [hw]
def am_isw (hint : Nat) (w : Jvm.Cond) : Bool := decide ((am_sub (hint / 10000))[hint % 10000]? = some w)
theorem am_isw_mem {hint : Nat} {w : Jvm.Cond} (h : am_isw hint w = true) : w ∈ lw_tbl := am_sub_in _ w (List.mem_of_getElem? (of_decide_eq_true h))
/-- a lookupswitch's targets fit its pairs -/
def am_lok (pc : Nat) : List (Int × Int) → List (Nat × List Nat) → Bool
  | [], [] => true
  | p :: ps, t :: ts => decide ((pc : Int) + p.2 = (t.1 : Int)) && am_lok pc ps ts
  | _, _ => false
/-- a tableswitch's targets fit its offsets -/
def am_tok (pc : Nat) : List Int → List (Nat × List Nat) → Bool
  | [], [] => true
  | o :: os, t :: ts => decide ((pc : Int) + o = (t.1 : Int)) && am_tok pc os ts
  | _, _ => false
noncomputable def am_lkB (y pc : Nat) (i : Instr) (a b hint : Nat) (tg : List (Nat × List Nat)) : Bool := match i with
  | .goto off => decide ((pc : Int) + off = (a : Int))
  | .ifCond _ off => decide ((pc : Int) + off = (a : Int))
  | .if_icmp _ off => decide ((pc : Int) + off = (a : Int))
  | .ifnull off => decide ((pc : Int) + off = (a : Int))
  | .tableswitch dflt lo hi offs => (match tg with
    | [] => true
    | dd :: ts => decide ((pc : Int) + dflt = (dd.1 : Int)) && (decide (hi = lo + (ts.length : Int) - 1) && am_tok pc offs.toList ts))
  | .lookupswitch dflt ps => (match tg with
    | [] => true
    | dd :: ts => decide ((pc : Int) + dflt = (dd.1 : Int)) && ((ps.toList.zip (ps.toList.drop 1)).all (fun (a, next) => a.1 < next.1) && am_lok pc ps.toList ts))
  | .getfield idx => (match Nat.beq a 90 with
    | true => (decide (b = 0) && am_isw hint (.fieldLink (am_nm y).cls idx "java/lang/String" "value" "[B")) || (decide (b = 1) && am_isw hint (.fieldLink (am_nm y).cls idx "java/lang/String" "coder" "B"))
    | false => Nat.ble (a + 1) 8 && (Nat.ble (b + 1) (am_Nf a) && am_isw hint (.fieldLink (am_nm y).cls idx (am_T a b).1 (am_T a b).2.1 (am_T a b).2.2.1)))
  | .putfield idx => (Nat.ble (a + 1) 8 && (Nat.ble (b + 1) (am_Nf a) && am_isw hint (.fieldLink (am_nm y).cls idx (am_T a b).1 (am_T a b).2.1 (am_T a b).2.2.1))) && (decide ((am_T a b).2.2.2 = false) || (decide ((am_T a b).2.2.2 = true) && (decide ((am_nm y).name = "<init>") && decide ((am_T a b).1 = (am_nm y).cls))))
  | .getstatic idx => (decide (a = 0) && am_isw hint (.fieldLink (am_nm y).cls idx "LockedToAnothers$Kinds" "ABOVE" "[I")) || (decide (a = 1) && am_isw hint (.fieldLink (am_nm y).cls idx "java/lang/String" "COMPACT_STRINGS" "Z"))
  | .ldc idx => (match b with
    | 0 => am_isw hint (.constant (am_nm y).cls idx (Int32.ofNat a))
    | _ => decide (b = 7) && (decide (a = 0 ∧ (am_nm y).cls = "LockedToAnothers$LawBook" ∧ idx = 42) || (decide (a = 1 ∧ (am_nm y).cls = "LockedToAnothers$Reader" ∧ idx = 74) || decide (a = 2 ∧ (am_nm y).cls = "LockedToAnothers$Reader" ∧ idx = 84))))
  | .ldc_w idx => am_isw hint (.constant (am_nm y).cls idx (Int32.ofNat a))
  | .ldc2_w idx => (decide (b = 1) && am_isw hint (.constantLong (am_nm y).cls idx (Int64.ofNat a))) || (decide (b = 2) && am_isw hint (.constantLong (am_nm y).cls idx (-(Int64.ofNat a))))
  | .new idx => Nat.ble (a + 1) 8 && am_isw hint (.classLink (am_nm y).cls idx (am_R a))
  | .anewarray idx => am_isw hint (.classLink (am_nm y).cls idx RX6)
  | .multianewarray idx dm => decide (dm = 2) && am_isw hint (.classLink (am_nm y).cls idx "[[I")
  | .invokestatic idx => (match Nat.ble 9000 a with
    | false => Nat.ble (a + 1) 252 && ((decide (b = 0) && am_isw hint (.methodLink (am_nm y).cls idx (am_nm a))) || (decide (b = 1) && am_isw hint (.methodLinkNest (am_nm y).cls idx (am_nm a) "LockedToAnothers")))
    | true => (decide (a = 9001) && am_isw hint (.methodLink (am_nm y).cls idx Lib.Math.max.name)) || ((decide (a = 9002) && am_isw hint (.methodLink (am_nm y).cls idx Lib.Math.min.name)) || ((decide (a = 9003) && am_isw hint (.methodLink (am_nm y).cls idx arraycopyName)) || ((decide (a = 9004) && am_isw hint (.methodLink (am_nm y).cls idx ⟨"java/lang/String", "checkIndex", "(II)V"⟩)) || decide (a = 9005)))))
  | .invokespecial idx => (match Nat.ble 9000 a with
    | false => Nat.ble (a + 1) 252 && ((decide (b = 0) && am_isw hint (.methodLink (am_nm y).cls idx (am_nm a))) || (decide (b = 1) && am_isw hint (.methodLinkNest (am_nm y).cls idx (am_nm a) "LockedToAnothers")))
    | true => decide (a = 9999) && am_isw hint (.methodLink (am_nm y).cls idx objectInit))
  | .invokevirtual idx => (match Nat.ble 9000 a with
    | false => Nat.ble (a + 1) 252 && ((decide (b = 0) && am_isw hint (.methodLink (am_nm y).cls idx (am_nm a))) || (decide (b = 1) && am_isw hint (.methodLinkNest (am_nm y).cls idx (am_nm a) "LockedToAnothers")))
    | true => true)
  | _ => true
noncomputable def am_okB (y pc : Nat) (e : am_I) : Bool := am_dkB y pc e.1 && am_lkB y pc e.1 e.2.1 e.2.2.1 e.2.2.2.1 e.2.2.2.2.2.2
noncomputable def am_okp (y pc : Nat) : Bool := match am_tb y pc with
  | none => true
  | some e => am_okB y pc e
noncomputable def am_okR (y lo n : Nat) : Bool := (List.range n).all (fun j => am_okp y (lo + j))
def am_okM (y : Nat) : Prop := ∀ pc, pc < am_cl y → am_okp y pc = true
theorem am_chk {y lo n : Nat} (h1 : ∀ pc, pc < lo → am_okp y pc = true) (h2 : am_okR y lo n = true) : ∀ pc, pc < lo + n → am_okp y pc = true := fun pc hpc => by
  by_cases h : pc < lo
  · exact h1 pc h
  · have h3 := List.all_eq_true.mp h2 (pc - lo) (List.mem_range.mpr (by omega))
    rwa [show lo + (pc - lo) = pc by omega] at h3
theorem am_ch0 {y : Nat} : ∀ pc, pc < 0 → am_okp y pc = true := fun _ h => absurd h (Nat.not_lt_zero _)
/-- what the tables must say of a method -/
def am_mok (y : Nat) : Prop := Jvm.Cond.code (am_nm y) (am_code y) (am_ml y) (am_ret y) ∈ lw_tbl ∧ (match am_kd y with
    | 0 => Jvm.Cond.static (am_nm y)
    | _ => Jvm.Cond.instanceMethod (am_nm y)) ∈ lw_tbl ∧ (am_kd y = 1 → Jvm.Cond.selects (am_nm y).cls (am_nm y) (am_nm y) ∈ lw_tbl) ∧ (am_kd y = 1 → ((am_nm y).cls = am_R (am_ci y) ∧ am_ci y < 8) ∨ ((am_nm y).cls = "java/lang/String" ∧ am_ci y = 90)) ∧ (am_kd y = 2 → (am_nm y).name = "<init>" ∧ am_ret y = none) ∧ Jvm.Cond.initialized (am_nm y).cls ∈ lw_tbl ∧ ((am_nm y).cls ≠ "java/lang/invoke/MethodHandle" ∧ (am_nm y).cls ≠ "java/lang/invoke/VarHandle" ∧ (parseMethodDescriptor (am_nm y).desc).map (fun d => d.parameters.length) = some (am_na y)) ∧ am_ml y ≤ 40 ∧ plainName (am_nm y).cls = true

theorem am_ni0 : Jvm.Cond.instantiable (am_R 0) (am_Nf 0) ∈ lw_tbl ∧ Jvm.Cond.initialized (am_R 0) ∈ lw_tbl := ⟨List.mem_of_getElem? (i := 422) (by decide +kernel), List.mem_of_getElem? (i := 83) (by decide +kernel)⟩
theorem am_ni1 : Jvm.Cond.instantiable (am_R 1) (am_Nf 1) ∈ lw_tbl ∧ Jvm.Cond.initialized (am_R 1) ∈ lw_tbl := ⟨List.mem_of_getElem? (i := 167) (by decide +kernel), List.mem_of_getElem? (i := 74) (by decide +kernel)⟩
theorem am_ni2 : Jvm.Cond.instantiable (am_R 2) (am_Nf 2) ∈ lw_tbl ∧ Jvm.Cond.initialized (am_R 2) ∈ lw_tbl := ⟨List.mem_of_getElem? (i := 403) (by decide +kernel), List.mem_of_getElem? (i := 82) (by decide +kernel)⟩
theorem am_ni3 : Jvm.Cond.instantiable (am_R 3) (am_Nf 3) ∈ lw_tbl ∧ Jvm.Cond.initialized (am_R 3) ∈ lw_tbl := ⟨List.mem_of_getElem? (i := 98) (by decide +kernel), List.mem_of_getElem? (i := 73) (by decide +kernel)⟩
theorem am_ni4 : Jvm.Cond.instantiable (am_R 4) (am_Nf 4) ∈ lw_tbl ∧ Jvm.Cond.initialized (am_R 4) ∈ lw_tbl := ⟨List.mem_of_getElem? (i := 173) (by decide +kernel), List.mem_of_getElem? (i := 75) (by decide +kernel)⟩
theorem am_ni5 : Jvm.Cond.instantiable (am_R 5) (am_Nf 5) ∈ lw_tbl ∧ Jvm.Cond.initialized (am_R 5) ∈ lw_tbl := ⟨List.mem_of_getElem? (i := 437) (by decide +kernel), List.mem_of_getElem? (i := 84) (by decide +kernel)⟩
theorem am_ni6 : Jvm.Cond.instantiable (am_R 6) (am_Nf 6) ∈ lw_tbl ∧ Jvm.Cond.initialized (am_R 6) ∈ lw_tbl := ⟨List.mem_of_getElem? (i := 90) (by decide +kernel), List.mem_of_getElem? (i := 72) (by decide +kernel)⟩
theorem am_ni7 : Jvm.Cond.instantiable (am_R 7) (am_Nf 7) ∈ lw_tbl ∧ Jvm.Cond.initialized (am_R 7) ∈ lw_tbl := ⟨List.mem_of_getElem? (i := 978) (by decide +kernel), List.mem_of_getElem? (i := 85) (by decide +kernel)⟩
theorem am_ni {a : Nat} (h : a < 8) : Jvm.Cond.instantiable (am_R a) (am_Nf a) ∈ lw_tbl ∧ Jvm.Cond.initialized (am_R a) ∈ lw_tbl := by
  match a, h with
  | 0, _ => exact am_ni0
  | 1, _ => exact am_ni1
  | 2, _ => exact am_ni2
  | 3, _ => exact am_ni3
  | 4, _ => exact am_ni4
  | 5, _ => exact am_ni5
  | 6, _ => exact am_ni6
  | 7, _ => exact am_ni7

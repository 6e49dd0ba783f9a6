/-! ===== what a table row must say of the code and of the tables' words ===== -/
def am_stx (i : Nat) : String := match i with
  | 0 => "takes 0 ; saws 10 + sort * 5 ; minds 1 ;"
  | 1 => "();+-*<="
  | 2 => "takes saws minds or and not more sort hour thing many kind "
  | 3 => "takes more+sort*"
  | 4 => "-kind;saws many*"
  | 5 => "+thing;minds hour+more*"
  | _ => ";"
/-- where a String constant is loaded -/
def am_lds (a : Nat) (own : String) (idx : Nat) : Bool := decide (a = 0 ∧ own = "LockedToAnothers$LawBook" ∧ idx = 42) || (decide (a = 1 ∧ own = "LockedToAnothers$Reader" ∧ idx = 74) || (decide (a = 2 ∧ own = "LockedToAnothers$Reader" ∧ idx = 84) || (decide (a = 3 ∧ own = "LockedToAnothersLaw" ∧ idx = 74) || (decide (a = 4 ∧ own = "LockedToAnothersLaw" ∧ idx = 86) || (decide (a = 5 ∧ own = "LockedToAnothersLaw" ∧ idx = 88) || (decide (a = 6 ∧ own = "LockedToAnothersLaw" ∧ idx = 90)))))))
def am_len (i : Instr) : Nat := match i with
  | .bipush _ => 2
  | .iload _ => 2
  | .lload _ => 2
  | .aload _ => 2
  | .istore _ => 2
  | .lstore _ => 2
  | .astore _ => 2
  | .newarray _ => 2
  | .ldc _ => 2
  | .sipush _ => 3
  | .iinc _ _ => 3
  | .goto _ => 3
  | .ifCond _ _ => 3
  | .if_icmp _ _ => 3
  | .ifnull _ => 3
  | .ifnonnull _ => 3
  | .getfield _ => 3
  | .putfield _ => 3
  | .getstatic _ => 3
  | .new _ => 3
  | .anewarray _ => 3
  | .ldc_w _ => 3
  | .ldc2_w _ => 3
  | .invokestatic _ => 3
  | .invokevirtual _ => 3
  | .invokespecial _ => 3
  | .multianewarray _ _ => 4
  | _ => 1
noncomputable def am_dkB (y pc : Nat) (i : Instr) : Bool := match i with
  | .tableswitch _ _ _ _ => (match decode (am_code y) pc with
    | .ok (j, _) => decide (j = i)
    | _ => false)
  | .lookupswitch _ _ => (match decode (am_code y) pc with
    | .ok (j, _) => decide (j = i)
    | _ => false)
  | i => decide (decode (am_code y) pc = .ok (i, am_len i))
def am_sub (j : Nat) : List Jvm.Cond := match j with
  | 0 => tables_1_1
  | 1 => tables_1_2
  | 2 => tables_1_3
  | 3 => tables_1_4
  | 4 => k2_sels lw_privs
  | _ => am_selj
theorem am_sub_in (j : Nat) : ∀ w ∈ am_sub j, w ∈ wt_tbl := by
  intro w hw
  unfold wt_tbl lw_tbl tables_1
  simp only [List.mem_append]
  unfold am_sub at hw
  split at hw <;> simp [hw]
def am_isw (hint : Nat) (w : Jvm.Cond) : Bool := decide ((am_sub (hint / 10000))[hint % 10000]? = some w)
theorem am_isw_mem {hint : Nat} {w : Jvm.Cond} (h : am_isw hint w = true) : w ∈ wt_tbl := am_sub_in _ w (List.mem_of_getElem? (of_decide_eq_true h))
/-- a lookupswitch's targets fit its pairs -/
def am_lok (pc : Nat) : List (Int × Int) → List (Nat × List Nat) → Bool
  | [], [] => true
  | p :: ps, t :: ts => decide ((pc : Int) + p.2 = (t.1 : Int)) && am_lok pc ps ts
  | _, _ => false
/-- a tableswitch's targets fit its offsets -/
def am_tok (pc : Nat) : List Int → List (Nat × List Nat) → Bool
  | [], [] => true
  | o :: os, t :: ts => decide ((pc : Int) + o = (t.1 : Int)) && am_tok pc os ts
  | _, _ => false
noncomputable def am_lkB (y pc : Nat) (i : Instr) (a b hint : Nat) (tg : List (Nat × List Nat)) : Bool := match i with
  | .goto off => decide ((pc : Int) + off = (a : Int))
  | .ifCond _ off => decide ((pc : Int) + off = (a : Int))
  | .if_icmp _ off => decide ((pc : Int) + off = (a : Int))
  | .ifnull off => decide ((pc : Int) + off = (a : Int))
  | .ifnonnull off => decide ((pc : Int) + off = (a : Int))
  | .tableswitch dflt lo hi offs => (match tg with
    | [] => true
    | dd :: ts => decide ((pc : Int) + dflt = (dd.1 : Int)) && (decide (hi = lo + (ts.length : Int) - 1) && am_tok pc offs.toList ts))
  | .lookupswitch dflt ps => (match tg with
    | [] => true
    | dd :: ts => decide ((pc : Int) + dflt = (dd.1 : Int)) && ((ps.toList.zip (ps.toList.drop 1)).all (fun (a, next) => a.1 < next.1) && am_lok pc ps.toList ts))
  | .getfield idx => Nat.ble (a + 1) 9 && (Nat.ble (b + 1) (am_Nf a) && am_isw hint (.fieldLink (am_nm y).cls idx (am_T a b).1 (am_T a b).2.1 (am_T a b).2.2.1))
  | .putfield idx => (Nat.ble (a + 1) 9 && (Nat.ble (b + 1) (am_Nf a) && am_isw hint (.fieldLink (am_nm y).cls idx (am_T a b).1 (am_T a b).2.1 (am_T a b).2.2.1))) && (decide ((am_T a b).2.2.2 = false) || (decide ((am_T a b).2.2.2 = true) && (decide ((am_nm y).name = "<init>") && decide ((am_T a b).1 = (am_nm y).cls))))
  | .getstatic idx => (decide (a = 0) && am_isw hint (.fieldLink (am_nm y).cls idx "LockedToAnothers$Kinds" "ABOVE" "[I")) || ((decide (a = 1) && am_isw hint (.fieldLink (am_nm y).cls idx "java/lang/String" "COMPACT_STRINGS" "Z")) || (decide (a = 2) && am_isw hint (.fieldLink (am_nm y).cls idx "java/lang/Integer" "DigitOnes" "[B")))
  | .ldc idx => (match b with
    | 0 => am_isw hint (.constant (am_nm y).cls idx (Int32.ofNat a))
    | _ => decide (b = 7) && am_lds a (am_nm y).cls idx)
  | .ldc_w idx => am_isw hint (.constant (am_nm y).cls idx (Int32.ofNat a))
  | .ldc2_w idx => (decide (b = 1) && am_isw hint (.constantLong (am_nm y).cls idx (Int64.ofNat a))) || (decide (b = 2) && am_isw hint (.constantLong (am_nm y).cls idx (-(Int64.ofNat a))))
  | .new idx => Nat.ble (a + 1) 9 && am_isw hint (.classLink (am_nm y).cls idx (am_R a))
  | .anewarray idx => am_isw hint (.classLink (am_nm y).cls idx RX6)
  | .multianewarray idx dm => decide (dm = 2) && am_isw hint (.classLink (am_nm y).cls idx "[[I")
  | .invokestatic idx => (match Nat.ble 9000 a with
    | false => Nat.ble (a + 1) 129 && ((decide (b = 0) && am_isw hint (.methodLink (am_nm y).cls idx (am_nm a))) || (decide (b = 1) && am_isw hint (.methodLinkNest (am_nm y).cls idx (am_nm a) "LockedToAnothers")))
    | true => (decide (a = 9001) && am_isw hint (.methodLink (am_nm y).cls idx Lib.Math.max.name)) || ((decide (a = 9002) && am_isw hint (.methodLink (am_nm y).cls idx Lib.Math.min.name)) || ((decide (a = 9003) && am_isw hint (.methodLink (am_nm y).cls idx arraycopyName)) || ((decide (a = 9004) && am_isw hint (.methodLink (am_nm y).cls idx ⟨"java/lang/String", "checkIndex", "(II)V"⟩)) || decide (a = 9005)))))
  | .invokespecial idx => (match Nat.ble 9000 a with
    | false => Nat.ble (a + 1) 129 && ((decide (b = 0) && am_isw hint (.methodLink (am_nm y).cls idx (am_nm a))) || (decide (b = 1) && am_isw hint (.methodLinkNest (am_nm y).cls idx (am_nm a) "LockedToAnothers")))
    | true => decide (a = 9999) && am_isw hint (.methodLink (am_nm y).cls idx objectInit))
  | .invokevirtual idx => (match Nat.ble 9000 a with
    | false => Nat.ble (a + 1) 129 && ((decide (b = 2) && (decide (am_nm a = ⟨"java/lang/StringBuilder", "length", "()I"⟩) && am_isw hint (.methodLink (am_nm y).cls idx ⟨"java/lang/AbstractStringBuilder", "length", "()I"⟩))) || (decide (b = 0) && am_isw hint (.methodLink (am_nm y).cls idx (am_nm a))) || (decide (b = 1) && am_isw hint (.methodLinkNest (am_nm y).cls idx (am_nm a) "LockedToAnothers")))
    | true => true)
  | _ => true
noncomputable def am_okB (y pc : Nat) (e : am_I) : Bool := am_dkB y pc e.1 && am_lkB y pc e.1 e.2.1 e.2.2.1 e.2.2.2.1 e.2.2.2.2.2.2
noncomputable def am_okp (y pc : Nat) : Bool := match am_tb y pc with
  | none => true
  | some e => am_okB y pc e
noncomputable def am_okR (y lo n : Nat) : Bool := (List.range n).all (fun j => am_okp y (lo + j))
def am_okM (y : Nat) : Prop := ∀ pc, pc < am_cl y → am_okp y pc = true
theorem am_chk {y lo n : Nat} (h1 : ∀ pc, pc < lo → am_okp y pc = true) (h2 : am_okR y lo n = true) : ∀ pc, pc < lo + n → am_okp y pc = true := fun pc hpc => by
  by_cases h : pc < lo
  · exact h1 pc h
  · have h3 := List.all_eq_true.mp h2 (pc - lo) (List.mem_range.mpr (by omega))
    rwa [show lo + (pc - lo) = pc by omega] at h3
theorem am_ch0 {y : Nat} : ∀ pc, pc < 0 → am_okp y pc = true := fun _ h => absurd h (Nat.not_lt_zero _)
/-- what the tables must say of a method -/
def am_mok (y : Nat) : Prop := Jvm.Cond.code (am_nm y) (am_code y) (am_ml y) (am_ret y) ∈ wt_tbl ∧ (match am_kd y with
    | 0 => Jvm.Cond.static (am_nm y)
    | _ => Jvm.Cond.instanceMethod (am_nm y)) ∈ wt_tbl ∧ (am_kd y = 1 → Jvm.Cond.selects (am_nm y).cls (am_nm y) (am_nm y) ∈ wt_tbl) ∧ (am_kd y = 1 → (am_nm y).cls = am_R (am_ci y) ∧ am_ci y < 9) ∧ (am_kd y = 2 → (am_nm y).name = "<init>" ∧ am_ret y = none) ∧ Jvm.Cond.initialized (am_nm y).cls ∈ wt_tbl ∧ ((am_nm y).cls ≠ "java/lang/invoke/MethodHandle" ∧ (am_nm y).cls ≠ "java/lang/invoke/VarHandle" ∧ (parseMethodDescriptor (am_nm y).desc).map (fun d => d.parameters.length) = some (am_na y)) ∧ am_ml y ≤ 40 ∧ plainName (am_nm y).cls = true ∧ (am_kd y = 3 → (am_nm y).cls = "java/lang/AbstractStringBuilder" ∧ Jvm.Cond.sameMethod (am_nm y).cls (am_nm y).cls (am_nm y).name (am_nm y).desc ∈ wt_tbl ∧ Jvm.Cond.selects "java/lang/StringBuilder" (am_nm y) (am_nm y) ∈ wt_tbl) ∧ (am_kd y = 4 → (am_nm y).cls = "java/lang/AbstractStringBuilder" ∧ (am_nm y).name ≠ "<init>" ∧ Jvm.Cond.sameMethod (am_nm y).cls (am_nm y).cls (am_nm y).name (am_nm y).desc ∈ wt_tbl)

theorem am_ni0 : Jvm.Cond.instantiable (am_R 0) (am_Nf 0) ∈ wt_tbl ∧ Jvm.Cond.initialized (am_R 0) ∈ wt_tbl := ⟨List.mem_of_getElem? (i := 368) (by decide +kernel), List.mem_of_getElem? (i := 31) (by decide +kernel)⟩
theorem am_ni1 : Jvm.Cond.instantiable (am_R 1) (am_Nf 1) ∈ wt_tbl ∧ Jvm.Cond.initialized (am_R 1) ∈ wt_tbl := ⟨List.mem_of_getElem? (i := 113) (by decide +kernel), List.mem_of_getElem? (i := 22) (by decide +kernel)⟩
theorem am_ni2 : Jvm.Cond.instantiable (am_R 2) (am_Nf 2) ∈ wt_tbl ∧ Jvm.Cond.initialized (am_R 2) ∈ wt_tbl := ⟨List.mem_of_getElem? (i := 349) (by decide +kernel), List.mem_of_getElem? (i := 30) (by decide +kernel)⟩
theorem am_ni3 : Jvm.Cond.instantiable (am_R 3) (am_Nf 3) ∈ wt_tbl ∧ Jvm.Cond.initialized (am_R 3) ∈ wt_tbl := ⟨List.mem_of_getElem? (i := 50) (by decide +kernel), List.mem_of_getElem? (i := 21) (by decide +kernel)⟩
theorem am_ni4 : Jvm.Cond.instantiable (am_R 4) (am_Nf 4) ∈ wt_tbl ∧ Jvm.Cond.initialized (am_R 4) ∈ wt_tbl := ⟨List.mem_of_getElem? (i := 119) (by decide +kernel), List.mem_of_getElem? (i := 23) (by decide +kernel)⟩
theorem am_ni5 : Jvm.Cond.instantiable (am_R 5) (am_Nf 5) ∈ wt_tbl ∧ Jvm.Cond.initialized (am_R 5) ∈ wt_tbl := ⟨List.mem_of_getElem? (i := 382) (by decide +kernel), List.mem_of_getElem? (i := 32) (by decide +kernel)⟩
theorem am_ni6 : Jvm.Cond.instantiable (am_R 6) (am_Nf 6) ∈ wt_tbl ∧ Jvm.Cond.initialized (am_R 6) ∈ wt_tbl := ⟨List.mem_of_getElem? (i := 42) (by decide +kernel), List.mem_of_getElem? (i := 20) (by decide +kernel)⟩
theorem am_ni7 : Jvm.Cond.instantiable (am_R 7) (am_Nf 7) ∈ wt_tbl ∧ Jvm.Cond.initialized (am_R 7) ∈ wt_tbl := ⟨List.mem_of_getElem? (i := 662) (by decide +kernel), List.mem_of_getElem? (i := 36) (by decide +kernel)⟩
theorem am_ni8 : Jvm.Cond.instantiable (am_R 8) (am_Nf 8) ∈ wt_tbl ∧ Jvm.Cond.initialized (am_R 8) ∈ wt_tbl := ⟨List.mem_of_getElem? (i := 813) (by decide +kernel), List.mem_of_getElem? (i := 24) (by decide +kernel)⟩
theorem am_ni {a : Nat} (h : a < 9) : Jvm.Cond.instantiable (am_R a) (am_Nf a) ∈ wt_tbl ∧ Jvm.Cond.initialized (am_R a) ∈ wt_tbl := by
  match a, h with
  | 0, _ => exact am_ni0
  | 1, _ => exact am_ni1
  | 2, _ => exact am_ni2
  | 3, _ => exact am_ni3
  | 4, _ => exact am_ni4
  | 5, _ => exact am_ni5
  | 6, _ => exact am_ni6
  | 7, _ => exact am_ni7
  | 8, _ => exact am_ni8

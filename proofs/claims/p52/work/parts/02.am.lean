/-! ===== AN ABSTRACT MACHINE: the methods' own bytecode over a heap of cells whose references are PLACES in the heap's list; what one instruction asks and does is a proposition ===== -/
/-- a cell: an array (its kind 0 int, 1 long, 2 Sheet, 3 int[], 4 byte; length, contents), or an object (class, fields) -/
abbrev am_C : Type := (Nat × vp_A) ⊕ (Nat × List Value)
abbrev am_H : Type := List am_C
abbrev am_L : Type := List (Nat × Value)
/-- pc, locals, operand stack, heap, cells and slots made so far -/
abbrev am_S : Type := Nat × am_L × List Value × am_H × Nat × Nat
/-- an instruction; a, b: what it is linked to (target; class and field; method; constant); the place of its word in lw_tbl; the locals that live on behind it, and at its target; a switch's targets -/
abbrev am_I : Type := Instr × Nat × Nat × Nat × Option (List Nat) × Option (List Nat) × List (Nat × List Nat)
def am_pick (ks : Option (List Nat)) (lv : am_L) : am_L := match ks with
  | none => lv
  | some ks => ks.filterMap (fun k => lv.find? (fun q => Nat.beq q.1 k))
def am_get (lv : am_L) (i : Nat) : Option Value := match lv with
  | [] => none
  | q :: r => match Nat.beq q.1 i with
    | true => some q.2
    | false => am_get r i
def am_set1 (i : Nat) (v : Value) (lv : am_L) : am_L := (i, v) :: lv.filter (fun q => !(q.1 == i) && !(q.1 + 1 == i && q.2.category == 2))
def am_set2 (i : Nat) (v : Value) (lv : am_L) : am_L := (i, v) :: lv.filter (fun q => !(q.1 == i) && (!(q.1 == i + 1) && !(q.1 + 1 == i && q.2.category == 2)))
def am_b (b : Bool) (P : Prop) : Prop := match b with
  | true => P
  | false => False
def am_i1 (st : List Value) (K : Int32 → List Value → Prop) : Prop := match st with
  | .int x :: r => K x r
  | _ => False
def am_i2 (st : List Value) (K : Int32 → Int32 → List Value → Prop) : Prop := match st with
  | .int y :: .int x :: r => K x y r
  | _ => False
def am_l1 (st : List Value) (K : Int64 → List Value → Prop) : Prop := match st with
  | .long x :: r => K x r
  | _ => False
def am_l2 (st : List Value) (K : Int64 → Int64 → List Value → Prop) : Prop := match st with
  | .long y :: .long x :: r => K x y r
  | _ => False
def am_r1 (st : List Value) (K : Nat → List Value → Prop) : Prop := match st with
  | .ref a :: r => K a r
  | _ => False
def am_ov (o : Option Value) (K : Value → Prop) : Prop := match o with
  | some v => K v
  | none => False
def am_oi (o : Option Value) (K : Int32 → Prop) : Prop := match o with
  | some (.int v) => K v
  | _ => False
def am_ol (o : Option Value) (K : Int64 → Prop) : Prop := match o with
  | some (.long v) => K v
  | _ => False
def am_oa (o : Option Value) (K : Nat → Prop) : Prop := match o with
  | some (.ref v) => K v
  | _ => False
def am_obj (h : am_H) (r : Nat) (K : Nat → List Value → Prop) : Prop := match h[r]? with
  | some (.inr o) => K o.1 o.2
  | _ => False
def am_arr (h : am_H) (r : Nat) (K : Nat → vp_A → Prop) : Prop := match h[r]? with
  | some (.inl o) => K o.1 o.2
  | _ => False
def am_ai (a : vp_A) (K : (Nat → Int32) → Prop) : Prop := match a.2 with
  | .inl f => K f
  | _ => False
def am_al (a : vp_A) (K : (Nat → Int64) → Prop) : Prop := match a.2 with
  | .inr (.inl f) => K f
  | _ => False
def am_aq (a : vp_A) (K : (Nat → Option Nat) → Prop) : Prop := match a.2 with
  | .inr (.inr (.inr (.inr f))) => K f
  | _ => False
/-- the arguments off the stack, the last first -/
def am_take : Nat → List Value → List Value → Option (List Value × List Value)
  | 0, acc, st => some (acc, st)
  | n + 1, acc, v :: st => am_take n (v :: acc) st
  | _ + 1, _, [] => none
/-- no reference to a place from lo up to below hi -/
def am_nr (lo hi : Nat) (v : Value) : Bool := match v with
  | .ref a => !(Nat.ble lo a && Nat.ble (a + 1) hi)
  | _ => true
def am_nc (lo hi : Nat) (c : am_C) : Bool := match c with
  | .inr o => o.2.all (am_nr lo hi)
  | .inl (_, n, .inr (.inr (.inr (.inr f)))) => (List.range n).all (fun i => match f i with
    | some a => am_nr lo hi (.ref a)
    | none => true)
  | .inl _ => true
def am_nh (lo hi : Nat) (lv : am_L) (st : List Value) (h : am_H) : Bool := lv.all (fun q => am_nr lo hi q.2) && (st.all (am_nr lo hi) && h.all (am_nc lo hi))
def am_cat (st : List Value) : Nat := (st.map fun v => v.category).sum
/-- a static array's place; String constants' places -/
def am_pX : Nat := 2000000
def am_pS : Nat := 3000000
/-- the law's script -/
def am_pL : Nat := 2500000
def am_above (j : Nat) : Int32 := match j with
  | 0 => -1
  | 1 => 0
  | 2 => 0
  | 3 => 1
  | 4 => 2
  | _ => 0
def am_sw (x : Int32) (K : Nat × List Nat → Prop) (d : Nat × List Nat) : Int → List (Nat × List Nat) → Prop
  | _, [] => K d
  | j, t :: ts => (x.toInt = j → K t) ∧ (¬ x.toInt = j → am_sw x K d (j + 1) ts)
def am_lw (x : Int32) (K : Nat × List Nat → Prop) (d : Nat × List Nat) : List (Int × Int) → List (Nat × List Nat) → Prop
  | p :: ps, t :: ts => (x.toInt = p.1 → K t) ∧ (¬ x.toInt = p.1 → am_lw x K d ps ts)
  | _, _ => K d
/-- what a method does: its number, arguments, heap; answer, heap, cells and slots made -/
abbrev am_E : Type := Nat → List Value → am_H → Option Value → am_H → Nat → Nat → Prop
def am_ty (ci k : Nat) : FieldType := match ci with
  | 0 => tyX0 k
  | 1 => tyX2 k
  | 2 => tyX3 k
  | 3 => tyX4 k
  | 4 => tyX5 k
  | 5 => tyX6 k
  | 6 => tyX7 k
  | 7 => tyJ4 k
  | _ => tyJ0 k
def am_T (ci : Nat) : u_T := match ci with
  | 0 => TX0
  | 1 => TX2
  | 2 => TX3
  | 3 => TX4
  | 4 => TX5
  | 5 => TX6
  | 6 => TX7
  | 7 => TJ4
  | _ => TJ0
def am_R (ci : Nat) : String := match ci with
  | 0 => RX0
  | 1 => RX2
  | 2 => RX3
  | 3 => RX4
  | 4 => RX5
  | 5 => RX6
  | 6 => RX7
  | 7 => RJ4
  | _ => RJ0
def am_Nf (ci : Nat) : Nat := match ci with
  | 0 => 2
  | 1 => 8
  | 2 => 4
  | 3 => 12
  | 4 => 9
  | 5 => 3
  | 6 => 10
  | 7 => 4
  | _ => 4
def am_dfl (ci : Nat) : List Value := (List.range (am_Nf ci)).map (fun k => defaultValue (am_ty ci k))

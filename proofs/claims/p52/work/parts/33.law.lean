/-! ===== the law as a function ===== -/
def F_W_law_252 (L : Nat) (xs : Nat → Int32) (u : am_U) : Option (Int32) :=
  some (nI 0)
def F_W_law_902 (L : Nat) (xs : Nat → Int32) (s0 : Int32) (u : am_U) : Option (Int32) :=
  some s0
def F_W_law_901 (L : Nat) (xs : Nat → Int32) (u : am_U) : Option (Int32) :=
  F_W_law_902 L xs (nI 0) u
def F_W_law_871 (L : Nat) (xs : Nat → Int32) (u : am_U) : Option Int32 :=
  some (nI 1)
def F_W_law_735 (L : Nat) (xs : Nat → Int32) (r735 : Int32 → Int32 → Int32 → Int32 → am_U → Option (Int32)) (a3 : Int32) (a4 : Int32) (a5 : Int32) (a7 : Int32) (u : am_U) : Option (Int32) :=
  if a3 ≤ a7 then ((F_Loc_free u.1).bind fun q7 => am_ck (am_in (nI 0) 160) (if q7.1 = (a5 &&& (((q7.2, u.2).2 (nI 0).toNatClampNeg).toInt32 ^^^ (-nI 1))) then ((F_Loc_holds (nI 8) (q7.2, u.2).1).bind fun q8 => if q8.1 = (-nI 5) then ((F_Loc_waits (nI 8) (q8.2, (q7.2, u.2).2).1).bind fun q9 => if q9.1 = (-nI 5) then ((F_Loc_go (nI 8) (q9.2, (q8.2, (q7.2, u.2).2).2).1).bind fun q10 => if q10.1 = (-nI 5) then ((F_Loc_saw (nI 10) (q10.2, (q9.2, (q8.2, (q7.2, u.2).2).2).2).1).bind fun q11 => if q11.1 = (-nI 5) then ((F_Loc_told (nI 8) (nI 0) (q11.2, (q10.2, (q9.2, (q8.2, (q7.2, u.2).2).2).2).2).1).bind fun q12 => if q12.1 = (-nI 5) then ((F_Loc_told (nI 0) (nI 4) (q12.2, (q11.2, (q10.2, (q9.2, (q8.2, (q7.2, u.2).2).2).2).2).2).1).bind fun q13 => if q13.1 = (-nI 7) then ((F_Loc_lockTold (nI 10) (nI 0) (q13.2, (q12.2, (q11.2, (q10.2, (q9.2, (q8.2, (q7.2, u.2).2).2).2).2).2).2).1).bind fun q14 => if q14.1 = (-nI 5) then (if a4 = 0 then (F_W_law_871 L xs (q14.2, (q13.2, (q12.2, (q11.2, (q10.2, (q9.2, (q8.2, (q7.2, u.2).2).2).2).2).2).2).2)) else ((F_Loc_lockTold (nI 0) (nI 5) (q14.2, (q13.2, (q12.2, (q11.2, (q10.2, (q9.2, (q8.2, (q7.2, u.2).2).2).2).2).2).2).2).1).bind fun q15 => if q15.1 = (-nI 7) then (F_W_law_871 L xs (q15.2, (q14.2, (q13.2, (q12.2, (q11.2, (q10.2, (q9.2, (q8.2, (q7.2, u.2).2).2).2).2).2).2).2).2)) else (F_W_law_901 L xs (q15.2, (q14.2, (q13.2, (q12.2, (q11.2, (q10.2, (q9.2, (q8.2, (q7.2, u.2).2).2).2).2).2).2).2).2)))) else (F_W_law_901 L xs (q14.2, (q13.2, (q12.2, (q11.2, (q10.2, (q9.2, (q8.2, (q7.2, u.2).2).2).2).2).2).2).2))) else (F_W_law_901 L xs (q13.2, (q12.2, (q11.2, (q10.2, (q9.2, (q8.2, (q7.2, u.2).2).2).2).2).2).2))) else (F_W_law_901 L xs (q12.2, (q11.2, (q10.2, (q9.2, (q8.2, (q7.2, u.2).2).2).2).2).2))) else (F_W_law_901 L xs (q11.2, (q10.2, (q9.2, (q8.2, (q7.2, u.2).2).2).2).2))) else (F_W_law_901 L xs (q10.2, (q9.2, (q8.2, (q7.2, u.2).2).2).2))) else (F_W_law_901 L xs (q9.2, (q8.2, (q7.2, u.2).2).2))) else (F_W_law_901 L xs (q8.2, (q7.2, u.2).2))) else (some (nI 0)))) else ((F_Loc_holds a7 u.1).bind fun q16 => if q16.1 = 0 then (r735 a3 a4 a5 (a7 + (nI 1)) (q16.2, u.2)) else (some (nI 0)))
def L_W_law_735 (L : Nat) (xs : Nat → Int32) : Nat → Int32 → Int32 → Int32 → Int32 → am_U → Option (Int32)
  | 0, _, _, _, _, _ => none
  | n + 1, a3, a4, a5, a7, u => F_W_law_735 L xs (L_W_law_735 L xs n) a3 a4 a5 a7 u
def F_W_law_694 (L : Nat) (xs : Nat → Int32) (u : am_U) : Option (Int32) :=
  some (nI 0)
def F_W_law_711 (L : Nat) (xs : Nat → Int32) (r599 : Int32 → Int32 → Int32 → Int32 → am_U → Option (Int32)) (a3 : Int32) (a4 : Int32) (a5 : Int32) (a7 : Int32) (u : am_U) : Option (Int32) :=
  (F_Loc_count (nI 3) u.1).bind fun q19 => am_ck (am_in (nI 1) 160) (if (lg_cmp q19.1.toInt64 ((q19.2, u.2).2 (nI 1).toNatClampNeg)) = 0 then (r599 a3 a4 a5 (a7 + (nI 1)) (q19.2, u.2)) else (some (nI 0)))
def F_W_law_691 (L : Nat) (xs : Nat → Int32) (r599 : Int32 → Int32 → Int32 → Int32 → am_U → Option (Int32)) (a3 : Int32) (a4 : Int32) (a5 : Int32) (a7 : Int32) (a8 : Int32) (s0 : Int32) (s1 : Int32) (u : am_U) : Option (Int32) :=
  if s1 = s0 then (if a8 = 0 then (F_W_law_711 L xs r599 a3 a4 a5 a7 u) else (am_ck (am_in (nI 1) 160) (am_ck (am_in (nI 1) 160) (am_lt (hst u (nI 1) ((u.2 (nI 1).toNatClampNeg) ||| ((lN 1) <<< (a7.toInt64 &&& 63)))) fun u20 => F_W_law_711 L xs r599 a3 a4 a5 a7 u20)))) else (F_W_law_694 L xs u)
def F_W_law_660 (L : Nat) (xs : Nat → Int32) (r599 : Int32 → Int32 → Int32 → Int32 → am_U → Option (Int32)) (a3 : Int32) (a4 : Int32) (a5 : Int32) (a7 : Int32) (a8 : Int32) (s0 : Int32) (s1 : Int32) (u : am_U) : Option (Int32) :=
  if s1 = s0 then ((F_Loc_saw a7 u.1).bind fun q18 => if a8 = 0 then (F_W_law_691 L xs r599 a3 a4 a5 a7 a8 (-nI 3) q18.1 (q18.2, u.2)) else ((F_W_owner L xs a7).bind fun q21 => (F_W_saws L xs q21 a7).bind fun q22 => F_W_law_691 L xs r599 a3 a4 a5 a7 a8 q22 q18.1 (q18.2, u.2))) else (F_W_law_694 L xs u)
def F_W_law_641 (L : Nat) (xs : Nat → Int32) (r599 : Int32 → Int32 → Int32 → Int32 → am_U → Option (Int32)) (a3 : Int32) (a4 : Int32) (a5 : Int32) (a7 : Int32) (s0 : Int32) (u : am_U) : Option (Int32) :=
  (F_Loc_lockTold a7 (nI 4) u.1).bind fun q17 => if s0 = 0 then (F_W_law_660 L xs r599 a3 a4 a5 a7 s0 (nI 0) q17.1 (q17.2, u.2)) else (F_W_law_660 L xs r599 a3 a4 a5 a7 s0 (nI 1) q17.1 (q17.2, u.2))
def F_W_law_640 (L : Nat) (xs : Nat → Int32) (r599 : Int32 → Int32 → Int32 → Int32 → am_U → Option (Int32)) (a3 : Int32) (a4 : Int32) (a5 : Int32) (a7 : Int32) (u : am_U) : Option (Int32) :=
  F_W_law_641 L xs r599 a3 a4 a5 a7 (nI 0) u
def F_W_law_599 (L : Nat) (xs : Nat → Int32) (r599 : Int32 → Int32 → Int32 → Int32 → am_U → Option (Int32)) (a3 : Int32) (a4 : Int32) (a5 : Int32) (a7 : Int32) (u : am_U) : Option (Int32) :=
  if a4 ≤ a7 then (L_W_law_735 L xs am_NF a3 a4 a5 (nI 0) u) else (am_ck (am_in (nI 1) 160) (if (lg_cmp (((u.2 (nI 1).toNatClampNeg) >>> (a7.toInt64 &&& 63)) &&& (lN 1)) (lN 0)) = 0 then (am_ck (am_in (nI 0) 160) ((F_W_owner L xs a7).bind fun q23 => if (lg_cmp (((u.2 (nI 0).toNatClampNeg) >>> (q23.toInt64 &&& 63)) &&& (lN 1)) (lN 0)) = 0 then (F_W_law_641 L xs r599 a3 a4 a5 a7 (nI 1) u) else (F_W_law_640 L xs r599 a3 a4 a5 a7 u))) else (F_W_law_640 L xs r599 a3 a4 a5 a7 u)))
def L_W_law_599 (L : Nat) (xs : Nat → Int32) : Nat → Int32 → Int32 → Int32 → Int32 → am_U → Option (Int32)
  | 0, _, _, _, _, _ => none
  | n + 1, a3, a4, a5, a7, u => F_W_law_599 L xs (L_W_law_599 L xs n) a3 a4 a5 a7 u
def F_W_law_588 (L : Nat) (xs : Nat → Int32) (u : am_U) : Option (Int32) :=
  some (nI 0)
def F_W_law_558 (L : Nat) (xs : Nat → Int32) (r480 : Int32 → Int32 → Int32 → Int32 → am_U → Option (Int32)) (a3 : Int32) (a4 : Int32) (a5 : Int32) (a7 : Int32) (u : am_U) : Option (Int32) :=
  (F_Loc_count (nI 2) u.1).bind fun q27 => am_ck (am_in (nI 0) 160) (if (lg_cmp q27.1.toInt64 ((q27.2, u.2).2 (nI 0).toNatClampNeg)) = 0 then ((F_Loc_never (q27.2, u.2).1).bind fun q28 => (F_W_last L xs (q28.2, (q27.2, u.2).2)).bind fun q29 => if q28.1 = (a5 &&& (q29.1 ^^^ (-nI 1))) then (r480 a3 a4 a5 (a7 + (nI 1)) q29.2) else (F_W_law_588 L xs q29.2)) else (F_W_law_588 L xs (q27.2, u.2)))
def F_W_law_538 (L : Nat) (xs : Nat → Int32) (r480 : Int32 → Int32 → Int32 → Int32 → am_U → Option (Int32)) (a3 : Int32) (a4 : Int32) (a5 : Int32) (a7 : Int32) (a8 : Int32) (a9 : Int32) (s0 : Int32) (s1 : Int32) (u : am_U) : Option (Int32) :=
  if s1 = s0 then (if a9 = 0 then (F_W_law_558 L xs r480 a3 a4 a5 a7 u) else (am_ck (am_in (nI 0) 160) (am_ck (am_in (nI 0) 160) (am_lt (hst u (nI 0) ((u.2 (nI 0).toNatClampNeg) ||| ((lN 1) <<< (a8.toInt64 &&& 63)))) fun u30 => F_W_law_558 L xs r480 a3 a4 a5 a7 u30)))) else (some (nI 0))
def F_W_law_480 (L : Nat) (xs : Nat → Int32) (r480 : Int32 → Int32 → Int32 → Int32 → am_U → Option (Int32)) (a3 : Int32) (a4 : Int32) (a5 : Int32) (a7 : Int32) (u : am_U) : Option (Int32) :=
  if (nI 5) ≤ a7 then (L_W_law_599 L xs am_NF a3 a4 a5 (nI 0) u) else ((F_W_at L xs (nI 10)).bind fun q24 => if a3 = 0 then none else ((F_W_can L xs (((q24 >>> (((nI 2) * a7) &&& 31)) &&& (nI 3)) - ((q24 >>> (((nI 2) * a7) &&& 31)) &&& (nI 3)) / a3 * a3) u).bind fun q25 => (F_Loc_go (((q24 >>> (((nI 2) * a7) &&& 31)) &&& (nI 3)) - ((q24 >>> (((nI 2) * a7) &&& 31)) &&& (nI 3)) / a3 * a3) q25.2.1).bind fun q26 => if q25.1 = 0 then (F_W_law_538 L xs r480 a3 a4 a5 a7 (((q24 >>> (((nI 2) * a7) &&& 31)) &&& (nI 3)) - ((q24 >>> (((nI 2) * a7) &&& 31)) &&& (nI 3)) / a3 * a3) q25.1 (-nI 3) q26.1 (q26.2, q25.2.2)) else (am_ck (am_in (nI 0) 160) ((F_W_lbits L xs ((q26.2, q25.2.2).2 (nI 0).toNatClampNeg)).bind fun q31 => F_W_law_538 L xs r480 a3 a4 a5 a7 (((q24 >>> (((nI 2) * a7) &&& 31)) &&& (nI 3)) - ((q24 >>> (((nI 2) * a7) &&& 31)) &&& (nI 3)) / a3 * a3) q25.1 ((a3 - q31) - (nI 1)) q26.1 (q26.2, q25.2.2)))))
def L_W_law_480 (L : Nat) (xs : Nat → Int32) : Nat → Int32 → Int32 → Int32 → Int32 → am_U → Option (Int32)
  | 0, _, _, _, _, _ => none
  | n + 1, a3, a4, a5, a7, u => F_W_law_480 L xs (L_W_law_480 L xs n) a3 a4 a5 a7 u
def F_W_law_431 (L : Nat) (xs : Nat → Int32) (u : am_U) : Option (Int32) :=
  some (nI 0)
def F_W_law_471 (L : Nat) (xs : Nat → Int32) (r371 : Int32 → Int32 → Int32 → Int32 → Int32 → am_U → Option (Int32)) (a3 : Int32) (a4 : Int32) (a5 : Int32) (a6 : Int32) (a7 : Int32) (u : am_U) : Option (Int32) :=
  r371 a3 a4 a5 a6 (a7 + (nI 1)) u
def F_W_law_469 (L : Nat) (xs : Nat → Int32) (u : am_U) : Option (Int32) :=
  some (nI 0)
def F_W_law_448 (L : Nat) (xs : Nat → Int32) (r371 : Int32 → Int32 → Int32 → Int32 → Int32 → am_U → Option (Int32)) (a3 : Int32) (a4 : Int32) (a5 : Int32) (a6 : Int32) (a7 : Int32) (u : am_U) : Option (Int32) :=
  if ((a6 >>> (a7 &&& 31)) &&& (nI 1)) = (nI 1) then ((F_Loc_first a7 (nI 1) u.1).bind fun q34 => if q34.1 = 0 then (F_W_law_471 L xs r371 a3 a4 a5 a6 a7 (q34.2, u.2)) else (F_W_law_469 L xs (q34.2, u.2))) else (F_W_law_471 L xs r371 a3 a4 a5 a6 a7 u)
def F_W_law_433 (L : Nat) (xs : Nat → Int32) (r371 : Int32 → Int32 → Int32 → Int32 → Int32 → am_U → Option (Int32)) (a3 : Int32) (a4 : Int32) (a5 : Int32) (a6 : Int32) (a7 : Int32) (a8 : Int32) (u : am_U) : Option (Int32) :=
  if a8 = 0 then (F_W_law_448 L xs r371 a3 a4 a5 a6 a7 u) else ((F_Loc_first a7 (nI 1) u.1).bind fun q35 => if q35.1 < 0 then (F_W_law_469 L xs (q35.2, u.2)) else (F_W_law_448 L xs r371 a3 a4 a5 a6 a7 (q35.2, u.2)))
def F_W_law_413 (L : Nat) (xs : Nat → Int32) (r371 : Int32 → Int32 → Int32 → Int32 → Int32 → am_U → Option (Int32)) (a3 : Int32) (a4 : Int32) (a5 : Int32) (a6 : Int32) (a7 : Int32) (a8 : Int32) (s0 : Int32) (s1 : Int32) (u : am_U) : Option (Int32) :=
  if s1 = s0 then (if a8 = 0 then (F_W_law_433 L xs r371 a3 a4 a5 a6 a7 a8 u) else ((F_W_kind L xs a7).bind fun q36 => if q36 = (nI 5) then (F_W_law_431 L xs u) else (F_W_law_433 L xs r371 a3 a4 a5 a6 a7 a8 u))) else (F_W_law_431 L xs u)
def F_W_law_394 (L : Nat) (xs : Nat → Int32) (r371 : Int32 → Int32 → Int32 → Int32 → Int32 → am_U → Option (Int32)) (a3 : Int32) (a4 : Int32) (a5 : Int32) (a6 : Int32) (a7 : Int32) (s0 : Int32) (u : am_U) : Option (Int32) :=
  (F_Loc_sawFor a7 (nI 0) u.1).bind fun q33 => if q33.1 = 0 then (F_W_law_413 L xs r371 a3 a4 a5 a6 a7 s0 (nI 1) s0 (q33.2, u.2)) else (F_W_law_413 L xs r371 a3 a4 a5 a6 a7 s0 (nI 0) s0 (q33.2, u.2))
def F_W_law_371 (L : Nat) (xs : Nat → Int32) (r371 : Int32 → Int32 → Int32 → Int32 → Int32 → am_U → Option (Int32)) (a3 : Int32) (a4 : Int32) (a5 : Int32) (a6 : Int32) (a7 : Int32) (u : am_U) : Option (Int32) :=
  if a3 ≤ a7 then (L_W_law_480 L xs am_NF a3 a4 a5 (nI 0) u) else ((F_Loc_never u.1).bind fun q32 => if ((q32.1 >>> (a7 &&& 31)) &&& (nI 1)) = 0 then (F_W_law_394 L xs r371 a3 a4 a5 a6 a7 (nI 1) (q32.2, u.2)) else (F_W_law_394 L xs r371 a3 a4 a5 a6 a7 (nI 0) (q32.2, u.2)))
def L_W_law_371 (L : Nat) (xs : Nat → Int32) : Nat → Int32 → Int32 → Int32 → Int32 → Int32 → am_U → Option (Int32)
  | 0, _, _, _, _, _, _ => none
  | n + 1, a3, a4, a5, a6, a7, u => F_W_law_371 L xs (L_W_law_371 L xs n) a3 a4 a5 a6 a7 u
def F_W_law_360 (L : Nat) (xs : Nat → Int32) (u : am_U) : Option (Int32) :=
  some (nI 0)
def F_W_law_357 (L : Nat) (xs : Nat → Int32) (r257 : Int32 → Int32 → Int32 → Int32 → Int32 → am_U → Option (Int32)) (a3 : Int32) (a4 : Int32) (a5 : Int32) (a6 : Int32) (a7 : Int32) (s0 : Int32) (s1 : Int32) (u : am_U) : Option (Int32) :=
  if s1 = s0 then (r257 a3 a4 a5 a6 (a7 + (nI 1)) u) else (F_W_law_360 L xs u)
def F_W_law_333 (L : Nat) (xs : Nat → Int32) (r257 : Int32 → Int32 → Int32 → Int32 → Int32 → am_U → Option (Int32)) (a3 : Int32) (a4 : Int32) (a5 : Int32) (a6 : Int32) (a7 : Int32) (s0 : Int32) (s1 : Int32) (u : am_U) : Option (Int32) :=
  if s1 = s0 then ((F_Loc_lockTold a7 (nI 4) u.1).bind fun q45 => (F_W_sawn L xs a7).bind fun q46 => if q46 = 0 then (F_W_law_357 L xs r257 a3 a4 a5 a6 a7 (nI 1) q45.1 (q45.2, u.2)) else (F_W_law_357 L xs r257 a3 a4 a5 a6 a7 (nI 0) q45.1 (q45.2, u.2))) else (F_W_law_360 L xs u)
def F_W_law_257 (L : Nat) (xs : Nat → Int32) (r257 : Int32 → Int32 → Int32 → Int32 → Int32 → am_U → Option (Int32)) (a3 : Int32) (a4 : Int32) (a5 : Int32) (a6 : Int32) (a7 : Int32) (u : am_U) : Option (Int32) :=
  if a4 ≤ a7 then (L_W_law_371 L xs am_NF a3 a4 a5 a6 (nI 0) u) else ((F_Loc_lockTold a7 (nI 0) u.1).bind fun q37 => (F_W_owner L xs a7).bind fun q38 => if q37.1 = q38 then ((F_Loc_lockTold a7 (nI 1) (q37.2, u.2).1).bind fun q39 => (F_W_sort L xs a7).bind fun q40 => if q39.1 = q40 then ((F_Loc_lockTold a7 (nI 2) (q39.2, (q37.2, u.2).2).1).bind fun q41 => (F_W_through L xs a7).bind fun q42 => if q41.1 = q42 then ((F_Loc_lockTold a7 (nI 3) (q41.2, (q39.2, (q37.2, u.2).2).2).1).bind fun q43 => (F_W_sawn L xs a7).bind fun q44 => if q44 = 0 then (F_W_law_333 L xs r257 a3 a4 a5 a6 a7 (nI 0) q43.1 (q43.2, (q41.2, (q39.2, (q37.2, u.2).2).2).2)) else (F_W_law_333 L xs r257 a3 a4 a5 a6 a7 (nI 1) q43.1 (q43.2, (q41.2, (q39.2, (q37.2, u.2).2).2).2))) else (F_W_law_360 L xs (q41.2, (q39.2, (q37.2, u.2).2).2))) else (F_W_law_360 L xs (q39.2, (q37.2, u.2).2))) else (F_W_law_360 L xs (q37.2, u.2)))
def L_W_law_257 (L : Nat) (xs : Nat → Int32) : Nat → Int32 → Int32 → Int32 → Int32 → Int32 → am_U → Option (Int32)
  | 0, _, _, _, _, _, _ => none
  | n + 1, a3, a4, a5, a6, a7, u => F_W_law_257 L xs (L_W_law_257 L xs n) a3 a4 a5 a6 a7 u
def F_W_law_135 (L : Nat) (xs : Nat → Int32) (u : am_U) : Option (Int32) :=
  some (nI 0)
def F_W_law_218 (L : Nat) (xs : Nat → Int32) (u : am_U) : Option (Int32) :=
  some (nI 0)
def F_W_law_157 (L : Nat) (xs : Nat → Int32) (r40 : Int32 → Int32 → Int32 → Int32 → Int32 → am_U → Option (Int32)) (a3 : Int32) (a4 : Int32) (a5 : Int32) (a7 : Int32) (s0 : Int32) (s1 : Int32) (u : am_U) : Option (Int32) :=
  (F_Loc_told a7 (nI 0) u.1).bind fun q51 => (F_W_kind L xs a7).bind fun q52 => if q51.1 = q52 then ((F_Loc_told a7 (nI 1) (q51.2, u.2).1).bind fun q53 => (F_W_more L xs a7).bind fun q54 => if q53.1 = q54 then ((F_Loc_told a7 (nI 2) (q53.2, (q51.2, u.2).2).1).bind fun q55 => (F_W_come L xs a7).bind fun q56 => if q55.1 = q56 then ((F_Loc_told a7 (nI 3) (q55.2, (q53.2, (q51.2, u.2).2).2).1).bind fun q57 => if q57.1 = 0 then (r40 a3 a4 a5 (s1 ||| s0) (a7 + (nI 1)) (q57.2, (q55.2, (q53.2, (q51.2, u.2).2).2).2)) else (F_W_law_218 L xs (q57.2, (q55.2, (q53.2, (q51.2, u.2).2).2).2))) else (F_W_law_218 L xs (q55.2, (q53.2, (q51.2, u.2).2).2))) else (F_W_law_218 L xs (q53.2, (q51.2, u.2).2))) else (F_W_law_218 L xs (q51.2, u.2))
def F_W_law_93 (L : Nat) (xs : Nat → Int32) (r40 : Int32 → Int32 → Int32 → Int32 → Int32 → am_U → Option (Int32)) (r61 : Int32 → Int32 → Int32 → Int32 → Int32 → Int32 → Int32 → Int32 → am_U → Option (Int32)) (a3 : Int32) (a4 : Int32) (a5 : Int32) (a6 : Int32) (a7 : Int32) (a8 : Int32) (a10 : Int32) (s0 : Int32) (s1 : Int32) (u : am_U) : Option (Int32) :=
  r61 a3 a4 a5 a6 a7 a8 (s1 ||| s0) (a10 + (nI 1)) u
def F_W_law_61 (L : Nat) (xs : Nat → Int32) (r40 : Int32 → Int32 → Int32 → Int32 → Int32 → am_U → Option (Int32)) (r61 : Int32 → Int32 → Int32 → Int32 → Int32 → Int32 → Int32 → Int32 → am_U → Option (Int32)) (a3 : Int32) (a4 : Int32) (a5 : Int32) (a6 : Int32) (a7 : Int32) (a8 : Int32) (a9 : Int32) (a10 : Int32) (u : am_U) : Option (Int32) :=
  if a4 ≤ a10 then ((F_Loc_holds a7 u.1).bind fun q48 => if q48.1 = a8 then ((F_Loc_waits a7 (q48.2, u.2).1).bind fun q49 => if q49.1 = a9 then (if ((a9 >>> (a7 &&& 31)) &&& (nI 1)) = (nI 1) then (F_W_law_135 L xs (q49.2, (q48.2, u.2).2)) else ((F_W_can L xs a7 (q49.2, (q48.2, u.2).2)).bind fun q50 => if q50.1 = 0 then (F_W_law_157 L xs r40 a3 a4 a5 a7 (nI 0) a6 q50.2) else (F_W_law_157 L xs r40 a3 a4 a5 a7 ((nI 1) <<< (a7 &&& 31)) a6 q50.2))) else (F_W_law_135 L xs (q49.2, (q48.2, u.2).2))) else (F_W_law_135 L xs (q48.2, u.2))) else (if ((a8 >>> (a10 &&& 31)) &&& (nI 1)) = (nI 1) then ((F_W_owner L xs a10).bind fun q58 => F_W_law_93 L xs r40 r61 a3 a4 a5 a6 a7 a8 a10 ((nI 1) <<< (q58 &&& 31)) a9 u) else (F_W_law_93 L xs r40 r61 a3 a4 a5 a6 a7 a8 a10 (nI 0) a9 u))
def L_W_law_61 (L : Nat) (xs : Nat → Int32) (r40 : Int32 → Int32 → Int32 → Int32 → Int32 → am_U → Option (Int32)) : Nat → Int32 → Int32 → Int32 → Int32 → Int32 → Int32 → Int32 → Int32 → am_U → Option (Int32)
  | 0, _, _, _, _, _, _, _, _, _ => none
  | n + 1, a3, a4, a5, a6, a7, a8, a9, a10, u => F_W_law_61 L xs r40 (L_W_law_61 L xs r40 n) a3 a4 a5 a6 a7 a8 a9 a10 u
def F_W_law_40 (L : Nat) (xs : Nat → Int32) (r40 : Int32 → Int32 → Int32 → Int32 → Int32 → am_U → Option (Int32)) (a3 : Int32) (a4 : Int32) (a5 : Int32) (a6 : Int32) (a7 : Int32) (u : am_U) : Option (Int32) :=
  if a3 ≤ a7 then ((F_Loc_free u.1).bind fun q4 => if q4.1 = a6 then ((F_Loc_never (q4.2, u.2).1).bind fun q5 => (F_W_last L xs (q5.2, (q4.2, u.2).2)).bind fun q6 => if q5.1 = (a5 &&& (q6.1 ^^^ (-nI 1))) then (L_W_law_257 L xs am_NF a3 a4 a5 a6 (nI 0) q6.2) else (F_W_law_252 L xs q6.2)) else (F_W_law_252 L xs (q4.2, u.2))) else ((F_W_holds L xs a7 u).bind fun q47 => L_W_law_61 L xs r40 am_NF a3 a4 a5 a6 a7 q47.1 (nI 0) (nI 0) q47.2)
def L_W_law_40 (L : Nat) (xs : Nat → Int32) : Nat → Int32 → Int32 → Int32 → Int32 → Int32 → am_U → Option (Int32)
  | 0, _, _, _, _, _, _ => none
  | n + 1, a3, a4, a5, a6, a7, u => F_W_law_40 L xs (L_W_law_40 L xs n) a3 a4 a5 a6 a7 u
def F_W_law (L : Nat) (xs : Nat → Int32) (u : am_U) : Option Int32 :=
  (F_W_start L xs u).bind fun q1 => (F_W_things L xs ).bind fun q2 => (F_W_locks L xs ).bind fun q3 => L_W_law_40 L xs am_NF q2 q3 (((nI 1) <<< (q2 &&& 31)) - (nI 1)) (nI 0) (nI 0) q1
theorem T_W_law_252 {L : Nat} {xs : Nat → Int32} {X : am_H} {k n : Nat} (hX : X.length ≤ 1000) (hk : k ≤ 600000) (hn : n ≤ 7302250) (Hx : ∀ u, am_gw L xs k n (871, [], [], hlw X u, k, n)) (u : am_U) (H : F_W_law_252 L xs u = some (nI 1)) : am_gw L xs k n (252, [], [], hlw X u, k, n) := by
  unfold F_W_law_252 at H
  exact am_go_blk 2 ⟨am_fn1 H, am_f1 H⟩
theorem T_W_law_902 {L : Nat} {xs : Nat → Int32} {X : am_H} {k n : Nat} (hX : X.length ≤ 1000) (hk : k ≤ 600000) (hn : n ≤ 7302250) (Hx : ∀ u, am_gw L xs k n (871, [], [], hlw X u, k, n)) (s0 : Int32) (u : am_U) (H : F_W_law_902 L xs s0 u = some (nI 1)) : am_gw L xs k n (902, [], [.int s0], hlw X u, k, n) := by
  unfold F_W_law_902 at H
  exact am_go_blk 1 ⟨am_fn1 H, am_f1 H⟩
theorem T_W_law_901 {L : Nat} {xs : Nat → Int32} {X : am_H} {k n : Nat} (hX : X.length ≤ 1000) (hk : k ≤ 600000) (hn : n ≤ 7302250) (Hx : ∀ u, am_gw L xs k n (871, [], [], hlw X u, k, n)) (u : am_U) (H : F_W_law_901 L xs u = some (nI 1)) : am_gw L xs k n (901, [], [], hlw X u, k, n) := by
  unfold F_W_law_901 at H
  exact am_go_blk 1 (T_W_law_902 hX hk hn Hx (nI 0) u H)
theorem T_W_law_871 {L : Nat} {xs : Nat → Int32} {X : am_H} {k n : Nat} (hX : X.length ≤ 1000) (hk : k ≤ 600000) (hn : n ≤ 7302250) (Hx : ∀ u, am_gw L xs k n (871, [], [], hlw X u, k, n)) (u : am_U) (H : F_W_law_871 L xs u = some (nI 1)) : am_gw L xs k n (871, [], [], hlw X u, k, n) :=
  Hx u
theorem T_W_law_735 {L : Nat} {xs : Nat → Int32} {X : am_H} {k n : Nat} (hX : X.length ≤ 1000) (hk : k ≤ 600000) (hn : n ≤ 7302250) (Hx : ∀ u, am_gw L xs k n (871, [], [], hlw X u, k, n)) {r735 : Int32 → Int32 → Int32 → Int32 → am_U → Option (Int32)} (Hr735 : ∀ (a3 : Int32) (a4 : Int32) (a5 : Int32) (a7 : Int32) (u : am_U), r735 a3 a4 a5 a7 u = some (nI 1) → am_gw L xs k n (735, [(1, .ref 0), (2, .ref ((53 + X.length))), (3, .int a3), (4, .int a4), (5, .int a5), (7, .int a7)], [], hlw X u, k, n)) (a3 : Int32) (a4 : Int32) (a5 : Int32) (a7 : Int32) (u : am_U) (H : F_W_law_735 L xs r735 a3 a4 a5 a7 u = some (nI 1)) : am_gw L xs k n (735, [(1, .ref 0), (2, .ref ((53 + X.length))), (3, .int a3), (4, .int a4), (5, .int a5), (7, .int a7)], [], hlw X u, k, n) := by
  unfold F_W_law_735 at H
  refine am_go_blk 3 ⟨fun hc => ?_, fun hc => ?_⟩
  · have H := am_it hc H
    show am_gw L xs k n (758, [(1, .ref 0), (2, .ref ((53 + X.length))), (4, .int a4), (5, .int a5)], [], hlw X u, k, n)
    refine am_go_blk 1 (?_ : am_gw L xs k n (759, [(1, .ref 0), (2, .ref ((53 + X.length))), (4, .int a4), (5, .int a5)], [.ref 0], hlw X u, k, n))
    obtain ⟨q7, hq7, H⟩ := am_bnE H
    refine am_invd rfl rfl (hl_0 X _) rfl (am_kfc rfl hX (M_Loc_free (D := 997) hq7) (fun _ => rfl) (fun _ => rfl) hk hn (?_ : am_gw L xs k n (762, [(1, .ref 0), (2, .ref ((53 + X.length))), (4, .int a4), (5, .int a5)], [.int q7.1], hlw X (q7.2, u.2), k, n)))
    refine am_go_blk 3 (?_ : am_gw L xs k n (766, [(1, .ref 0), (2, .ref ((53 + X.length))), (4, .int a4), (5, .int a5)], [.int (nI 0), .ref ((53 + X.length)), .int a5, .int q7.1], hlw X (q7.2, u.2), k, n))
    obtain ⟨hc, H⟩ := am_ckE H
    refine am_lald rfl hl_get (am_inv hc) (?_ : am_gw L xs k n (767, [(1, .ref 0), (2, .ref ((53 + X.length))), (4, .int a4), (5, .int a5)], [.long ((q7.2, u.2).2 (nI 0).toNatClampNeg), .int a5, .int q7.1], hlw X (q7.2, u.2), k, n))
    refine am_go_blk 5 ⟨fun hc => ?_, fun hc => ?_⟩
    · have H := am_it hc H
      show am_gw L xs k n (776, [(1, .ref 0), (4, .int a4)], [], hlw X (q7.2, u.2), k, n)
      refine am_go_blk 2 (?_ : am_gw L xs k n (779, [(1, .ref 0), (4, .int a4)], [.int (nI 8), .ref 0], hlw X (q7.2, u.2), k, n))
      obtain ⟨q8, hq8, H⟩ := am_bnE H
      refine am_invd rfl rfl (hl_0 X _) rfl (am_kfc rfl hX (M_Loc_holds (D := 995) hq8) (fun _ => rfl) (fun _ => rfl) hk hn (?_ : am_gw L xs k n (782, [(1, .ref 0), (4, .int a4)], [.int q8.1], hlw X (q8.2, (q7.2, u.2).2), k, n)))
      refine am_go_blk 2 ⟨fun hc => ?_, fun hc => ?_⟩
      · have H := am_ie hc H
        exact T_W_law_901 hX hk hn Hx (q8.2, (q7.2, u.2).2) H
      · have H := am_it hc H
        show am_gw L xs k n (787, [(1, .ref 0), (4, .int a4)], [], hlw X (q8.2, (q7.2, u.2).2), k, n)
        refine am_go_blk 2 (?_ : am_gw L xs k n (790, [(1, .ref 0), (4, .int a4)], [.int (nI 8), .ref 0], hlw X (q8.2, (q7.2, u.2).2), k, n))
        obtain ⟨q9, hq9, H⟩ := am_bnE H
        refine am_invd rfl rfl (hl_0 X _) rfl (am_kfc rfl hX (M_Loc_waits (D := 994) hq9) (fun _ => rfl) (fun _ => rfl) hk hn (?_ : am_gw L xs k n (793, [(1, .ref 0), (4, .int a4)], [.int q9.1], hlw X (q9.2, (q8.2, (q7.2, u.2).2).2), k, n)))
        refine am_go_blk 2 ⟨fun hc => ?_, fun hc => ?_⟩
        · have H := am_ie hc H
          exact T_W_law_901 hX hk hn Hx (q9.2, (q8.2, (q7.2, u.2).2).2) H
        · have H := am_it hc H
          show am_gw L xs k n (798, [(1, .ref 0), (4, .int a4)], [], hlw X (q9.2, (q8.2, (q7.2, u.2).2).2), k, n)
          refine am_go_blk 2 (?_ : am_gw L xs k n (801, [(1, .ref 0), (4, .int a4)], [.int (nI 8), .ref 0], hlw X (q9.2, (q8.2, (q7.2, u.2).2).2), k, n))
          obtain ⟨q10, hq10, H⟩ := am_bnE H
          refine am_invd rfl rfl (hl_0 X _) rfl (am_kfc rfl hX (M_Loc_go (D := 997) hq10) (fun _ => rfl) (fun _ => rfl) hk hn (?_ : am_gw L xs k n (804, [(1, .ref 0), (4, .int a4)], [.int q10.1], hlw X (q10.2, (q9.2, (q8.2, (q7.2, u.2).2).2).2), k, n)))
          refine am_go_blk 2 ⟨fun hc => ?_, fun hc => ?_⟩
          · have H := am_ie hc H
            exact T_W_law_901 hX hk hn Hx (q10.2, (q9.2, (q8.2, (q7.2, u.2).2).2).2) H
          · have H := am_it hc H
            show am_gw L xs k n (809, [(1, .ref 0), (4, .int a4)], [], hlw X (q10.2, (q9.2, (q8.2, (q7.2, u.2).2).2).2), k, n)
            refine am_go_blk 2 (?_ : am_gw L xs k n (812, [(1, .ref 0), (4, .int a4)], [.int (nI 10), .ref 0], hlw X (q10.2, (q9.2, (q8.2, (q7.2, u.2).2).2).2), k, n))
            obtain ⟨q11, hq11, H⟩ := am_bnE H
            refine am_invd rfl rfl (hl_0 X _) rfl (am_kfc rfl hX (M_Loc_saw (D := 994) hq11) (fun _ => rfl) (fun _ => rfl) hk hn (?_ : am_gw L xs k n (815, [(1, .ref 0), (4, .int a4)], [.int q11.1], hlw X (q11.2, (q10.2, (q9.2, (q8.2, (q7.2, u.2).2).2).2).2), k, n)))
            refine am_go_blk 2 ⟨fun hc => ?_, fun hc => ?_⟩
            · have H := am_ie hc H
              exact T_W_law_901 hX hk hn Hx (q11.2, (q10.2, (q9.2, (q8.2, (q7.2, u.2).2).2).2).2) H
            · have H := am_it hc H
              show am_gw L xs k n (820, [(1, .ref 0), (4, .int a4)], [], hlw X (q11.2, (q10.2, (q9.2, (q8.2, (q7.2, u.2).2).2).2).2), k, n)
              refine am_go_blk 3 (?_ : am_gw L xs k n (824, [(1, .ref 0), (4, .int a4)], [.int (nI 0), .int (nI 8), .ref 0], hlw X (q11.2, (q10.2, (q9.2, (q8.2, (q7.2, u.2).2).2).2).2), k, n))
              obtain ⟨q12, hq12, H⟩ := am_bnE H
              refine am_invd rfl rfl (hl_0 X _) rfl (am_kfc rfl hX (M_Loc_told (D := 997) hq12) (fun _ => rfl) (fun _ => rfl) hk hn (?_ : am_gw L xs k n (827, [(1, .ref 0), (4, .int a4)], [.int q12.1], hlw X (q12.2, (q11.2, (q10.2, (q9.2, (q8.2, (q7.2, u.2).2).2).2).2).2), k, n)))
              refine am_go_blk 2 ⟨fun hc => ?_, fun hc => ?_⟩
              · have H := am_ie hc H
                exact T_W_law_901 hX hk hn Hx (q12.2, (q11.2, (q10.2, (q9.2, (q8.2, (q7.2, u.2).2).2).2).2).2) H
              · have H := am_it hc H
                show am_gw L xs k n (832, [(1, .ref 0), (4, .int a4)], [], hlw X (q12.2, (q11.2, (q10.2, (q9.2, (q8.2, (q7.2, u.2).2).2).2).2).2), k, n)
                refine am_go_blk 3 (?_ : am_gw L xs k n (835, [(1, .ref 0), (4, .int a4)], [.int (nI 4), .int (nI 0), .ref 0], hlw X (q12.2, (q11.2, (q10.2, (q9.2, (q8.2, (q7.2, u.2).2).2).2).2).2), k, n))
                obtain ⟨q13, hq13, H⟩ := am_bnE H
                refine am_invd rfl rfl (hl_0 X _) rfl (am_kfc rfl hX (M_Loc_told (D := 997) hq13) (fun _ => rfl) (fun _ => rfl) hk hn (?_ : am_gw L xs k n (838, [(1, .ref 0), (4, .int a4)], [.int q13.1], hlw X (q13.2, (q12.2, (q11.2, (q10.2, (q9.2, (q8.2, (q7.2, u.2).2).2).2).2).2).2), k, n)))
                refine am_go_blk 2 ⟨fun hc => ?_, fun hc => ?_⟩
                · have H := am_ie hc H
                  exact T_W_law_901 hX hk hn Hx (q13.2, (q12.2, (q11.2, (q10.2, (q9.2, (q8.2, (q7.2, u.2).2).2).2).2).2).2) H
                · have H := am_it hc H
                  show am_gw L xs k n (843, [(1, .ref 0), (4, .int a4)], [], hlw X (q13.2, (q12.2, (q11.2, (q10.2, (q9.2, (q8.2, (q7.2, u.2).2).2).2).2).2).2), k, n)
                  refine am_go_blk 3 (?_ : am_gw L xs k n (847, [(1, .ref 0), (4, .int a4)], [.int (nI 0), .int (nI 10), .ref 0], hlw X (q13.2, (q12.2, (q11.2, (q10.2, (q9.2, (q8.2, (q7.2, u.2).2).2).2).2).2).2), k, n))
                  obtain ⟨q14, hq14, H⟩ := am_bnE H
                  refine am_invd rfl rfl (hl_0 X _) rfl (am_kfc rfl hX (M_Loc_lockTold (D := 997) hq14) (fun _ => rfl) (fun _ => rfl) hk hn (?_ : am_gw L xs k n (850, [(1, .ref 0), (4, .int a4)], [.int q14.1], hlw X (q14.2, (q13.2, (q12.2, (q11.2, (q10.2, (q9.2, (q8.2, (q7.2, u.2).2).2).2).2).2).2).2), k, n)))
                  refine am_go_blk 2 ⟨fun hc => ?_, fun hc => ?_⟩
                  · have H := am_ie hc H
                    exact T_W_law_901 hX hk hn Hx (q14.2, (q13.2, (q12.2, (q11.2, (q10.2, (q9.2, (q8.2, (q7.2, u.2).2).2).2).2).2).2).2) H
                  · have H := am_it hc H
                    show am_gw L xs k n (855, [(1, .ref 0), (4, .int a4)], [], hlw X (q14.2, (q13.2, (q12.2, (q11.2, (q10.2, (q9.2, (q8.2, (q7.2, u.2).2).2).2).2).2).2).2), k, n)
                    refine am_go_blk 2 ⟨fun hc => ?_, fun hc => ?_⟩
                    · have H := am_it hc H
                      exact T_W_law_871 hX hk hn Hx (q14.2, (q13.2, (q12.2, (q11.2, (q10.2, (q9.2, (q8.2, (q7.2, u.2).2).2).2).2).2).2).2) H
                    · have H := am_ie hc H
                      show am_gw L xs k n (860, [(1, .ref 0), (4, .int a4)], [], hlw X (q14.2, (q13.2, (q12.2, (q11.2, (q10.2, (q9.2, (q8.2, (q7.2, u.2).2).2).2).2).2).2).2), k, n)
                      refine am_go_blk 3 (?_ : am_gw L xs k n (863, [(1, .ref 0), (4, .int a4)], [.int (nI 5), .int (nI 0), .ref 0], hlw X (q14.2, (q13.2, (q12.2, (q11.2, (q10.2, (q9.2, (q8.2, (q7.2, u.2).2).2).2).2).2).2).2), k, n))
                      obtain ⟨q15, hq15, H⟩ := am_bnE H
                      refine am_invd rfl rfl (hl_0 X _) rfl (am_kfc rfl hX (M_Loc_lockTold (D := 997) hq15) (fun _ => rfl) (fun _ => rfl) hk hn (?_ : am_gw L xs k n (866, [(1, .ref 0), (4, .int a4)], [.int q15.1], hlw X (q15.2, (q14.2, (q13.2, (q12.2, (q11.2, (q10.2, (q9.2, (q8.2, (q7.2, u.2).2).2).2).2).2).2).2).2), k, n)))
                      refine am_go_blk 2 ⟨fun hc => ?_, fun hc => ?_⟩
                      · have H := am_ie hc H
                        exact T_W_law_901 hX hk hn Hx (q15.2, (q14.2, (q13.2, (q12.2, (q11.2, (q10.2, (q9.2, (q8.2, (q7.2, u.2).2).2).2).2).2).2).2).2) H
                      · have H := am_it hc H
                        exact T_W_law_871 hX hk hn Hx (q15.2, (q14.2, (q13.2, (q12.2, (q11.2, (q10.2, (q9.2, (q8.2, (q7.2, u.2).2).2).2).2).2).2).2).2) H
    · have H := am_ie hc H
      show am_gw L xs k n (774, [(1, .ref 0), (2, .ref ((53 + X.length))), (4, .int a4), (5, .int a5)], [], hlw X (q7.2, u.2), k, n)
      exact am_go_blk 2 ⟨am_fn1 H, am_f1 H⟩
  · have H := am_ie hc H
    show am_gw L xs k n (741, [(1, .ref 0), (2, .ref ((53 + X.length))), (3, .int a3), (4, .int a4), (5, .int a5), (7, .int a7)], [], hlw X u, k, n)
    refine am_go_blk 2 (?_ : am_gw L xs k n (744, [(1, .ref 0), (2, .ref ((53 + X.length))), (3, .int a3), (4, .int a4), (5, .int a5), (7, .int a7)], [.int a7, .ref 0], hlw X u, k, n))
    obtain ⟨q16, hq16, H⟩ := am_bnE H
    refine am_invd rfl rfl (hl_0 X _) rfl (am_kfc rfl hX (M_Loc_holds (D := 995) hq16) (fun _ => rfl) (fun _ => rfl) hk hn (?_ : am_gw L xs k n (747, [(1, .ref 0), (2, .ref ((53 + X.length))), (3, .int a3), (4, .int a4), (5, .int a5), (7, .int a7)], [.int q16.1], hlw X (q16.2, u.2), k, n)))
    refine am_go_blk 1 ⟨fun hc => ?_, fun hc => ?_⟩
    · have H := am_it hc H
      show am_gw L xs k n (752, [(1, .ref 0), (2, .ref ((53 + X.length))), (3, .int a3), (4, .int a4), (5, .int a5), (7, .int a7)], [], hlw X (q16.2, u.2), k, n)
      exact am_go_blk 2 (Hr735 a3 a4 a5 (a7 + (nI 1)) (q16.2, u.2) H)
    · have H := am_ie hc H
      show am_gw L xs k n (750, [(1, .ref 0), (2, .ref ((53 + X.length))), (3, .int a3), (4, .int a4), (5, .int a5), (7, .int a7)], [], hlw X (q16.2, u.2), k, n)
      exact am_go_blk 2 ⟨am_fn1 H, am_f1 H⟩
theorem TL_W_law_735 {L : Nat} {xs : Nat → Int32} {X : am_H} {k n : Nat} (hX : X.length ≤ 1000) (hk : k ≤ 600000) (hn : n ≤ 7302250) (Hx : ∀ u, am_gw L xs k n (871, [], [], hlw X u, k, n)) : ∀ (N : Nat) (a3 : Int32) (a4 : Int32) (a5 : Int32) (a7 : Int32) (u : am_U), L_W_law_735 L xs N a3 a4 a5 a7 u = some (nI 1) → am_gw L xs k n (735, [(1, .ref 0), (2, .ref ((53 + X.length))), (3, .int a3), (4, .int a4), (5, .int a5), (7, .int a7)], [], hlw X u, k, n)
  | 0, _, _, _, _, _, H => by cases H
  | N + 1, a3, a4, a5, a7, u, H => T_W_law_735 hX hk hn Hx (TL_W_law_735 hX hk hn Hx N) a3 a4 a5 a7 u H
theorem T_W_law_694 {L : Nat} {xs : Nat → Int32} {X : am_H} {k n : Nat} (hX : X.length ≤ 1000) (hk : k ≤ 600000) (hn : n ≤ 7302250) (Hx : ∀ u, am_gw L xs k n (871, [], [], hlw X u, k, n)) (u : am_U) (H : F_W_law_694 L xs u = some (nI 1)) : am_gw L xs k n (694, [], [], hlw X u, k, n) := by
  unfold F_W_law_694 at H
  exact am_go_blk 2 ⟨am_fn1 H, am_f1 H⟩
theorem T_W_law_711 {L : Nat} {xs : Nat → Int32} {X : am_H} {k n : Nat} (hX : X.length ≤ 1000) (hk : k ≤ 600000) (hn : n ≤ 7302250) (Hx : ∀ u, am_gw L xs k n (871, [], [], hlw X u, k, n)) {r599 : Int32 → Int32 → Int32 → Int32 → am_U → Option (Int32)} (Hr599 : ∀ (a3 : Int32) (a4 : Int32) (a5 : Int32) (a7 : Int32) (u : am_U), r599 a3 a4 a5 a7 u = some (nI 1) → am_gw L xs k n (599, [(0, .ref am_pL), (1, .ref 0), (2, .ref ((53 + X.length))), (3, .int a3), (4, .int a4), (5, .int a5), (7, .int a7)], [], hlw X u, k, n)) (a3 : Int32) (a4 : Int32) (a5 : Int32) (a7 : Int32) (u : am_U) (H : F_W_law_711 L xs r599 a3 a4 a5 a7 u = some (nI 1)) : am_gw L xs k n (711, [(0, .ref am_pL), (1, .ref 0), (2, .ref ((53 + X.length))), (3, .int a3), (4, .int a4), (5, .int a5), (7, .int a7)], [], hlw X u, k, n) := by
  unfold F_W_law_711 at H
  refine am_go_blk 2 (?_ : am_gw L xs k n (713, [(0, .ref am_pL), (1, .ref 0), (2, .ref ((53 + X.length))), (3, .int a3), (4, .int a4), (5, .int a5), (7, .int a7)], [.int (nI 3), .ref 0], hlw X u, k, n))
  obtain ⟨q19, hq19, H⟩ := am_bnE H
  refine am_invd rfl rfl (hl_0 X _) rfl (am_kfc rfl hX (M_Loc_count (D := 999) hq19) (fun _ => rfl) (fun _ => rfl) hk hn (?_ : am_gw L xs k n (716, [(0, .ref am_pL), (1, .ref 0), (2, .ref ((53 + X.length))), (3, .int a3), (4, .int a4), (5, .int a5), (7, .int a7)], [.int q19.1], hlw X (q19.2, u.2), k, n)))
  refine am_go_blk 3 (?_ : am_gw L xs k n (719, [(0, .ref am_pL), (1, .ref 0), (2, .ref ((53 + X.length))), (3, .int a3), (4, .int a4), (5, .int a5), (7, .int a7)], [.int (nI 1), .ref ((53 + X.length)), .long q19.1.toInt64], hlw X (q19.2, u.2), k, n))
  obtain ⟨hc, H⟩ := am_ckE H
  refine am_lald rfl hl_get (am_inv hc) (?_ : am_gw L xs k n (720, [(0, .ref am_pL), (1, .ref 0), (2, .ref ((53 + X.length))), (3, .int a3), (4, .int a4), (5, .int a5), (7, .int a7)], [.long ((q19.2, u.2).2 (nI 1).toNatClampNeg), .long q19.1.toInt64], hlw X (q19.2, u.2), k, n))
  refine am_go_blk 2 ⟨fun hc => ?_, fun hc => ?_⟩
  · have H := am_it hc H
    show am_gw L xs k n (726, [(0, .ref am_pL), (1, .ref 0), (2, .ref ((53 + X.length))), (3, .int a3), (4, .int a4), (5, .int a5), (7, .int a7)], [], hlw X (q19.2, u.2), k, n)
    exact am_go_blk 2 (Hr599 a3 a4 a5 (a7 + (nI 1)) (q19.2, u.2) H)
  · have H := am_ie hc H
    show am_gw L xs k n (724, [(0, .ref am_pL), (1, .ref 0), (2, .ref ((53 + X.length))), (3, .int a3), (4, .int a4), (5, .int a5), (7, .int a7)], [], hlw X (q19.2, u.2), k, n)
    exact am_go_blk 2 ⟨am_fn1 H, am_f1 H⟩
theorem T_W_law_691 {L : Nat} {xs : Nat → Int32} {X : am_H} {k n : Nat} (hX : X.length ≤ 1000) (hk : k ≤ 600000) (hn : n ≤ 7302250) (Hx : ∀ u, am_gw L xs k n (871, [], [], hlw X u, k, n)) {r599 : Int32 → Int32 → Int32 → Int32 → am_U → Option (Int32)} (Hr599 : ∀ (a3 : Int32) (a4 : Int32) (a5 : Int32) (a7 : Int32) (u : am_U), r599 a3 a4 a5 a7 u = some (nI 1) → am_gw L xs k n (599, [(0, .ref am_pL), (1, .ref 0), (2, .ref ((53 + X.length))), (3, .int a3), (4, .int a4), (5, .int a5), (7, .int a7)], [], hlw X u, k, n)) (a3 : Int32) (a4 : Int32) (a5 : Int32) (a7 : Int32) (a8 : Int32) (s0 : Int32) (s1 : Int32) (u : am_U) (H : F_W_law_691 L xs r599 a3 a4 a5 a7 a8 s0 s1 u = some (nI 1)) : am_gw L xs k n (691, [(0, .ref am_pL), (1, .ref 0), (2, .ref ((53 + X.length))), (3, .int a3), (4, .int a4), (5, .int a5), (7, .int a7), (8, .int a8)], [.int s0, .int s1], hlw X u, k, n) := by
  unfold F_W_law_691 at H
  refine am_go_blk 1 ⟨fun hc => ?_, fun hc => ?_⟩
  · have H := am_it hc H
    show am_gw L xs k n (696, [(0, .ref am_pL), (1, .ref 0), (2, .ref ((53 + X.length))), (3, .int a3), (4, .int a4), (5, .int a5), (7, .int a7), (8, .int a8)], [], hlw X u, k, n)
    refine am_go_blk 2 ⟨fun hc => ?_, fun hc => ?_⟩
    · have H := am_it hc H
      exact T_W_law_711 hX hk hn Hx Hr599 a3 a4 a5 a7 u H
    · have H := am_ie hc H
      show am_gw L xs k n (701, [(0, .ref am_pL), (1, .ref 0), (2, .ref ((53 + X.length))), (3, .int a3), (4, .int a4), (5, .int a5), (7, .int a7), (8, .int a8)], [], hlw X u, k, n)
      refine am_go_blk 3 (?_ : am_gw L xs k n (704, [(0, .ref am_pL), (1, .ref 0), (2, .ref ((53 + X.length))), (3, .int a3), (4, .int a4), (5, .int a5), (7, .int a7), (8, .int a8)], [.int (nI 1), .ref ((53 + X.length)), .int (nI 1), .ref ((53 + X.length))], hlw X u, k, n))
      obtain ⟨hc, H⟩ := am_ckE H
      refine am_lald rfl hl_get (am_inv hc) (?_ : am_gw L xs k n (705, [(0, .ref am_pL), (1, .ref 0), (2, .ref ((53 + X.length))), (3, .int a3), (4, .int a4), (5, .int a5), (7, .int a7), (8, .int a8)], [.long (u.2 (nI 1).toNatClampNeg), .int (nI 1), .ref ((53 + X.length))], hlw X u, k, n))
      refine am_go_blk 4 (?_ : am_gw L xs k n (710, [(0, .ref am_pL), (1, .ref 0), (2, .ref ((53 + X.length))), (3, .int a3), (4, .int a4), (5, .int a5), (7, .int a7), (8, .int a8)], [.long ((u.2 (nI 1).toNatClampNeg) ||| ((lN 1) <<< (a7.toInt64 &&& 63))), .int (nI 1), .ref ((53 + X.length))], hlw X u, k, n))
      obtain ⟨hc, H⟩ := am_ckE H
      obtain ⟨u20, eu20, H⟩ := am_ltE H
      refine am_lasd rfl hl_get (am_inv hc) (hl_set eu20) (?_ : am_gw L xs k n (711, [(0, .ref am_pL), (1, .ref 0), (2, .ref ((53 + X.length))), (3, .int a3), (4, .int a4), (5, .int a5), (7, .int a7)], [], hlw X u20, k, n))
      exact T_W_law_711 hX hk hn Hx Hr599 a3 a4 a5 a7 u20 H
  · have H := am_ie hc H
    exact T_W_law_694 hX hk hn Hx u H
theorem T_W_law_660 {L : Nat} {xs : Nat → Int32} {X : am_H} {k n : Nat} (hX : X.length ≤ 1000) (hk : k ≤ 600000) (hn : n ≤ 7302250) (Hx : ∀ u, am_gw L xs k n (871, [], [], hlw X u, k, n)) {r599 : Int32 → Int32 → Int32 → Int32 → am_U → Option (Int32)} (Hr599 : ∀ (a3 : Int32) (a4 : Int32) (a5 : Int32) (a7 : Int32) (u : am_U), r599 a3 a4 a5 a7 u = some (nI 1) → am_gw L xs k n (599, [(0, .ref am_pL), (1, .ref 0), (2, .ref ((53 + X.length))), (3, .int a3), (4, .int a4), (5, .int a5), (7, .int a7)], [], hlw X u, k, n)) (a3 : Int32) (a4 : Int32) (a5 : Int32) (a7 : Int32) (a8 : Int32) (s0 : Int32) (s1 : Int32) (u : am_U) (H : F_W_law_660 L xs r599 a3 a4 a5 a7 a8 s0 s1 u = some (nI 1)) : am_gw L xs k n (660, [(0, .ref am_pL), (1, .ref 0), (2, .ref ((53 + X.length))), (3, .int a3), (4, .int a4), (5, .int a5), (7, .int a7), (8, .int a8)], [.int s0, .int s1], hlw X u, k, n) := by
  unfold F_W_law_660 at H
  refine am_go_blk 1 ⟨fun hc => ?_, fun hc => ?_⟩
  · have H := am_ie hc H
    exact T_W_law_694 hX hk hn Hx u H
  · have H := am_it hc H
    show am_gw L xs k n (663, [(0, .ref am_pL), (1, .ref 0), (2, .ref ((53 + X.length))), (3, .int a3), (4, .int a4), (5, .int a5), (7, .int a7), (8, .int a8)], [], hlw X u, k, n)
    refine am_go_blk 2 (?_ : am_gw L xs k n (666, [(0, .ref am_pL), (1, .ref 0), (2, .ref ((53 + X.length))), (3, .int a3), (4, .int a4), (5, .int a5), (7, .int a7), (8, .int a8)], [.int a7, .ref 0], hlw X u, k, n))
    obtain ⟨q18, hq18, H⟩ := am_bnE H
    refine am_invd rfl rfl (hl_0 X _) rfl (am_kfc rfl hX (M_Loc_saw (D := 994) hq18) (fun _ => rfl) (fun _ => rfl) hk hn (?_ : am_gw L xs k n (669, [(0, .ref am_pL), (1, .ref 0), (2, .ref ((53 + X.length))), (3, .int a3), (4, .int a4), (5, .int a5), (7, .int a7), (8, .int a8)], [.int q18.1], hlw X (q18.2, u.2), k, n)))
    refine am_go_blk 2 ⟨fun hc => ?_, fun hc => ?_⟩
    · have H := am_it hc H
      show am_gw L xs k n (689, [(0, .ref am_pL), (1, .ref 0), (2, .ref ((53 + X.length))), (3, .int a3), (4, .int a4), (5, .int a5), (7, .int a7), (8, .int a8)], [.int q18.1], hlw X (q18.2, u.2), k, n)
      exact am_go_blk 1 (T_W_law_691 hX hk hn Hx Hr599 a3 a4 a5 a7 a8 (-nI 3) q18.1 (q18.2, u.2) H)
    · have H := am_ie hc H
      show am_gw L xs k n (674, [(0, .ref am_pL), (1, .ref 0), (2, .ref ((53 + X.length))), (3, .int a3), (4, .int a4), (5, .int a5), (7, .int a7), (8, .int a8)], [.int q18.1], hlw X (q18.2, u.2), k, n)
      refine am_go_blk 3 (?_ : am_gw L xs k n (678, [(0, .ref am_pL), (1, .ref 0), (2, .ref ((53 + X.length))), (3, .int a3), (4, .int a4), (5, .int a5), (7, .int a7), (8, .int a8)], [.int a7, .ref am_pL, .ref am_pL, .int q18.1], hlw X (q18.2, u.2), k, n))
      obtain ⟨q21, hq21, H⟩ := am_bnE H
      refine am_cls rfl rfl rfl (am_kcall (am_hl rfl (hl_le hX)) (M_W_owner (D := 997) (hl_le hX) hq21) rfl hk hn (?_ : am_gw L xs k n (681, [(0, .ref am_pL), (1, .ref 0), (2, .ref ((53 + X.length))), (3, .int a3), (4, .int a4), (5, .int a5), (7, .int a7), (8, .int a8)], [.int q21, .ref am_pL, .int q18.1], hlw X (q18.2, u.2), k, n)))
      refine am_go_blk 1 (?_ : am_gw L xs k n (683, [(0, .ref am_pL), (1, .ref 0), (2, .ref ((53 + X.length))), (3, .int a3), (4, .int a4), (5, .int a5), (7, .int a7), (8, .int a8)], [.int a7, .int q21, .ref am_pL, .int q18.1], hlw X (q18.2, u.2), k, n))
      obtain ⟨q22, hq22, H⟩ := am_bnE H
      refine am_cls rfl rfl rfl (am_kcall (am_hl rfl (hl_le hX)) (M_W_saws (D := 996) (hl_le hX) hq22) rfl hk hn (?_ : am_gw L xs k n (686, [(0, .ref am_pL), (1, .ref 0), (2, .ref ((53 + X.length))), (3, .int a3), (4, .int a4), (5, .int a5), (7, .int a7), (8, .int a8)], [.int q22, .int q18.1], hlw X (q18.2, u.2), k, n)))
      exact am_go_blk 1 (T_W_law_691 hX hk hn Hx Hr599 a3 a4 a5 a7 a8 q22 q18.1 (q18.2, u.2) H)
theorem T_W_law_641 {L : Nat} {xs : Nat → Int32} {X : am_H} {k n : Nat} (hX : X.length ≤ 1000) (hk : k ≤ 600000) (hn : n ≤ 7302250) (Hx : ∀ u, am_gw L xs k n (871, [], [], hlw X u, k, n)) {r599 : Int32 → Int32 → Int32 → Int32 → am_U → Option (Int32)} (Hr599 : ∀ (a3 : Int32) (a4 : Int32) (a5 : Int32) (a7 : Int32) (u : am_U), r599 a3 a4 a5 a7 u = some (nI 1) → am_gw L xs k n (599, [(0, .ref am_pL), (1, .ref 0), (2, .ref ((53 + X.length))), (3, .int a3), (4, .int a4), (5, .int a5), (7, .int a7)], [], hlw X u, k, n)) (a3 : Int32) (a4 : Int32) (a5 : Int32) (a7 : Int32) (s0 : Int32) (u : am_U) (H : F_W_law_641 L xs r599 a3 a4 a5 a7 s0 u = some (nI 1)) : am_gw L xs k n (641, [(0, .ref am_pL), (1, .ref 0), (2, .ref ((53 + X.length))), (3, .int a3), (4, .int a4), (5, .int a5), (7, .int a7)], [.int s0], hlw X u, k, n) := by
  unfold F_W_law_641 at H
  refine am_go_blk 4 (?_ : am_gw L xs k n (647, [(8, .int s0), (0, .ref am_pL), (1, .ref 0), (2, .ref ((53 + X.length))), (3, .int a3), (4, .int a4), (5, .int a5), (7, .int a7)], [.int (nI 4), .int a7, .ref 0], hlw X u, k, n))
  obtain ⟨q17, hq17, H⟩ := am_bnE H
  refine am_invd rfl rfl (hl_0 X _) rfl (am_kfc rfl hX (M_Loc_lockTold (D := 997) hq17) (fun _ => rfl) (fun _ => rfl) hk hn (?_ : am_gw L xs k n (650, [(8, .int s0), (0, .ref am_pL), (1, .ref 0), (2, .ref ((53 + X.length))), (3, .int a3), (4, .int a4), (5, .int a5), (7, .int a7)], [.int q17.1], hlw X (q17.2, u.2), k, n)))
  refine am_go_blk 2 ⟨fun hc => ?_, fun hc => ?_⟩
  · have H := am_it hc H
    show am_gw L xs k n (659, [(0, .ref am_pL), (1, .ref 0), (2, .ref ((53 + X.length))), (3, .int a3), (4, .int a4), (5, .int a5), (7, .int a7), (8, .int s0)], [.int q17.1], hlw X (q17.2, u.2), k, n)
    exact am_go_blk 1 (T_W_law_660 hX hk hn Hx Hr599 a3 a4 a5 a7 s0 (nI 0) q17.1 (q17.2, u.2) H)
  · have H := am_ie hc H
    show am_gw L xs k n (655, [(8, .int s0), (0, .ref am_pL), (1, .ref 0), (2, .ref ((53 + X.length))), (3, .int a3), (4, .int a4), (5, .int a5), (7, .int a7)], [.int q17.1], hlw X (q17.2, u.2), k, n)
    exact am_go_blk 2 (T_W_law_660 hX hk hn Hx Hr599 a3 a4 a5 a7 s0 (nI 1) q17.1 (q17.2, u.2) H)
theorem T_W_law_640 {L : Nat} {xs : Nat → Int32} {X : am_H} {k n : Nat} (hX : X.length ≤ 1000) (hk : k ≤ 600000) (hn : n ≤ 7302250) (Hx : ∀ u, am_gw L xs k n (871, [], [], hlw X u, k, n)) {r599 : Int32 → Int32 → Int32 → Int32 → am_U → Option (Int32)} (Hr599 : ∀ (a3 : Int32) (a4 : Int32) (a5 : Int32) (a7 : Int32) (u : am_U), r599 a3 a4 a5 a7 u = some (nI 1) → am_gw L xs k n (599, [(0, .ref am_pL), (1, .ref 0), (2, .ref ((53 + X.length))), (3, .int a3), (4, .int a4), (5, .int a5), (7, .int a7)], [], hlw X u, k, n)) (a3 : Int32) (a4 : Int32) (a5 : Int32) (a7 : Int32) (u : am_U) (H : F_W_law_640 L xs r599 a3 a4 a5 a7 u = some (nI 1)) : am_gw L xs k n (640, [(0, .ref am_pL), (1, .ref 0), (2, .ref ((53 + X.length))), (3, .int a3), (4, .int a4), (5, .int a5), (7, .int a7)], [], hlw X u, k, n) := by
  unfold F_W_law_640 at H
  exact am_go_blk 1 (T_W_law_641 hX hk hn Hx Hr599 a3 a4 a5 a7 (nI 0) u H)
theorem T_W_law_599 {L : Nat} {xs : Nat → Int32} {X : am_H} {k n : Nat} (hX : X.length ≤ 1000) (hk : k ≤ 600000) (hn : n ≤ 7302250) (Hx : ∀ u, am_gw L xs k n (871, [], [], hlw X u, k, n)) {r599 : Int32 → Int32 → Int32 → Int32 → am_U → Option (Int32)} (Hr599 : ∀ (a3 : Int32) (a4 : Int32) (a5 : Int32) (a7 : Int32) (u : am_U), r599 a3 a4 a5 a7 u = some (nI 1) → am_gw L xs k n (599, [(0, .ref am_pL), (1, .ref 0), (2, .ref ((53 + X.length))), (3, .int a3), (4, .int a4), (5, .int a5), (7, .int a7)], [], hlw X u, k, n)) (a3 : Int32) (a4 : Int32) (a5 : Int32) (a7 : Int32) (u : am_U) (H : F_W_law_599 L xs r599 a3 a4 a5 a7 u = some (nI 1)) : am_gw L xs k n (599, [(0, .ref am_pL), (1, .ref 0), (2, .ref ((53 + X.length))), (3, .int a3), (4, .int a4), (5, .int a5), (7, .int a7)], [], hlw X u, k, n) := by
  unfold F_W_law_599 at H
  refine am_go_blk 3 ⟨fun hc => ?_, fun hc => ?_⟩
  · have H := am_it hc H
    show am_gw L xs k n (732, [(1, .ref 0), (2, .ref ((53 + X.length))), (3, .int a3), (4, .int a4), (5, .int a5)], [], hlw X u, k, n)
    exact am_go_blk 2 (TL_W_law_735 hX hk hn Hx am_NF a3 a4 a5 (nI 0) u H)
  · have H := am_ie hc H
    show am_gw L xs k n (606, [(0, .ref am_pL), (1, .ref 0), (2, .ref ((53 + X.length))), (3, .int a3), (4, .int a4), (5, .int a5), (7, .int a7)], [], hlw X u, k, n)
    refine am_go_blk 2 (?_ : am_gw L xs k n (608, [(0, .ref am_pL), (1, .ref 0), (2, .ref ((53 + X.length))), (3, .int a3), (4, .int a4), (5, .int a5), (7, .int a7)], [.int (nI 1), .ref ((53 + X.length))], hlw X u, k, n))
    obtain ⟨hc, H⟩ := am_ckE H
    refine am_lald rfl hl_get (am_inv hc) (?_ : am_gw L xs k n (609, [(0, .ref am_pL), (1, .ref 0), (2, .ref ((53 + X.length))), (3, .int a3), (4, .int a4), (5, .int a5), (7, .int a7)], [.long (u.2 (nI 1).toNatClampNeg)], hlw X u, k, n))
    refine am_go_blk 7 ⟨fun hc => ?_, fun hc => ?_⟩
    · have H := am_ie hc H
      exact T_W_law_640 hX hk hn Hx Hr599 a3 a4 a5 a7 u H
    · have H := am_it hc H
      show am_gw L xs k n (619, [(0, .ref am_pL), (1, .ref 0), (2, .ref ((53 + X.length))), (3, .int a3), (4, .int a4), (5, .int a5), (7, .int a7)], [], hlw X u, k, n)
      refine am_go_blk 2 (?_ : am_gw L xs k n (621, [(0, .ref am_pL), (1, .ref 0), (2, .ref ((53 + X.length))), (3, .int a3), (4, .int a4), (5, .int a5), (7, .int a7)], [.int (nI 0), .ref ((53 + X.length))], hlw X u, k, n))
      obtain ⟨hc, H⟩ := am_ckE H
      refine am_lald rfl hl_get (am_inv hc) (?_ : am_gw L xs k n (622, [(0, .ref am_pL), (1, .ref 0), (2, .ref ((53 + X.length))), (3, .int a3), (4, .int a4), (5, .int a5), (7, .int a7)], [.long (u.2 (nI 0).toNatClampNeg)], hlw X u, k, n))
      refine am_go_blk 2 (?_ : am_gw L xs k n (625, [(0, .ref am_pL), (1, .ref 0), (2, .ref ((53 + X.length))), (3, .int a3), (4, .int a4), (5, .int a5), (7, .int a7)], [.int a7, .ref am_pL, .long (u.2 (nI 0).toNatClampNeg)], hlw X u, k, n))
      obtain ⟨q23, hq23, H⟩ := am_bnE H
      refine am_cls rfl rfl rfl (am_kcall (am_hl rfl (hl_le hX)) (M_W_owner (D := 997) (hl_le hX) hq23) rfl hk hn (?_ : am_gw L xs k n (628, [(0, .ref am_pL), (1, .ref 0), (2, .ref ((53 + X.length))), (3, .int a3), (4, .int a4), (5, .int a5), (7, .int a7)], [.int q23, .long (u.2 (nI 0).toNatClampNeg)], hlw X u, k, n)))
      refine am_go_blk 6 ⟨fun hc => ?_, fun hc => ?_⟩
      · have H := am_ie hc H
        exact T_W_law_640 hX hk hn Hx Hr599 a3 a4 a5 a7 u H
      · have H := am_it hc H
        show am_gw L xs k n (636, [(0, .ref am_pL), (1, .ref 0), (2, .ref ((53 + X.length))), (3, .int a3), (4, .int a4), (5, .int a5), (7, .int a7)], [], hlw X u, k, n)
        exact am_go_blk 2 (T_W_law_641 hX hk hn Hx Hr599 a3 a4 a5 a7 (nI 1) u H)
theorem TL_W_law_599 {L : Nat} {xs : Nat → Int32} {X : am_H} {k n : Nat} (hX : X.length ≤ 1000) (hk : k ≤ 600000) (hn : n ≤ 7302250) (Hx : ∀ u, am_gw L xs k n (871, [], [], hlw X u, k, n)) : ∀ (N : Nat) (a3 : Int32) (a4 : Int32) (a5 : Int32) (a7 : Int32) (u : am_U), L_W_law_599 L xs N a3 a4 a5 a7 u = some (nI 1) → am_gw L xs k n (599, [(0, .ref am_pL), (1, .ref 0), (2, .ref ((53 + X.length))), (3, .int a3), (4, .int a4), (5, .int a5), (7, .int a7)], [], hlw X u, k, n)
  | 0, _, _, _, _, _, H => by cases H
  | N + 1, a3, a4, a5, a7, u, H => T_W_law_599 hX hk hn Hx (TL_W_law_599 hX hk hn Hx N) a3 a4 a5 a7 u H
theorem T_W_law_588 {L : Nat} {xs : Nat → Int32} {X : am_H} {k n : Nat} (hX : X.length ≤ 1000) (hk : k ≤ 600000) (hn : n ≤ 7302250) (Hx : ∀ u, am_gw L xs k n (871, [], [], hlw X u, k, n)) (u : am_U) (H : F_W_law_588 L xs u = some (nI 1)) : am_gw L xs k n (588, [], [], hlw X u, k, n) := by
  unfold F_W_law_588 at H
  exact am_go_blk 2 ⟨am_fn1 H, am_f1 H⟩
theorem T_W_law_558 {L : Nat} {xs : Nat → Int32} {X : am_H} {k n : Nat} (hX : X.length ≤ 1000) (hk : k ≤ 600000) (hn : n ≤ 7302250) (Hx : ∀ u, am_gw L xs k n (871, [], [], hlw X u, k, n)) {r480 : Int32 → Int32 → Int32 → Int32 → am_U → Option (Int32)} (Hr480 : ∀ (a3 : Int32) (a4 : Int32) (a5 : Int32) (a7 : Int32) (u : am_U), r480 a3 a4 a5 a7 u = some (nI 1) → am_gw L xs k n (480, [(0, .ref am_pL), (1, .ref 0), (2, .ref ((53 + X.length))), (3, .int a3), (4, .int a4), (5, .int a5), (7, .int a7)], [], hlw X u, k, n)) (a3 : Int32) (a4 : Int32) (a5 : Int32) (a7 : Int32) (u : am_U) (H : F_W_law_558 L xs r480 a3 a4 a5 a7 u = some (nI 1)) : am_gw L xs k n (558, [(0, .ref am_pL), (1, .ref 0), (2, .ref ((53 + X.length))), (3, .int a3), (4, .int a4), (5, .int a5), (7, .int a7)], [], hlw X u, k, n) := by
  unfold F_W_law_558 at H
  refine am_go_blk 2 (?_ : am_gw L xs k n (560, [(0, .ref am_pL), (1, .ref 0), (2, .ref ((53 + X.length))), (3, .int a3), (4, .int a4), (5, .int a5), (7, .int a7)], [.int (nI 2), .ref 0], hlw X u, k, n))
  obtain ⟨q27, hq27, H⟩ := am_bnE H
  refine am_invd rfl rfl (hl_0 X _) rfl (am_kfc rfl hX (M_Loc_count (D := 999) hq27) (fun _ => rfl) (fun _ => rfl) hk hn (?_ : am_gw L xs k n (563, [(0, .ref am_pL), (1, .ref 0), (2, .ref ((53 + X.length))), (3, .int a3), (4, .int a4), (5, .int a5), (7, .int a7)], [.int q27.1], hlw X (q27.2, u.2), k, n)))
  refine am_go_blk 3 (?_ : am_gw L xs k n (566, [(0, .ref am_pL), (1, .ref 0), (2, .ref ((53 + X.length))), (3, .int a3), (4, .int a4), (5, .int a5), (7, .int a7)], [.int (nI 0), .ref ((53 + X.length)), .long q27.1.toInt64], hlw X (q27.2, u.2), k, n))
  obtain ⟨hc, H⟩ := am_ckE H
  refine am_lald rfl hl_get (am_inv hc) (?_ : am_gw L xs k n (567, [(0, .ref am_pL), (1, .ref 0), (2, .ref ((53 + X.length))), (3, .int a3), (4, .int a4), (5, .int a5), (7, .int a7)], [.long ((q27.2, u.2).2 (nI 0).toNatClampNeg), .long q27.1.toInt64], hlw X (q27.2, u.2), k, n))
  refine am_go_blk 2 ⟨fun hc => ?_, fun hc => ?_⟩
  · have H := am_ie hc H
    exact T_W_law_588 hX hk hn Hx (q27.2, u.2) H
  · have H := am_it hc H
    show am_gw L xs k n (571, [(0, .ref am_pL), (1, .ref 0), (2, .ref ((53 + X.length))), (3, .int a3), (4, .int a4), (5, .int a5), (7, .int a7)], [], hlw X (q27.2, u.2), k, n)
    refine am_go_blk 1 (?_ : am_gw L xs k n (572, [(0, .ref am_pL), (1, .ref 0), (2, .ref ((53 + X.length))), (3, .int a3), (4, .int a4), (5, .int a5), (7, .int a7)], [.ref 0], hlw X (q27.2, u.2), k, n))
    obtain ⟨q28, hq28, H⟩ := am_bnE H
    refine am_invd rfl rfl (hl_0 X _) rfl (am_kfc rfl hX (M_Loc_never (D := 996) hq28) (fun _ => rfl) (fun _ => rfl) hk hn (?_ : am_gw L xs k n (575, [(0, .ref am_pL), (1, .ref 0), (2, .ref ((53 + X.length))), (3, .int a3), (4, .int a4), (5, .int a5), (7, .int a7)], [.int q28.1], hlw X (q28.2, (q27.2, u.2).2), k, n)))
    refine am_go_blk 3 (?_ : am_gw L xs k n (579, [(0, .ref am_pL), (1, .ref 0), (2, .ref ((53 + X.length))), (3, .int a3), (4, .int a4), (5, .int a5), (7, .int a7)], [.ref ((53 + X.length)), .ref am_pL, .int a5, .int q28.1], hlw X (q28.2, (q27.2, u.2).2), k, n))
    obtain ⟨q29, hq29, H⟩ := am_bnE H
    refine am_cls rfl rfl rfl (am_kcall (am_hl rfl (hl_le hX)) (M_W_last (D := 994) hX hq29) hl_len2 hk hn (?_ : am_gw L xs k n (582, [(0, .ref am_pL), (1, .ref 0), (2, .ref ((53 + X.length))), (3, .int a3), (4, .int a4), (5, .int a5), (7, .int a7)], [.int q29.1, .int a5, .int q28.1], hlw X q29.2, k, n)))
    refine am_go_blk 4 ⟨fun hc => ?_, fun hc => ?_⟩
    · have H := am_it hc H
      show am_gw L xs k n (590, [(0, .ref am_pL), (1, .ref 0), (2, .ref ((53 + X.length))), (3, .int a3), (4, .int a4), (5, .int a5), (7, .int a7)], [], hlw X q29.2, k, n)
      exact am_go_blk 2 (Hr480 a3 a4 a5 (a7 + (nI 1)) q29.2 H)
    · have H := am_ie hc H
      exact T_W_law_588 hX hk hn Hx q29.2 H
theorem T_W_law_538 {L : Nat} {xs : Nat → Int32} {X : am_H} {k n : Nat} (hX : X.length ≤ 1000) (hk : k ≤ 600000) (hn : n ≤ 7302250) (Hx : ∀ u, am_gw L xs k n (871, [], [], hlw X u, k, n)) {r480 : Int32 → Int32 → Int32 → Int32 → am_U → Option (Int32)} (Hr480 : ∀ (a3 : Int32) (a4 : Int32) (a5 : Int32) (a7 : Int32) (u : am_U), r480 a3 a4 a5 a7 u = some (nI 1) → am_gw L xs k n (480, [(0, .ref am_pL), (1, .ref 0), (2, .ref ((53 + X.length))), (3, .int a3), (4, .int a4), (5, .int a5), (7, .int a7)], [], hlw X u, k, n)) (a3 : Int32) (a4 : Int32) (a5 : Int32) (a7 : Int32) (a8 : Int32) (a9 : Int32) (s0 : Int32) (s1 : Int32) (u : am_U) (H : F_W_law_538 L xs r480 a3 a4 a5 a7 a8 a9 s0 s1 u = some (nI 1)) : am_gw L xs k n (538, [(0, .ref am_pL), (1, .ref 0), (2, .ref ((53 + X.length))), (3, .int a3), (4, .int a4), (5, .int a5), (7, .int a7), (8, .int a8), (9, .int a9)], [.int s0, .int s1], hlw X u, k, n) := by
  unfold F_W_law_538 at H
  refine am_go_blk 1 ⟨fun hc => ?_, fun hc => ?_⟩
  · have H := am_it hc H
    show am_gw L xs k n (543, [(0, .ref am_pL), (1, .ref 0), (2, .ref ((53 + X.length))), (3, .int a3), (4, .int a4), (5, .int a5), (7, .int a7), (8, .int a8), (9, .int a9)], [], hlw X u, k, n)
    refine am_go_blk 2 ⟨fun hc => ?_, fun hc => ?_⟩
    · have H := am_it hc H
      exact T_W_law_558 hX hk hn Hx Hr480 a3 a4 a5 a7 u H
    · have H := am_ie hc H
      show am_gw L xs k n (548, [(0, .ref am_pL), (1, .ref 0), (2, .ref ((53 + X.length))), (3, .int a3), (4, .int a4), (5, .int a5), (7, .int a7), (8, .int a8), (9, .int a9)], [], hlw X u, k, n)
      refine am_go_blk 3 (?_ : am_gw L xs k n (551, [(0, .ref am_pL), (1, .ref 0), (2, .ref ((53 + X.length))), (3, .int a3), (4, .int a4), (5, .int a5), (7, .int a7), (8, .int a8), (9, .int a9)], [.int (nI 0), .ref ((53 + X.length)), .int (nI 0), .ref ((53 + X.length))], hlw X u, k, n))
      obtain ⟨hc, H⟩ := am_ckE H
      refine am_lald rfl hl_get (am_inv hc) (?_ : am_gw L xs k n (552, [(0, .ref am_pL), (1, .ref 0), (2, .ref ((53 + X.length))), (3, .int a3), (4, .int a4), (5, .int a5), (7, .int a7), (8, .int a8), (9, .int a9)], [.long (u.2 (nI 0).toNatClampNeg), .int (nI 0), .ref ((53 + X.length))], hlw X u, k, n))
      refine am_go_blk 4 (?_ : am_gw L xs k n (557, [(0, .ref am_pL), (1, .ref 0), (2, .ref ((53 + X.length))), (3, .int a3), (4, .int a4), (5, .int a5), (7, .int a7), (8, .int a8), (9, .int a9)], [.long ((u.2 (nI 0).toNatClampNeg) ||| ((lN 1) <<< (a8.toInt64 &&& 63))), .int (nI 0), .ref ((53 + X.length))], hlw X u, k, n))
      obtain ⟨hc, H⟩ := am_ckE H
      obtain ⟨u30, eu30, H⟩ := am_ltE H
      refine am_lasd rfl hl_get (am_inv hc) (hl_set eu30) (?_ : am_gw L xs k n (558, [(0, .ref am_pL), (1, .ref 0), (2, .ref ((53 + X.length))), (3, .int a3), (4, .int a4), (5, .int a5), (7, .int a7)], [], hlw X u30, k, n))
      exact T_W_law_558 hX hk hn Hx Hr480 a3 a4 a5 a7 u30 H
  · have H := am_ie hc H
    show am_gw L xs k n (541, [(0, .ref am_pL), (1, .ref 0), (2, .ref ((53 + X.length))), (3, .int a3), (4, .int a4), (5, .int a5), (7, .int a7), (8, .int a8), (9, .int a9)], [], hlw X u, k, n)
    exact am_go_blk 2 ⟨am_fn1 H, am_f1 H⟩
theorem T_W_law_480 {L : Nat} {xs : Nat → Int32} {X : am_H} {k n : Nat} (hX : X.length ≤ 1000) (hk : k ≤ 600000) (hn : n ≤ 7302250) (Hx : ∀ u, am_gw L xs k n (871, [], [], hlw X u, k, n)) {r480 : Int32 → Int32 → Int32 → Int32 → am_U → Option (Int32)} (Hr480 : ∀ (a3 : Int32) (a4 : Int32) (a5 : Int32) (a7 : Int32) (u : am_U), r480 a3 a4 a5 a7 u = some (nI 1) → am_gw L xs k n (480, [(0, .ref am_pL), (1, .ref 0), (2, .ref ((53 + X.length))), (3, .int a3), (4, .int a4), (5, .int a5), (7, .int a7)], [], hlw X u, k, n)) (a3 : Int32) (a4 : Int32) (a5 : Int32) (a7 : Int32) (u : am_U) (H : F_W_law_480 L xs r480 a3 a4 a5 a7 u = some (nI 1)) : am_gw L xs k n (480, [(0, .ref am_pL), (1, .ref 0), (2, .ref ((53 + X.length))), (3, .int a3), (4, .int a4), (5, .int a5), (7, .int a7)], [], hlw X u, k, n) := by
  unfold F_W_law_480 at H
  refine am_go_blk 3 ⟨fun hc => ?_, fun hc => ?_⟩
  · have H := am_it hc H
    show am_gw L xs k n (596, [(0, .ref am_pL), (1, .ref 0), (2, .ref ((53 + X.length))), (3, .int a3), (4, .int a4), (5, .int a5)], [], hlw X u, k, n)
    exact am_go_blk 2 (TL_W_law_599 hX hk hn Hx am_NF a3 a4 a5 (nI 0) u H)
  · have H := am_ie hc H
    show am_gw L xs k n (486, [(0, .ref am_pL), (1, .ref 0), (2, .ref ((53 + X.length))), (3, .int a3), (4, .int a4), (5, .int a5), (7, .int a7)], [], hlw X u, k, n)
    refine am_go_blk 2 (?_ : am_gw L xs k n (489, [(0, .ref am_pL), (1, .ref 0), (2, .ref ((53 + X.length))), (3, .int a3), (4, .int a4), (5, .int a5), (7, .int a7)], [.int (nI 10), .ref am_pL], hlw X u, k, n))
    obtain ⟨q24, hq24, H⟩ := am_bnE H
    refine am_cls rfl rfl rfl (am_kcall (am_hl rfl (hl_le hX)) (M_W_at (D := 999) (hl_le hX) hq24) rfl hk hn (?_ : am_gw L xs k n (492, [(0, .ref am_pL), (1, .ref 0), (2, .ref ((53 + X.length))), (3, .int a3), (4, .int a4), (5, .int a5), (7, .int a7)], [.int q24], hlw X u, k, n)))
    obtain ⟨hc, H⟩ := am_inE H
    refine am_go_blk 8 ⟨hc, (?_ : am_gw L xs k n (501, [(0, .ref am_pL), (1, .ref 0), (2, .ref ((53 + X.length))), (3, .int a3), (4, .int a4), (5, .int a5), (7, .int a7)], [.int (((q24 >>> (((nI 2) * a7) &&& 31)) &&& (nI 3)) - ((q24 >>> (((nI 2) * a7) &&& 31)) &&& (nI 3)) / a3 * a3)], hlw X u, k, n))⟩
    refine am_go_blk 4 (?_ : am_gw L xs k n (507, [(8, .int (((q24 >>> (((nI 2) * a7) &&& 31)) &&& (nI 3)) - ((q24 >>> (((nI 2) * a7) &&& 31)) &&& (nI 3)) / a3 * a3)), (0, .ref am_pL), (1, .ref 0), (2, .ref ((53 + X.length))), (3, .int a3), (4, .int a4), (5, .int a5), (7, .int a7)], [.int (((q24 >>> (((nI 2) * a7) &&& 31)) &&& (nI 3)) - ((q24 >>> (((nI 2) * a7) &&& 31)) &&& (nI 3)) / a3 * a3), .ref ((53 + X.length)), .ref am_pL], hlw X u, k, n))
    obtain ⟨q25, hq25, H⟩ := am_bnE H
    refine am_cls rfl rfl rfl (am_kcall (am_hl rfl (hl_le hX)) (M_W_can (D := 995) hX hq25) hl_len2 hk hn (?_ : am_gw L xs k n (510, [(8, .int (((q24 >>> (((nI 2) * a7) &&& 31)) &&& (nI 3)) - ((q24 >>> (((nI 2) * a7) &&& 31)) &&& (nI 3)) / a3 * a3)), (0, .ref am_pL), (1, .ref 0), (2, .ref ((53 + X.length))), (3, .int a3), (4, .int a4), (5, .int a5), (7, .int a7)], [.int q25.1], hlw X q25.2, k, n)))
    refine am_go_blk 3 (?_ : am_gw L xs k n (515, [(9, .int q25.1), (8, .int (((q24 >>> (((nI 2) * a7) &&& 31)) &&& (nI 3)) - ((q24 >>> (((nI 2) * a7) &&& 31)) &&& (nI 3)) / a3 * a3)), (0, .ref am_pL), (1, .ref 0), (2, .ref ((53 + X.length))), (3, .int a3), (4, .int a4), (5, .int a5), (7, .int a7)], [.int (((q24 >>> (((nI 2) * a7) &&& 31)) &&& (nI 3)) - ((q24 >>> (((nI 2) * a7) &&& 31)) &&& (nI 3)) / a3 * a3), .ref 0], hlw X q25.2, k, n))
    obtain ⟨q26, hq26, H⟩ := am_bnE H
    refine am_invd rfl rfl (hl_0 X _) rfl (am_kfc rfl hX (M_Loc_go (D := 997) hq26) (fun _ => rfl) (fun _ => rfl) hk hn (?_ : am_gw L xs k n (518, [(9, .int q25.1), (8, .int (((q24 >>> (((nI 2) * a7) &&& 31)) &&& (nI 3)) - ((q24 >>> (((nI 2) * a7) &&& 31)) &&& (nI 3)) / a3 * a3)), (0, .ref am_pL), (1, .ref 0), (2, .ref ((53 + X.length))), (3, .int a3), (4, .int a4), (5, .int a5), (7, .int a7)], [.int q26.1], hlw X (q26.2, q25.2.2), k, n)))
    refine am_go_blk 2 ⟨fun hc => ?_, fun hc => ?_⟩
    · have H := am_it hc H
      show am_gw L xs k n (536, [(0, .ref am_pL), (1, .ref 0), (2, .ref ((53 + X.length))), (3, .int a3), (4, .int a4), (5, .int a5), (7, .int a7), (8, .int (((q24 >>> (((nI 2) * a7) &&& 31)) &&& (nI 3)) - ((q24 >>> (((nI 2) * a7) &&& 31)) &&& (nI 3)) / a3 * a3)), (9, .int q25.1)], [.int q26.1], hlw X (q26.2, q25.2.2), k, n)
      exact am_go_blk 1 (T_W_law_538 hX hk hn Hx Hr480 a3 a4 a5 a7 (((q24 >>> (((nI 2) * a7) &&& 31)) &&& (nI 3)) - ((q24 >>> (((nI 2) * a7) &&& 31)) &&& (nI 3)) / a3 * a3) q25.1 (-nI 3) q26.1 (q26.2, q25.2.2) H)
    · have H := am_ie hc H
      show am_gw L xs k n (523, [(9, .int q25.1), (8, .int (((q24 >>> (((nI 2) * a7) &&& 31)) &&& (nI 3)) - ((q24 >>> (((nI 2) * a7) &&& 31)) &&& (nI 3)) / a3 * a3)), (0, .ref am_pL), (1, .ref 0), (2, .ref ((53 + X.length))), (3, .int a3), (4, .int a4), (5, .int a5), (7, .int a7)], [.int q26.1], hlw X (q26.2, q25.2.2), k, n)
      refine am_go_blk 3 (?_ : am_gw L xs k n (526, [(9, .int q25.1), (8, .int (((q24 >>> (((nI 2) * a7) &&& 31)) &&& (nI 3)) - ((q24 >>> (((nI 2) * a7) &&& 31)) &&& (nI 3)) / a3 * a3)), (0, .ref am_pL), (1, .ref 0), (2, .ref ((53 + X.length))), (3, .int a3), (4, .int a4), (5, .int a5), (7, .int a7)], [.int (nI 0), .ref ((53 + X.length)), .int a3, .int q26.1], hlw X (q26.2, q25.2.2), k, n))
      obtain ⟨hc, H⟩ := am_ckE H
      refine am_lald rfl hl_get (am_inv hc) (?_ : am_gw L xs k n (527, [(9, .int q25.1), (8, .int (((q24 >>> (((nI 2) * a7) &&& 31)) &&& (nI 3)) - ((q24 >>> (((nI 2) * a7) &&& 31)) &&& (nI 3)) / a3 * a3)), (0, .ref am_pL), (1, .ref 0), (2, .ref ((53 + X.length))), (3, .int a3), (4, .int a4), (5, .int a5), (7, .int a7)], [.long ((q26.2, q25.2.2).2 (nI 0).toNatClampNeg), .int a3, .int q26.1], hlw X (q26.2, q25.2.2), k, n))
      obtain ⟨q31, hq31, H⟩ := am_bnE H
      refine am_cls rfl rfl rfl (am_kcall (am_hl rfl (hl_le hX)) (M_W_lbits (D := 999) (hl_le hX) hq31) rfl hk hn (?_ : am_gw L xs k n (530, [(9, .int q25.1), (8, .int (((q24 >>> (((nI 2) * a7) &&& 31)) &&& (nI 3)) - ((q24 >>> (((nI 2) * a7) &&& 31)) &&& (nI 3)) / a3 * a3)), (0, .ref am_pL), (1, .ref 0), (2, .ref ((53 + X.length))), (3, .int a3), (4, .int a4), (5, .int a5), (7, .int a7)], [.int q31, .int a3, .int q26.1], hlw X (q26.2, q25.2.2), k, n)))
      exact am_go_blk 4 (T_W_law_538 hX hk hn Hx Hr480 a3 a4 a5 a7 (((q24 >>> (((nI 2) * a7) &&& 31)) &&& (nI 3)) - ((q24 >>> (((nI 2) * a7) &&& 31)) &&& (nI 3)) / a3 * a3) q25.1 ((a3 - q31) - (nI 1)) q26.1 (q26.2, q25.2.2) H)
theorem TL_W_law_480 {L : Nat} {xs : Nat → Int32} {X : am_H} {k n : Nat} (hX : X.length ≤ 1000) (hk : k ≤ 600000) (hn : n ≤ 7302250) (Hx : ∀ u, am_gw L xs k n (871, [], [], hlw X u, k, n)) : ∀ (N : Nat) (a3 : Int32) (a4 : Int32) (a5 : Int32) (a7 : Int32) (u : am_U), L_W_law_480 L xs N a3 a4 a5 a7 u = some (nI 1) → am_gw L xs k n (480, [(0, .ref am_pL), (1, .ref 0), (2, .ref ((53 + X.length))), (3, .int a3), (4, .int a4), (5, .int a5), (7, .int a7)], [], hlw X u, k, n)
  | 0, _, _, _, _, _, H => by cases H
  | N + 1, a3, a4, a5, a7, u, H => T_W_law_480 hX hk hn Hx (TL_W_law_480 hX hk hn Hx N) a3 a4 a5 a7 u H
theorem T_W_law_431 {L : Nat} {xs : Nat → Int32} {X : am_H} {k n : Nat} (hX : X.length ≤ 1000) (hk : k ≤ 600000) (hn : n ≤ 7302250) (Hx : ∀ u, am_gw L xs k n (871, [], [], hlw X u, k, n)) (u : am_U) (H : F_W_law_431 L xs u = some (nI 1)) : am_gw L xs k n (431, [], [], hlw X u, k, n) := by
  unfold F_W_law_431 at H
  exact am_go_blk 2 ⟨am_fn1 H, am_f1 H⟩
theorem T_W_law_471 {L : Nat} {xs : Nat → Int32} {X : am_H} {k n : Nat} (hX : X.length ≤ 1000) (hk : k ≤ 600000) (hn : n ≤ 7302250) (Hx : ∀ u, am_gw L xs k n (871, [], [], hlw X u, k, n)) {r371 : Int32 → Int32 → Int32 → Int32 → Int32 → am_U → Option (Int32)} (Hr371 : ∀ (a3 : Int32) (a4 : Int32) (a5 : Int32) (a6 : Int32) (a7 : Int32) (u : am_U), r371 a3 a4 a5 a6 a7 u = some (nI 1) → am_gw L xs k n (371, [(0, .ref am_pL), (1, .ref 0), (2, .ref ((53 + X.length))), (3, .int a3), (4, .int a4), (5, .int a5), (6, .int a6), (7, .int a7)], [], hlw X u, k, n)) (a3 : Int32) (a4 : Int32) (a5 : Int32) (a6 : Int32) (a7 : Int32) (u : am_U) (H : F_W_law_471 L xs r371 a3 a4 a5 a6 a7 u = some (nI 1)) : am_gw L xs k n (471, [(0, .ref am_pL), (1, .ref 0), (2, .ref ((53 + X.length))), (3, .int a3), (4, .int a4), (5, .int a5), (6, .int a6), (7, .int a7)], [], hlw X u, k, n) := by
  unfold F_W_law_471 at H
  exact am_go_blk 2 (Hr371 a3 a4 a5 a6 (a7 + (nI 1)) u H)
theorem T_W_law_469 {L : Nat} {xs : Nat → Int32} {X : am_H} {k n : Nat} (hX : X.length ≤ 1000) (hk : k ≤ 600000) (hn : n ≤ 7302250) (Hx : ∀ u, am_gw L xs k n (871, [], [], hlw X u, k, n)) (u : am_U) (H : F_W_law_469 L xs u = some (nI 1)) : am_gw L xs k n (469, [], [], hlw X u, k, n) := by
  unfold F_W_law_469 at H
  exact am_go_blk 2 ⟨am_fn1 H, am_f1 H⟩
theorem T_W_law_448 {L : Nat} {xs : Nat → Int32} {X : am_H} {k n : Nat} (hX : X.length ≤ 1000) (hk : k ≤ 600000) (hn : n ≤ 7302250) (Hx : ∀ u, am_gw L xs k n (871, [], [], hlw X u, k, n)) {r371 : Int32 → Int32 → Int32 → Int32 → Int32 → am_U → Option (Int32)} (Hr371 : ∀ (a3 : Int32) (a4 : Int32) (a5 : Int32) (a6 : Int32) (a7 : Int32) (u : am_U), r371 a3 a4 a5 a6 a7 u = some (nI 1) → am_gw L xs k n (371, [(0, .ref am_pL), (1, .ref 0), (2, .ref ((53 + X.length))), (3, .int a3), (4, .int a4), (5, .int a5), (6, .int a6), (7, .int a7)], [], hlw X u, k, n)) (a3 : Int32) (a4 : Int32) (a5 : Int32) (a6 : Int32) (a7 : Int32) (u : am_U) (H : F_W_law_448 L xs r371 a3 a4 a5 a6 a7 u = some (nI 1)) : am_gw L xs k n (448, [(0, .ref am_pL), (1, .ref 0), (2, .ref ((53 + X.length))), (3, .int a3), (4, .int a4), (5, .int a5), (6, .int a6), (7, .int a7)], [], hlw X u, k, n) := by
  unfold F_W_law_448 at H
  refine am_go_blk 7 ⟨fun hc => ?_, fun hc => ?_⟩
  · have H := am_ie hc H
    exact T_W_law_471 hX hk hn Hx Hr371 a3 a4 a5 a6 a7 u H
  · have H := am_it hc H
    show am_gw L xs k n (459, [(0, .ref am_pL), (1, .ref 0), (2, .ref ((53 + X.length))), (3, .int a3), (4, .int a4), (5, .int a5), (6, .int a6), (7, .int a7)], [], hlw X u, k, n)
    refine am_go_blk 3 (?_ : am_gw L xs k n (463, [(0, .ref am_pL), (1, .ref 0), (2, .ref ((53 + X.length))), (3, .int a3), (4, .int a4), (5, .int a5), (6, .int a6), (7, .int a7)], [.int (nI 1), .int a7, .ref 0], hlw X u, k, n))
    obtain ⟨q34, hq34, H⟩ := am_bnE H
    refine am_invd rfl rfl (hl_0 X _) rfl (am_kfc rfl hX (M_Loc_first (D := 995) hq34) (fun _ => rfl) (fun _ => rfl) hk hn (?_ : am_gw L xs k n (466, [(0, .ref am_pL), (1, .ref 0), (2, .ref ((53 + X.length))), (3, .int a3), (4, .int a4), (5, .int a5), (6, .int a6), (7, .int a7)], [.int q34.1], hlw X (q34.2, u.2), k, n)))
    refine am_go_blk 1 ⟨fun hc => ?_, fun hc => ?_⟩
    · have H := am_it hc H
      exact T_W_law_471 hX hk hn Hx Hr371 a3 a4 a5 a6 a7 (q34.2, u.2) H
    · have H := am_ie hc H
      exact T_W_law_469 hX hk hn Hx (q34.2, u.2) H
theorem T_W_law_433 {L : Nat} {xs : Nat → Int32} {X : am_H} {k n : Nat} (hX : X.length ≤ 1000) (hk : k ≤ 600000) (hn : n ≤ 7302250) (Hx : ∀ u, am_gw L xs k n (871, [], [], hlw X u, k, n)) {r371 : Int32 → Int32 → Int32 → Int32 → Int32 → am_U → Option (Int32)} (Hr371 : ∀ (a3 : Int32) (a4 : Int32) (a5 : Int32) (a6 : Int32) (a7 : Int32) (u : am_U), r371 a3 a4 a5 a6 a7 u = some (nI 1) → am_gw L xs k n (371, [(0, .ref am_pL), (1, .ref 0), (2, .ref ((53 + X.length))), (3, .int a3), (4, .int a4), (5, .int a5), (6, .int a6), (7, .int a7)], [], hlw X u, k, n)) (a3 : Int32) (a4 : Int32) (a5 : Int32) (a6 : Int32) (a7 : Int32) (a8 : Int32) (u : am_U) (H : F_W_law_433 L xs r371 a3 a4 a5 a6 a7 a8 u = some (nI 1)) : am_gw L xs k n (433, [(0, .ref am_pL), (1, .ref 0), (2, .ref ((53 + X.length))), (3, .int a3), (4, .int a4), (5, .int a5), (6, .int a6), (7, .int a7), (8, .int a8)], [], hlw X u, k, n) := by
  unfold F_W_law_433 at H
  refine am_go_blk 2 ⟨fun hc => ?_, fun hc => ?_⟩
  · have H := am_it hc H
    exact T_W_law_448 hX hk hn Hx Hr371 a3 a4 a5 a6 a7 u H
  · have H := am_ie hc H
    show am_gw L xs k n (438, [(0, .ref am_pL), (1, .ref 0), (2, .ref ((53 + X.length))), (3, .int a3), (4, .int a4), (5, .int a5), (6, .int a6), (7, .int a7), (8, .int a8)], [], hlw X u, k, n)
    refine am_go_blk 3 (?_ : am_gw L xs k n (442, [(0, .ref am_pL), (1, .ref 0), (2, .ref ((53 + X.length))), (3, .int a3), (4, .int a4), (5, .int a5), (6, .int a6), (7, .int a7), (8, .int a8)], [.int (nI 1), .int a7, .ref 0], hlw X u, k, n))
    obtain ⟨q35, hq35, H⟩ := am_bnE H
    refine am_invd rfl rfl (hl_0 X _) rfl (am_kfc rfl hX (M_Loc_first (D := 995) hq35) (fun _ => rfl) (fun _ => rfl) hk hn (?_ : am_gw L xs k n (445, [(0, .ref am_pL), (1, .ref 0), (2, .ref ((53 + X.length))), (3, .int a3), (4, .int a4), (5, .int a5), (6, .int a6), (7, .int a7), (8, .int a8)], [.int q35.1], hlw X (q35.2, u.2), k, n)))
    refine am_go_blk 1 ⟨fun hc => ?_, fun hc => ?_⟩
    · have H := am_it hc H
      exact T_W_law_469 hX hk hn Hx (q35.2, u.2) H
    · have H := am_ie hc H
      exact T_W_law_448 hX hk hn Hx Hr371 a3 a4 a5 a6 a7 (q35.2, u.2) H
theorem T_W_law_413 {L : Nat} {xs : Nat → Int32} {X : am_H} {k n : Nat} (hX : X.length ≤ 1000) (hk : k ≤ 600000) (hn : n ≤ 7302250) (Hx : ∀ u, am_gw L xs k n (871, [], [], hlw X u, k, n)) {r371 : Int32 → Int32 → Int32 → Int32 → Int32 → am_U → Option (Int32)} (Hr371 : ∀ (a3 : Int32) (a4 : Int32) (a5 : Int32) (a6 : Int32) (a7 : Int32) (u : am_U), r371 a3 a4 a5 a6 a7 u = some (nI 1) → am_gw L xs k n (371, [(0, .ref am_pL), (1, .ref 0), (2, .ref ((53 + X.length))), (3, .int a3), (4, .int a4), (5, .int a5), (6, .int a6), (7, .int a7)], [], hlw X u, k, n)) (a3 : Int32) (a4 : Int32) (a5 : Int32) (a6 : Int32) (a7 : Int32) (a8 : Int32) (s0 : Int32) (s1 : Int32) (u : am_U) (H : F_W_law_413 L xs r371 a3 a4 a5 a6 a7 a8 s0 s1 u = some (nI 1)) : am_gw L xs k n (413, [(0, .ref am_pL), (1, .ref 0), (2, .ref ((53 + X.length))), (3, .int a3), (4, .int a4), (5, .int a5), (6, .int a6), (7, .int a7), (8, .int a8)], [.int s0, .int s1], hlw X u, k, n) := by
  unfold F_W_law_413 at H
  refine am_go_blk 1 ⟨fun hc => ?_, fun hc => ?_⟩
  · have H := am_ie hc H
    exact T_W_law_431 hX hk hn Hx u H
  · have H := am_it hc H
    show am_gw L xs k n (416, [(0, .ref am_pL), (1, .ref 0), (2, .ref ((53 + X.length))), (3, .int a3), (4, .int a4), (5, .int a5), (6, .int a6), (7, .int a7), (8, .int a8)], [], hlw X u, k, n)
    refine am_go_blk 2 ⟨fun hc => ?_, fun hc => ?_⟩
    · have H := am_it hc H
      exact T_W_law_433 hX hk hn Hx Hr371 a3 a4 a5 a6 a7 a8 u H
    · have H := am_ie hc H
      show am_gw L xs k n (421, [(0, .ref am_pL), (1, .ref 0), (2, .ref ((53 + X.length))), (3, .int a3), (4, .int a4), (5, .int a5), (6, .int a6), (7, .int a7), (8, .int a8)], [], hlw X u, k, n)
      refine am_go_blk 2 (?_ : am_gw L xs k n (424, [(0, .ref am_pL), (1, .ref 0), (2, .ref ((53 + X.length))), (3, .int a3), (4, .int a4), (5, .int a5), (6, .int a6), (7, .int a7), (8, .int a8)], [.int a7, .ref am_pL], hlw X u, k, n))
      obtain ⟨q36, hq36, H⟩ := am_bnE H
      refine am_cls rfl rfl rfl (am_kcall (am_hl rfl (hl_le hX)) (M_W_kind (D := 998) (hl_le hX) hq36) rfl hk hn (?_ : am_gw L xs k n (427, [(0, .ref am_pL), (1, .ref 0), (2, .ref ((53 + X.length))), (3, .int a3), (4, .int a4), (5, .int a5), (6, .int a6), (7, .int a7), (8, .int a8)], [.int q36], hlw X u, k, n)))
      refine am_go_blk 2 ⟨fun hc => ?_, fun hc => ?_⟩
      · have H := am_ie hc H
        exact T_W_law_433 hX hk hn Hx Hr371 a3 a4 a5 a6 a7 a8 u H
      · have H := am_it hc H
        exact T_W_law_431 hX hk hn Hx u H
theorem T_W_law_394 {L : Nat} {xs : Nat → Int32} {X : am_H} {k n : Nat} (hX : X.length ≤ 1000) (hk : k ≤ 600000) (hn : n ≤ 7302250) (Hx : ∀ u, am_gw L xs k n (871, [], [], hlw X u, k, n)) {r371 : Int32 → Int32 → Int32 → Int32 → Int32 → am_U → Option (Int32)} (Hr371 : ∀ (a3 : Int32) (a4 : Int32) (a5 : Int32) (a6 : Int32) (a7 : Int32) (u : am_U), r371 a3 a4 a5 a6 a7 u = some (nI 1) → am_gw L xs k n (371, [(0, .ref am_pL), (1, .ref 0), (2, .ref ((53 + X.length))), (3, .int a3), (4, .int a4), (5, .int a5), (6, .int a6), (7, .int a7)], [], hlw X u, k, n)) (a3 : Int32) (a4 : Int32) (a5 : Int32) (a6 : Int32) (a7 : Int32) (s0 : Int32) (u : am_U) (H : F_W_law_394 L xs r371 a3 a4 a5 a6 a7 s0 u = some (nI 1)) : am_gw L xs k n (394, [(0, .ref am_pL), (1, .ref 0), (2, .ref ((53 + X.length))), (3, .int a3), (4, .int a4), (5, .int a5), (6, .int a6), (7, .int a7)], [.int s0], hlw X u, k, n) := by
  unfold F_W_law_394 at H
  refine am_go_blk 5 (?_ : am_gw L xs k n (402, [(8, .int s0), (0, .ref am_pL), (1, .ref 0), (2, .ref ((53 + X.length))), (3, .int a3), (4, .int a4), (5, .int a5), (6, .int a6), (7, .int a7)], [.int (nI 0), .int a7, .ref 0, .int s0], hlw X u, k, n))
  obtain ⟨q33, hq33, H⟩ := am_bnE H
  refine am_invd rfl rfl (hl_0 X _) rfl (am_kfc rfl hX (M_Loc_sawFor (D := 993) hq33) (fun _ => rfl) (fun _ => rfl) hk hn (?_ : am_gw L xs k n (405, [(8, .int s0), (0, .ref am_pL), (1, .ref 0), (2, .ref ((53 + X.length))), (3, .int a3), (4, .int a4), (5, .int a5), (6, .int a6), (7, .int a7)], [.int q33.1, .int s0], hlw X (q33.2, u.2), k, n)))
  refine am_go_blk 1 ⟨fun hc => ?_, fun hc => ?_⟩
  · have H := am_ie hc H
    show am_gw L xs k n (412, [(0, .ref am_pL), (1, .ref 0), (2, .ref ((53 + X.length))), (3, .int a3), (4, .int a4), (5, .int a5), (6, .int a6), (7, .int a7), (8, .int s0)], [.int s0], hlw X (q33.2, u.2), k, n)
    exact am_go_blk 1 (T_W_law_413 hX hk hn Hx Hr371 a3 a4 a5 a6 a7 s0 (nI 0) s0 (q33.2, u.2) H)
  · have H := am_it hc H
    show am_gw L xs k n (408, [(8, .int s0), (0, .ref am_pL), (1, .ref 0), (2, .ref ((53 + X.length))), (3, .int a3), (4, .int a4), (5, .int a5), (6, .int a6), (7, .int a7)], [.int s0], hlw X (q33.2, u.2), k, n)
    exact am_go_blk 2 (T_W_law_413 hX hk hn Hx Hr371 a3 a4 a5 a6 a7 s0 (nI 1) s0 (q33.2, u.2) H)
theorem T_W_law_371 {L : Nat} {xs : Nat → Int32} {X : am_H} {k n : Nat} (hX : X.length ≤ 1000) (hk : k ≤ 600000) (hn : n ≤ 7302250) (Hx : ∀ u, am_gw L xs k n (871, [], [], hlw X u, k, n)) {r371 : Int32 → Int32 → Int32 → Int32 → Int32 → am_U → Option (Int32)} (Hr371 : ∀ (a3 : Int32) (a4 : Int32) (a5 : Int32) (a6 : Int32) (a7 : Int32) (u : am_U), r371 a3 a4 a5 a6 a7 u = some (nI 1) → am_gw L xs k n (371, [(0, .ref am_pL), (1, .ref 0), (2, .ref ((53 + X.length))), (3, .int a3), (4, .int a4), (5, .int a5), (6, .int a6), (7, .int a7)], [], hlw X u, k, n)) (a3 : Int32) (a4 : Int32) (a5 : Int32) (a6 : Int32) (a7 : Int32) (u : am_U) (H : F_W_law_371 L xs r371 a3 a4 a5 a6 a7 u = some (nI 1)) : am_gw L xs k n (371, [(0, .ref am_pL), (1, .ref 0), (2, .ref ((53 + X.length))), (3, .int a3), (4, .int a4), (5, .int a5), (6, .int a6), (7, .int a7)], [], hlw X u, k, n) := by
  unfold F_W_law_371 at H
  refine am_go_blk 3 ⟨fun hc => ?_, fun hc => ?_⟩
  · have H := am_it hc H
    show am_gw L xs k n (477, [(0, .ref am_pL), (1, .ref 0), (2, .ref ((53 + X.length))), (3, .int a3), (4, .int a4), (5, .int a5)], [], hlw X u, k, n)
    exact am_go_blk 2 (TL_W_law_480 hX hk hn Hx am_NF a3 a4 a5 (nI 0) u H)
  · have H := am_ie hc H
    show am_gw L xs k n (377, [(0, .ref am_pL), (1, .ref 0), (2, .ref ((53 + X.length))), (3, .int a3), (4, .int a4), (5, .int a5), (6, .int a6), (7, .int a7)], [], hlw X u, k, n)
    refine am_go_blk 1 (?_ : am_gw L xs k n (378, [(0, .ref am_pL), (1, .ref 0), (2, .ref ((53 + X.length))), (3, .int a3), (4, .int a4), (5, .int a5), (6, .int a6), (7, .int a7)], [.ref 0], hlw X u, k, n))
    obtain ⟨q32, hq32, H⟩ := am_bnE H
    refine am_invd rfl rfl (hl_0 X _) rfl (am_kfc rfl hX (M_Loc_never (D := 996) hq32) (fun _ => rfl) (fun _ => rfl) hk hn (?_ : am_gw L xs k n (381, [(0, .ref am_pL), (1, .ref 0), (2, .ref ((53 + X.length))), (3, .int a3), (4, .int a4), (5, .int a5), (6, .int a6), (7, .int a7)], [.int q32.1], hlw X (q32.2, u.2), k, n)))
    refine am_go_blk 5 ⟨fun hc => ?_, fun hc => ?_⟩
    · have H := am_ie hc H
      show am_gw L xs k n (393, [(0, .ref am_pL), (1, .ref 0), (2, .ref ((53 + X.length))), (3, .int a3), (4, .int a4), (5, .int a5), (6, .int a6), (7, .int a7)], [], hlw X (q32.2, u.2), k, n)
      exact am_go_blk 1 (T_W_law_394 hX hk hn Hx Hr371 a3 a4 a5 a6 a7 (nI 0) (q32.2, u.2) H)
    · have H := am_it hc H
      show am_gw L xs k n (389, [(0, .ref am_pL), (1, .ref 0), (2, .ref ((53 + X.length))), (3, .int a3), (4, .int a4), (5, .int a5), (6, .int a6), (7, .int a7)], [], hlw X (q32.2, u.2), k, n)
      exact am_go_blk 2 (T_W_law_394 hX hk hn Hx Hr371 a3 a4 a5 a6 a7 (nI 1) (q32.2, u.2) H)
theorem TL_W_law_371 {L : Nat} {xs : Nat → Int32} {X : am_H} {k n : Nat} (hX : X.length ≤ 1000) (hk : k ≤ 600000) (hn : n ≤ 7302250) (Hx : ∀ u, am_gw L xs k n (871, [], [], hlw X u, k, n)) : ∀ (N : Nat) (a3 : Int32) (a4 : Int32) (a5 : Int32) (a6 : Int32) (a7 : Int32) (u : am_U), L_W_law_371 L xs N a3 a4 a5 a6 a7 u = some (nI 1) → am_gw L xs k n (371, [(0, .ref am_pL), (1, .ref 0), (2, .ref ((53 + X.length))), (3, .int a3), (4, .int a4), (5, .int a5), (6, .int a6), (7, .int a7)], [], hlw X u, k, n)
  | 0, _, _, _, _, _, _, H => by cases H
  | N + 1, a3, a4, a5, a6, a7, u, H => T_W_law_371 hX hk hn Hx (TL_W_law_371 hX hk hn Hx N) a3 a4 a5 a6 a7 u H
theorem T_W_law_360 {L : Nat} {xs : Nat → Int32} {X : am_H} {k n : Nat} (hX : X.length ≤ 1000) (hk : k ≤ 600000) (hn : n ≤ 7302250) (Hx : ∀ u, am_gw L xs k n (871, [], [], hlw X u, k, n)) (u : am_U) (H : F_W_law_360 L xs u = some (nI 1)) : am_gw L xs k n (360, [], [], hlw X u, k, n) := by
  unfold F_W_law_360 at H
  exact am_go_blk 2 ⟨am_fn1 H, am_f1 H⟩
theorem T_W_law_357 {L : Nat} {xs : Nat → Int32} {X : am_H} {k n : Nat} (hX : X.length ≤ 1000) (hk : k ≤ 600000) (hn : n ≤ 7302250) (Hx : ∀ u, am_gw L xs k n (871, [], [], hlw X u, k, n)) {r257 : Int32 → Int32 → Int32 → Int32 → Int32 → am_U → Option (Int32)} (Hr257 : ∀ (a3 : Int32) (a4 : Int32) (a5 : Int32) (a6 : Int32) (a7 : Int32) (u : am_U), r257 a3 a4 a5 a6 a7 u = some (nI 1) → am_gw L xs k n (257, [(0, .ref am_pL), (1, .ref 0), (2, .ref ((53 + X.length))), (3, .int a3), (4, .int a4), (5, .int a5), (6, .int a6), (7, .int a7)], [], hlw X u, k, n)) (a3 : Int32) (a4 : Int32) (a5 : Int32) (a6 : Int32) (a7 : Int32) (s0 : Int32) (s1 : Int32) (u : am_U) (H : F_W_law_357 L xs r257 a3 a4 a5 a6 a7 s0 s1 u = some (nI 1)) : am_gw L xs k n (357, [(0, .ref am_pL), (1, .ref 0), (2, .ref ((53 + X.length))), (3, .int a3), (4, .int a4), (5, .int a5), (6, .int a6), (7, .int a7)], [.int s0, .int s1], hlw X u, k, n) := by
  unfold F_W_law_357 at H
  refine am_go_blk 1 ⟨fun hc => ?_, fun hc => ?_⟩
  · have H := am_it hc H
    show am_gw L xs k n (362, [(0, .ref am_pL), (1, .ref 0), (2, .ref ((53 + X.length))), (3, .int a3), (4, .int a4), (5, .int a5), (6, .int a6), (7, .int a7)], [], hlw X u, k, n)
    exact am_go_blk 2 (Hr257 a3 a4 a5 a6 (a7 + (nI 1)) u H)
  · have H := am_ie hc H
    exact T_W_law_360 hX hk hn Hx u H
theorem T_W_law_333 {L : Nat} {xs : Nat → Int32} {X : am_H} {k n : Nat} (hX : X.length ≤ 1000) (hk : k ≤ 600000) (hn : n ≤ 7302250) (Hx : ∀ u, am_gw L xs k n (871, [], [], hlw X u, k, n)) {r257 : Int32 → Int32 → Int32 → Int32 → Int32 → am_U → Option (Int32)} (Hr257 : ∀ (a3 : Int32) (a4 : Int32) (a5 : Int32) (a6 : Int32) (a7 : Int32) (u : am_U), r257 a3 a4 a5 a6 a7 u = some (nI 1) → am_gw L xs k n (257, [(0, .ref am_pL), (1, .ref 0), (2, .ref ((53 + X.length))), (3, .int a3), (4, .int a4), (5, .int a5), (6, .int a6), (7, .int a7)], [], hlw X u, k, n)) (a3 : Int32) (a4 : Int32) (a5 : Int32) (a6 : Int32) (a7 : Int32) (s0 : Int32) (s1 : Int32) (u : am_U) (H : F_W_law_333 L xs r257 a3 a4 a5 a6 a7 s0 s1 u = some (nI 1)) : am_gw L xs k n (333, [(0, .ref am_pL), (1, .ref 0), (2, .ref ((53 + X.length))), (3, .int a3), (4, .int a4), (5, .int a5), (6, .int a6), (7, .int a7)], [.int s0, .int s1], hlw X u, k, n) := by
  unfold F_W_law_333 at H
  refine am_go_blk 1 ⟨fun hc => ?_, fun hc => ?_⟩
  · have H := am_ie hc H
    exact T_W_law_360 hX hk hn Hx u H
  · have H := am_it hc H
    show am_gw L xs k n (336, [(0, .ref am_pL), (1, .ref 0), (2, .ref ((53 + X.length))), (3, .int a3), (4, .int a4), (5, .int a5), (6, .int a6), (7, .int a7)], [], hlw X u, k, n)
    refine am_go_blk 3 (?_ : am_gw L xs k n (340, [(0, .ref am_pL), (1, .ref 0), (2, .ref ((53 + X.length))), (3, .int a3), (4, .int a4), (5, .int a5), (6, .int a6), (7, .int a7)], [.int (nI 4), .int a7, .ref 0], hlw X u, k, n))
    obtain ⟨q45, hq45, H⟩ := am_bnE H
    refine am_invd rfl rfl (hl_0 X _) rfl (am_kfc rfl hX (M_Loc_lockTold (D := 997) hq45) (fun _ => rfl) (fun _ => rfl) hk hn (?_ : am_gw L xs k n (343, [(0, .ref am_pL), (1, .ref 0), (2, .ref ((53 + X.length))), (3, .int a3), (4, .int a4), (5, .int a5), (6, .int a6), (7, .int a7)], [.int q45.1], hlw X (q45.2, u.2), k, n)))
    refine am_go_blk 2 (?_ : am_gw L xs k n (346, [(0, .ref am_pL), (1, .ref 0), (2, .ref ((53 + X.length))), (3, .int a3), (4, .int a4), (5, .int a5), (6, .int a6), (7, .int a7)], [.int a7, .ref am_pL, .int q45.1], hlw X (q45.2, u.2), k, n))
    obtain ⟨q46, hq46, H⟩ := am_bnE H
    refine am_cls rfl rfl rfl (am_kcall (am_hl rfl (hl_le hX)) (M_W_sawn (D := 998) (hl_le hX) hq46) rfl hk hn (?_ : am_gw L xs k n (349, [(0, .ref am_pL), (1, .ref 0), (2, .ref ((53 + X.length))), (3, .int a3), (4, .int a4), (5, .int a5), (6, .int a6), (7, .int a7)], [.int q46, .int q45.1], hlw X (q45.2, u.2), k, n)))
    refine am_go_blk 1 ⟨fun hc => ?_, fun hc => ?_⟩
    · have H := am_it hc H
      show am_gw L xs k n (356, [(0, .ref am_pL), (1, .ref 0), (2, .ref ((53 + X.length))), (3, .int a3), (4, .int a4), (5, .int a5), (6, .int a6), (7, .int a7)], [.int q45.1], hlw X (q45.2, u.2), k, n)
      exact am_go_blk 1 (T_W_law_357 hX hk hn Hx Hr257 a3 a4 a5 a6 a7 (nI 1) q45.1 (q45.2, u.2) H)
    · have H := am_ie hc H
      show am_gw L xs k n (352, [(0, .ref am_pL), (1, .ref 0), (2, .ref ((53 + X.length))), (3, .int a3), (4, .int a4), (5, .int a5), (6, .int a6), (7, .int a7)], [.int q45.1], hlw X (q45.2, u.2), k, n)
      exact am_go_blk 2 (T_W_law_357 hX hk hn Hx Hr257 a3 a4 a5 a6 a7 (nI 0) q45.1 (q45.2, u.2) H)
theorem T_W_law_257 {L : Nat} {xs : Nat → Int32} {X : am_H} {k n : Nat} (hX : X.length ≤ 1000) (hk : k ≤ 600000) (hn : n ≤ 7302250) (Hx : ∀ u, am_gw L xs k n (871, [], [], hlw X u, k, n)) {r257 : Int32 → Int32 → Int32 → Int32 → Int32 → am_U → Option (Int32)} (Hr257 : ∀ (a3 : Int32) (a4 : Int32) (a5 : Int32) (a6 : Int32) (a7 : Int32) (u : am_U), r257 a3 a4 a5 a6 a7 u = some (nI 1) → am_gw L xs k n (257, [(0, .ref am_pL), (1, .ref 0), (2, .ref ((53 + X.length))), (3, .int a3), (4, .int a4), (5, .int a5), (6, .int a6), (7, .int a7)], [], hlw X u, k, n)) (a3 : Int32) (a4 : Int32) (a5 : Int32) (a6 : Int32) (a7 : Int32) (u : am_U) (H : F_W_law_257 L xs r257 a3 a4 a5 a6 a7 u = some (nI 1)) : am_gw L xs k n (257, [(0, .ref am_pL), (1, .ref 0), (2, .ref ((53 + X.length))), (3, .int a3), (4, .int a4), (5, .int a5), (6, .int a6), (7, .int a7)], [], hlw X u, k, n) := by
  unfold F_W_law_257 at H
  refine am_go_blk 3 ⟨fun hc => ?_, fun hc => ?_⟩
  · have H := am_it hc H
    show am_gw L xs k n (368, [(0, .ref am_pL), (1, .ref 0), (2, .ref ((53 + X.length))), (3, .int a3), (4, .int a4), (5, .int a5), (6, .int a6)], [], hlw X u, k, n)
    exact am_go_blk 2 (TL_W_law_371 hX hk hn Hx am_NF a3 a4 a5 a6 (nI 0) u H)
  · have H := am_ie hc H
    show am_gw L xs k n (264, [(0, .ref am_pL), (1, .ref 0), (2, .ref ((53 + X.length))), (3, .int a3), (4, .int a4), (5, .int a5), (6, .int a6), (7, .int a7)], [], hlw X u, k, n)
    refine am_go_blk 3 (?_ : am_gw L xs k n (268, [(0, .ref am_pL), (1, .ref 0), (2, .ref ((53 + X.length))), (3, .int a3), (4, .int a4), (5, .int a5), (6, .int a6), (7, .int a7)], [.int (nI 0), .int a7, .ref 0], hlw X u, k, n))
    obtain ⟨q37, hq37, H⟩ := am_bnE H
    refine am_invd rfl rfl (hl_0 X _) rfl (am_kfc rfl hX (M_Loc_lockTold (D := 997) hq37) (fun _ => rfl) (fun _ => rfl) hk hn (?_ : am_gw L xs k n (271, [(0, .ref am_pL), (1, .ref 0), (2, .ref ((53 + X.length))), (3, .int a3), (4, .int a4), (5, .int a5), (6, .int a6), (7, .int a7)], [.int q37.1], hlw X (q37.2, u.2), k, n)))
    refine am_go_blk 2 (?_ : am_gw L xs k n (274, [(0, .ref am_pL), (1, .ref 0), (2, .ref ((53 + X.length))), (3, .int a3), (4, .int a4), (5, .int a5), (6, .int a6), (7, .int a7)], [.int a7, .ref am_pL, .int q37.1], hlw X (q37.2, u.2), k, n))
    obtain ⟨q38, hq38, H⟩ := am_bnE H
    refine am_cls rfl rfl rfl (am_kcall (am_hl rfl (hl_le hX)) (M_W_owner (D := 997) (hl_le hX) hq38) rfl hk hn (?_ : am_gw L xs k n (277, [(0, .ref am_pL), (1, .ref 0), (2, .ref ((53 + X.length))), (3, .int a3), (4, .int a4), (5, .int a5), (6, .int a6), (7, .int a7)], [.int q38, .int q37.1], hlw X (q37.2, u.2), k, n)))
    refine am_go_blk 1 ⟨fun hc => ?_, fun hc => ?_⟩
    · have H := am_ie hc H
      exact T_W_law_360 hX hk hn Hx (q37.2, u.2) H
    · have H := am_it hc H
      show am_gw L xs k n (280, [(0, .ref am_pL), (1, .ref 0), (2, .ref ((53 + X.length))), (3, .int a3), (4, .int a4), (5, .int a5), (6, .int a6), (7, .int a7)], [], hlw X (q37.2, u.2), k, n)
      refine am_go_blk 3 (?_ : am_gw L xs k n (284, [(0, .ref am_pL), (1, .ref 0), (2, .ref ((53 + X.length))), (3, .int a3), (4, .int a4), (5, .int a5), (6, .int a6), (7, .int a7)], [.int (nI 1), .int a7, .ref 0], hlw X (q37.2, u.2), k, n))
      obtain ⟨q39, hq39, H⟩ := am_bnE H
      refine am_invd rfl rfl (hl_0 X _) rfl (am_kfc rfl hX (M_Loc_lockTold (D := 997) hq39) (fun _ => rfl) (fun _ => rfl) hk hn (?_ : am_gw L xs k n (287, [(0, .ref am_pL), (1, .ref 0), (2, .ref ((53 + X.length))), (3, .int a3), (4, .int a4), (5, .int a5), (6, .int a6), (7, .int a7)], [.int q39.1], hlw X (q39.2, (q37.2, u.2).2), k, n)))
      refine am_go_blk 2 (?_ : am_gw L xs k n (290, [(0, .ref am_pL), (1, .ref 0), (2, .ref ((53 + X.length))), (3, .int a3), (4, .int a4), (5, .int a5), (6, .int a6), (7, .int a7)], [.int a7, .ref am_pL, .int q39.1], hlw X (q39.2, (q37.2, u.2).2), k, n))
      obtain ⟨q40, hq40, H⟩ := am_bnE H
      refine am_cls rfl rfl rfl (am_kcall (am_hl rfl (hl_le hX)) (M_W_sort (D := 998) (hl_le hX) hq40) rfl hk hn (?_ : am_gw L xs k n (293, [(0, .ref am_pL), (1, .ref 0), (2, .ref ((53 + X.length))), (3, .int a3), (4, .int a4), (5, .int a5), (6, .int a6), (7, .int a7)], [.int q40, .int q39.1], hlw X (q39.2, (q37.2, u.2).2), k, n)))
      refine am_go_blk 1 ⟨fun hc => ?_, fun hc => ?_⟩
      · have H := am_ie hc H
        exact T_W_law_360 hX hk hn Hx (q39.2, (q37.2, u.2).2) H
      · have H := am_it hc H
        show am_gw L xs k n (296, [(0, .ref am_pL), (1, .ref 0), (2, .ref ((53 + X.length))), (3, .int a3), (4, .int a4), (5, .int a5), (6, .int a6), (7, .int a7)], [], hlw X (q39.2, (q37.2, u.2).2), k, n)
        refine am_go_blk 3 (?_ : am_gw L xs k n (300, [(0, .ref am_pL), (1, .ref 0), (2, .ref ((53 + X.length))), (3, .int a3), (4, .int a4), (5, .int a5), (6, .int a6), (7, .int a7)], [.int (nI 2), .int a7, .ref 0], hlw X (q39.2, (q37.2, u.2).2), k, n))
        obtain ⟨q41, hq41, H⟩ := am_bnE H
        refine am_invd rfl rfl (hl_0 X _) rfl (am_kfc rfl hX (M_Loc_lockTold (D := 997) hq41) (fun _ => rfl) (fun _ => rfl) hk hn (?_ : am_gw L xs k n (303, [(0, .ref am_pL), (1, .ref 0), (2, .ref ((53 + X.length))), (3, .int a3), (4, .int a4), (5, .int a5), (6, .int a6), (7, .int a7)], [.int q41.1], hlw X (q41.2, (q39.2, (q37.2, u.2).2).2), k, n)))
        refine am_go_blk 2 (?_ : am_gw L xs k n (306, [(0, .ref am_pL), (1, .ref 0), (2, .ref ((53 + X.length))), (3, .int a3), (4, .int a4), (5, .int a5), (6, .int a6), (7, .int a7)], [.int a7, .ref am_pL, .int q41.1], hlw X (q41.2, (q39.2, (q37.2, u.2).2).2), k, n))
        obtain ⟨q42, hq42, H⟩ := am_bnE H
        refine am_cls rfl rfl rfl (am_kcall (am_hl rfl (hl_le hX)) (M_W_through (D := 997) (hl_le hX) hq42) rfl hk hn (?_ : am_gw L xs k n (309, [(0, .ref am_pL), (1, .ref 0), (2, .ref ((53 + X.length))), (3, .int a3), (4, .int a4), (5, .int a5), (6, .int a6), (7, .int a7)], [.int q42, .int q41.1], hlw X (q41.2, (q39.2, (q37.2, u.2).2).2), k, n)))
        refine am_go_blk 1 ⟨fun hc => ?_, fun hc => ?_⟩
        · have H := am_ie hc H
          exact T_W_law_360 hX hk hn Hx (q41.2, (q39.2, (q37.2, u.2).2).2) H
        · have H := am_it hc H
          show am_gw L xs k n (312, [(0, .ref am_pL), (1, .ref 0), (2, .ref ((53 + X.length))), (3, .int a3), (4, .int a4), (5, .int a5), (6, .int a6), (7, .int a7)], [], hlw X (q41.2, (q39.2, (q37.2, u.2).2).2), k, n)
          refine am_go_blk 3 (?_ : am_gw L xs k n (316, [(0, .ref am_pL), (1, .ref 0), (2, .ref ((53 + X.length))), (3, .int a3), (4, .int a4), (5, .int a5), (6, .int a6), (7, .int a7)], [.int (nI 3), .int a7, .ref 0], hlw X (q41.2, (q39.2, (q37.2, u.2).2).2), k, n))
          obtain ⟨q43, hq43, H⟩ := am_bnE H
          refine am_invd rfl rfl (hl_0 X _) rfl (am_kfc rfl hX (M_Loc_lockTold (D := 997) hq43) (fun _ => rfl) (fun _ => rfl) hk hn (?_ : am_gw L xs k n (319, [(0, .ref am_pL), (1, .ref 0), (2, .ref ((53 + X.length))), (3, .int a3), (4, .int a4), (5, .int a5), (6, .int a6), (7, .int a7)], [.int q43.1], hlw X (q43.2, (q41.2, (q39.2, (q37.2, u.2).2).2).2), k, n)))
          refine am_go_blk 2 (?_ : am_gw L xs k n (322, [(0, .ref am_pL), (1, .ref 0), (2, .ref ((53 + X.length))), (3, .int a3), (4, .int a4), (5, .int a5), (6, .int a6), (7, .int a7)], [.int a7, .ref am_pL, .int q43.1], hlw X (q43.2, (q41.2, (q39.2, (q37.2, u.2).2).2).2), k, n))
          obtain ⟨q44, hq44, H⟩ := am_bnE H
          refine am_cls rfl rfl rfl (am_kcall (am_hl rfl (hl_le hX)) (M_W_sawn (D := 998) (hl_le hX) hq44) rfl hk hn (?_ : am_gw L xs k n (325, [(0, .ref am_pL), (1, .ref 0), (2, .ref ((53 + X.length))), (3, .int a3), (4, .int a4), (5, .int a5), (6, .int a6), (7, .int a7)], [.int q44, .int q43.1], hlw X (q43.2, (q41.2, (q39.2, (q37.2, u.2).2).2).2), k, n)))
          refine am_go_blk 1 ⟨fun hc => ?_, fun hc => ?_⟩
          · have H := am_it hc H
            show am_gw L xs k n (332, [(0, .ref am_pL), (1, .ref 0), (2, .ref ((53 + X.length))), (3, .int a3), (4, .int a4), (5, .int a5), (6, .int a6), (7, .int a7)], [.int q43.1], hlw X (q43.2, (q41.2, (q39.2, (q37.2, u.2).2).2).2), k, n)
            exact am_go_blk 1 (T_W_law_333 hX hk hn Hx Hr257 a3 a4 a5 a6 a7 (nI 0) q43.1 (q43.2, (q41.2, (q39.2, (q37.2, u.2).2).2).2) H)
          · have H := am_ie hc H
            show am_gw L xs k n (328, [(0, .ref am_pL), (1, .ref 0), (2, .ref ((53 + X.length))), (3, .int a3), (4, .int a4), (5, .int a5), (6, .int a6), (7, .int a7)], [.int q43.1], hlw X (q43.2, (q41.2, (q39.2, (q37.2, u.2).2).2).2), k, n)
            exact am_go_blk 2 (T_W_law_333 hX hk hn Hx Hr257 a3 a4 a5 a6 a7 (nI 1) q43.1 (q43.2, (q41.2, (q39.2, (q37.2, u.2).2).2).2) H)
theorem TL_W_law_257 {L : Nat} {xs : Nat → Int32} {X : am_H} {k n : Nat} (hX : X.length ≤ 1000) (hk : k ≤ 600000) (hn : n ≤ 7302250) (Hx : ∀ u, am_gw L xs k n (871, [], [], hlw X u, k, n)) : ∀ (N : Nat) (a3 : Int32) (a4 : Int32) (a5 : Int32) (a6 : Int32) (a7 : Int32) (u : am_U), L_W_law_257 L xs N a3 a4 a5 a6 a7 u = some (nI 1) → am_gw L xs k n (257, [(0, .ref am_pL), (1, .ref 0), (2, .ref ((53 + X.length))), (3, .int a3), (4, .int a4), (5, .int a5), (6, .int a6), (7, .int a7)], [], hlw X u, k, n)
  | 0, _, _, _, _, _, _, H => by cases H
  | N + 1, a3, a4, a5, a6, a7, u, H => T_W_law_257 hX hk hn Hx (TL_W_law_257 hX hk hn Hx N) a3 a4 a5 a6 a7 u H
theorem T_W_law_135 {L : Nat} {xs : Nat → Int32} {X : am_H} {k n : Nat} (hX : X.length ≤ 1000) (hk : k ≤ 600000) (hn : n ≤ 7302250) (Hx : ∀ u, am_gw L xs k n (871, [], [], hlw X u, k, n)) (u : am_U) (H : F_W_law_135 L xs u = some (nI 1)) : am_gw L xs k n (135, [], [], hlw X u, k, n) := by
  unfold F_W_law_135 at H
  exact am_go_blk 2 ⟨am_fn1 H, am_f1 H⟩
theorem T_W_law_218 {L : Nat} {xs : Nat → Int32} {X : am_H} {k n : Nat} (hX : X.length ≤ 1000) (hk : k ≤ 600000) (hn : n ≤ 7302250) (Hx : ∀ u, am_gw L xs k n (871, [], [], hlw X u, k, n)) (u : am_U) (H : F_W_law_218 L xs u = some (nI 1)) : am_gw L xs k n (218, [], [], hlw X u, k, n) := by
  unfold F_W_law_218 at H
  exact am_go_blk 2 ⟨am_fn1 H, am_f1 H⟩
theorem T_W_law_157 {L : Nat} {xs : Nat → Int32} {X : am_H} {k n : Nat} (hX : X.length ≤ 1000) (hk : k ≤ 600000) (hn : n ≤ 7302250) (Hx : ∀ u, am_gw L xs k n (871, [], [], hlw X u, k, n)) {r40 : Int32 → Int32 → Int32 → Int32 → Int32 → am_U → Option (Int32)} (Hr40 : ∀ (a3 : Int32) (a4 : Int32) (a5 : Int32) (a6 : Int32) (a7 : Int32) (u : am_U), r40 a3 a4 a5 a6 a7 u = some (nI 1) → am_gw L xs k n (40, [(0, .ref am_pL), (1, .ref 0), (2, .ref ((53 + X.length))), (3, .int a3), (4, .int a4), (5, .int a5), (6, .int a6), (7, .int a7)], [], hlw X u, k, n)) (a3 : Int32) (a4 : Int32) (a5 : Int32) (a7 : Int32) (s0 : Int32) (s1 : Int32) (u : am_U) (H : F_W_law_157 L xs r40 a3 a4 a5 a7 s0 s1 u = some (nI 1)) : am_gw L xs k n (157, [(0, .ref am_pL), (1, .ref 0), (2, .ref ((53 + X.length))), (3, .int a3), (4, .int a4), (5, .int a5), (7, .int a7)], [.int s0, .int s1], hlw X u, k, n) := by
  unfold F_W_law_157 at H
  refine am_go_blk 5 (?_ : am_gw L xs k n (164, [(6, .int (s1 ||| s0)), (0, .ref am_pL), (1, .ref 0), (2, .ref ((53 + X.length))), (3, .int a3), (4, .int a4), (5, .int a5), (7, .int a7)], [.int (nI 0), .int a7, .ref 0], hlw X u, k, n))
  obtain ⟨q51, hq51, H⟩ := am_bnE H
  refine am_invd rfl rfl (hl_0 X _) rfl (am_kfc rfl hX (M_Loc_told (D := 997) hq51) (fun _ => rfl) (fun _ => rfl) hk hn (?_ : am_gw L xs k n (167, [(6, .int (s1 ||| s0)), (0, .ref am_pL), (1, .ref 0), (2, .ref ((53 + X.length))), (3, .int a3), (4, .int a4), (5, .int a5), (7, .int a7)], [.int q51.1], hlw X (q51.2, u.2), k, n)))
  refine am_go_blk 2 (?_ : am_gw L xs k n (170, [(6, .int (s1 ||| s0)), (0, .ref am_pL), (1, .ref 0), (2, .ref ((53 + X.length))), (3, .int a3), (4, .int a4), (5, .int a5), (7, .int a7)], [.int a7, .ref am_pL, .int q51.1], hlw X (q51.2, u.2), k, n))
  obtain ⟨q52, hq52, H⟩ := am_bnE H
  refine am_cls rfl rfl rfl (am_kcall (am_hl rfl (hl_le hX)) (M_W_kind (D := 998) (hl_le hX) hq52) rfl hk hn (?_ : am_gw L xs k n (173, [(6, .int (s1 ||| s0)), (0, .ref am_pL), (1, .ref 0), (2, .ref ((53 + X.length))), (3, .int a3), (4, .int a4), (5, .int a5), (7, .int a7)], [.int q52, .int q51.1], hlw X (q51.2, u.2), k, n)))
  refine am_go_blk 1 ⟨fun hc => ?_, fun hc => ?_⟩
  · have H := am_ie hc H
    exact T_W_law_218 hX hk hn Hx (q51.2, u.2) H
  · have H := am_it hc H
    show am_gw L xs k n (176, [(6, .int (s1 ||| s0)), (0, .ref am_pL), (1, .ref 0), (2, .ref ((53 + X.length))), (3, .int a3), (4, .int a4), (5, .int a5), (7, .int a7)], [], hlw X (q51.2, u.2), k, n)
    refine am_go_blk 3 (?_ : am_gw L xs k n (180, [(6, .int (s1 ||| s0)), (0, .ref am_pL), (1, .ref 0), (2, .ref ((53 + X.length))), (3, .int a3), (4, .int a4), (5, .int a5), (7, .int a7)], [.int (nI 1), .int a7, .ref 0], hlw X (q51.2, u.2), k, n))
    obtain ⟨q53, hq53, H⟩ := am_bnE H
    refine am_invd rfl rfl (hl_0 X _) rfl (am_kfc rfl hX (M_Loc_told (D := 997) hq53) (fun _ => rfl) (fun _ => rfl) hk hn (?_ : am_gw L xs k n (183, [(6, .int (s1 ||| s0)), (0, .ref am_pL), (1, .ref 0), (2, .ref ((53 + X.length))), (3, .int a3), (4, .int a4), (5, .int a5), (7, .int a7)], [.int q53.1], hlw X (q53.2, (q51.2, u.2).2), k, n)))
    refine am_go_blk 2 (?_ : am_gw L xs k n (186, [(6, .int (s1 ||| s0)), (0, .ref am_pL), (1, .ref 0), (2, .ref ((53 + X.length))), (3, .int a3), (4, .int a4), (5, .int a5), (7, .int a7)], [.int a7, .ref am_pL, .int q53.1], hlw X (q53.2, (q51.2, u.2).2), k, n))
    obtain ⟨q54, hq54, H⟩ := am_bnE H
    refine am_cls rfl rfl rfl (am_kcall (am_hl rfl (hl_le hX)) (M_W_more (D := 998) (hl_le hX) hq54) rfl hk hn (?_ : am_gw L xs k n (189, [(6, .int (s1 ||| s0)), (0, .ref am_pL), (1, .ref 0), (2, .ref ((53 + X.length))), (3, .int a3), (4, .int a4), (5, .int a5), (7, .int a7)], [.int q54, .int q53.1], hlw X (q53.2, (q51.2, u.2).2), k, n)))
    refine am_go_blk 1 ⟨fun hc => ?_, fun hc => ?_⟩
    · have H := am_ie hc H
      exact T_W_law_218 hX hk hn Hx (q53.2, (q51.2, u.2).2) H
    · have H := am_it hc H
      show am_gw L xs k n (192, [(6, .int (s1 ||| s0)), (0, .ref am_pL), (1, .ref 0), (2, .ref ((53 + X.length))), (3, .int a3), (4, .int a4), (5, .int a5), (7, .int a7)], [], hlw X (q53.2, (q51.2, u.2).2), k, n)
      refine am_go_blk 3 (?_ : am_gw L xs k n (196, [(6, .int (s1 ||| s0)), (0, .ref am_pL), (1, .ref 0), (2, .ref ((53 + X.length))), (3, .int a3), (4, .int a4), (5, .int a5), (7, .int a7)], [.int (nI 2), .int a7, .ref 0], hlw X (q53.2, (q51.2, u.2).2), k, n))
      obtain ⟨q55, hq55, H⟩ := am_bnE H
      refine am_invd rfl rfl (hl_0 X _) rfl (am_kfc rfl hX (M_Loc_told (D := 997) hq55) (fun _ => rfl) (fun _ => rfl) hk hn (?_ : am_gw L xs k n (199, [(6, .int (s1 ||| s0)), (0, .ref am_pL), (1, .ref 0), (2, .ref ((53 + X.length))), (3, .int a3), (4, .int a4), (5, .int a5), (7, .int a7)], [.int q55.1], hlw X (q55.2, (q53.2, (q51.2, u.2).2).2), k, n)))
      refine am_go_blk 2 (?_ : am_gw L xs k n (202, [(6, .int (s1 ||| s0)), (0, .ref am_pL), (1, .ref 0), (2, .ref ((53 + X.length))), (3, .int a3), (4, .int a4), (5, .int a5), (7, .int a7)], [.int a7, .ref am_pL, .int q55.1], hlw X (q55.2, (q53.2, (q51.2, u.2).2).2), k, n))
      obtain ⟨q56, hq56, H⟩ := am_bnE H
      refine am_cls rfl rfl rfl (am_kcall (am_hl rfl (hl_le hX)) (M_W_come (D := 998) (hl_le hX) hq56) rfl hk hn (?_ : am_gw L xs k n (205, [(6, .int (s1 ||| s0)), (0, .ref am_pL), (1, .ref 0), (2, .ref ((53 + X.length))), (3, .int a3), (4, .int a4), (5, .int a5), (7, .int a7)], [.int q56, .int q55.1], hlw X (q55.2, (q53.2, (q51.2, u.2).2).2), k, n)))
      refine am_go_blk 1 ⟨fun hc => ?_, fun hc => ?_⟩
      · have H := am_ie hc H
        exact T_W_law_218 hX hk hn Hx (q55.2, (q53.2, (q51.2, u.2).2).2) H
      · have H := am_it hc H
        show am_gw L xs k n (208, [(6, .int (s1 ||| s0)), (0, .ref am_pL), (1, .ref 0), (2, .ref ((53 + X.length))), (3, .int a3), (4, .int a4), (5, .int a5), (7, .int a7)], [], hlw X (q55.2, (q53.2, (q51.2, u.2).2).2), k, n)
        refine am_go_blk 3 (?_ : am_gw L xs k n (212, [(6, .int (s1 ||| s0)), (0, .ref am_pL), (1, .ref 0), (2, .ref ((53 + X.length))), (3, .int a3), (4, .int a4), (5, .int a5), (7, .int a7)], [.int (nI 3), .int a7, .ref 0], hlw X (q55.2, (q53.2, (q51.2, u.2).2).2), k, n))
        obtain ⟨q57, hq57, H⟩ := am_bnE H
        refine am_invd rfl rfl (hl_0 X _) rfl (am_kfc rfl hX (M_Loc_told (D := 997) hq57) (fun _ => rfl) (fun _ => rfl) hk hn (?_ : am_gw L xs k n (215, [(6, .int (s1 ||| s0)), (0, .ref am_pL), (1, .ref 0), (2, .ref ((53 + X.length))), (3, .int a3), (4, .int a4), (5, .int a5), (7, .int a7)], [.int q57.1], hlw X (q57.2, (q55.2, (q53.2, (q51.2, u.2).2).2).2), k, n)))
        refine am_go_blk 1 ⟨fun hc => ?_, fun hc => ?_⟩
        · have H := am_it hc H
          show am_gw L xs k n (220, [(0, .ref am_pL), (1, .ref 0), (2, .ref ((53 + X.length))), (3, .int a3), (4, .int a4), (5, .int a5), (6, .int (s1 ||| s0)), (7, .int a7)], [], hlw X (q57.2, (q55.2, (q53.2, (q51.2, u.2).2).2).2), k, n)
          exact am_go_blk 2 (Hr40 a3 a4 a5 (s1 ||| s0) (a7 + (nI 1)) (q57.2, (q55.2, (q53.2, (q51.2, u.2).2).2).2) H)
        · have H := am_ie hc H
          exact T_W_law_218 hX hk hn Hx (q57.2, (q55.2, (q53.2, (q51.2, u.2).2).2).2) H
theorem T_W_law_93 {L : Nat} {xs : Nat → Int32} {X : am_H} {k n : Nat} (hX : X.length ≤ 1000) (hk : k ≤ 600000) (hn : n ≤ 7302250) (Hx : ∀ u, am_gw L xs k n (871, [], [], hlw X u, k, n)) {r40 : Int32 → Int32 → Int32 → Int32 → Int32 → am_U → Option (Int32)} {r61 : Int32 → Int32 → Int32 → Int32 → Int32 → Int32 → Int32 → Int32 → am_U → Option (Int32)} (Hr40 : ∀ (a3 : Int32) (a4 : Int32) (a5 : Int32) (a6 : Int32) (a7 : Int32) (u : am_U), r40 a3 a4 a5 a6 a7 u = some (nI 1) → am_gw L xs k n (40, [(0, .ref am_pL), (1, .ref 0), (2, .ref ((53 + X.length))), (3, .int a3), (4, .int a4), (5, .int a5), (6, .int a6), (7, .int a7)], [], hlw X u, k, n)) (Hr61 : ∀ (a3 : Int32) (a4 : Int32) (a5 : Int32) (a6 : Int32) (a7 : Int32) (a8 : Int32) (a9 : Int32) (a10 : Int32) (u : am_U), r61 a3 a4 a5 a6 a7 a8 a9 a10 u = some (nI 1) → am_gw L xs k n (61, [(0, .ref am_pL), (1, .ref 0), (2, .ref ((53 + X.length))), (3, .int a3), (4, .int a4), (5, .int a5), (6, .int a6), (7, .int a7), (8, .int a8), (9, .int a9), (10, .int a10)], [], hlw X u, k, n)) (a3 : Int32) (a4 : Int32) (a5 : Int32) (a6 : Int32) (a7 : Int32) (a8 : Int32) (a10 : Int32) (s0 : Int32) (s1 : Int32) (u : am_U) (H : F_W_law_93 L xs r40 r61 a3 a4 a5 a6 a7 a8 a10 s0 s1 u = some (nI 1)) : am_gw L xs k n (93, [(0, .ref am_pL), (1, .ref 0), (2, .ref ((53 + X.length))), (3, .int a3), (4, .int a4), (5, .int a5), (6, .int a6), (7, .int a7), (8, .int a8), (10, .int a10)], [.int s0, .int s1], hlw X u, k, n) := by
  unfold F_W_law_93 at H
  exact am_go_blk 4 (Hr61 a3 a4 a5 a6 a7 a8 (s1 ||| s0) (a10 + (nI 1)) u H)
theorem T_W_law_61 {L : Nat} {xs : Nat → Int32} {X : am_H} {k n : Nat} (hX : X.length ≤ 1000) (hk : k ≤ 600000) (hn : n ≤ 7302250) (Hx : ∀ u, am_gw L xs k n (871, [], [], hlw X u, k, n)) {r40 : Int32 → Int32 → Int32 → Int32 → Int32 → am_U → Option (Int32)} {r61 : Int32 → Int32 → Int32 → Int32 → Int32 → Int32 → Int32 → Int32 → am_U → Option (Int32)} (Hr40 : ∀ (a3 : Int32) (a4 : Int32) (a5 : Int32) (a6 : Int32) (a7 : Int32) (u : am_U), r40 a3 a4 a5 a6 a7 u = some (nI 1) → am_gw L xs k n (40, [(0, .ref am_pL), (1, .ref 0), (2, .ref ((53 + X.length))), (3, .int a3), (4, .int a4), (5, .int a5), (6, .int a6), (7, .int a7)], [], hlw X u, k, n)) (Hr61 : ∀ (a3 : Int32) (a4 : Int32) (a5 : Int32) (a6 : Int32) (a7 : Int32) (a8 : Int32) (a9 : Int32) (a10 : Int32) (u : am_U), r61 a3 a4 a5 a6 a7 a8 a9 a10 u = some (nI 1) → am_gw L xs k n (61, [(0, .ref am_pL), (1, .ref 0), (2, .ref ((53 + X.length))), (3, .int a3), (4, .int a4), (5, .int a5), (6, .int a6), (7, .int a7), (8, .int a8), (9, .int a9), (10, .int a10)], [], hlw X u, k, n)) (a3 : Int32) (a4 : Int32) (a5 : Int32) (a6 : Int32) (a7 : Int32) (a8 : Int32) (a9 : Int32) (a10 : Int32) (u : am_U) (H : F_W_law_61 L xs r40 r61 a3 a4 a5 a6 a7 a8 a9 a10 u = some (nI 1)) : am_gw L xs k n (61, [(0, .ref am_pL), (1, .ref 0), (2, .ref ((53 + X.length))), (3, .int a3), (4, .int a4), (5, .int a5), (6, .int a6), (7, .int a7), (8, .int a8), (9, .int a9), (10, .int a10)], [], hlw X u, k, n) := by
  unfold F_W_law_61 at H
  refine am_go_blk 3 ⟨fun hc => ?_, fun hc => ?_⟩
  · have H := am_it hc H
    show am_gw L xs k n (102, [(0, .ref am_pL), (1, .ref 0), (2, .ref ((53 + X.length))), (3, .int a3), (4, .int a4), (5, .int a5), (6, .int a6), (7, .int a7), (8, .int a8), (9, .int a9)], [], hlw X u, k, n)
    refine am_go_blk 2 (?_ : am_gw L xs k n (105, [(0, .ref am_pL), (1, .ref 0), (2, .ref ((53 + X.length))), (3, .int a3), (4, .int a4), (5, .int a5), (6, .int a6), (7, .int a7), (8, .int a8), (9, .int a9)], [.int a7, .ref 0], hlw X u, k, n))
    obtain ⟨q48, hq48, H⟩ := am_bnE H
    refine am_invd rfl rfl (hl_0 X _) rfl (am_kfc rfl hX (M_Loc_holds (D := 995) hq48) (fun _ => rfl) (fun _ => rfl) hk hn (?_ : am_gw L xs k n (108, [(0, .ref am_pL), (1, .ref 0), (2, .ref ((53 + X.length))), (3, .int a3), (4, .int a4), (5, .int a5), (6, .int a6), (7, .int a7), (8, .int a8), (9, .int a9)], [.int q48.1], hlw X (q48.2, u.2), k, n)))
    refine am_go_blk 2 ⟨fun hc => ?_, fun hc => ?_⟩
    · have H := am_ie hc H
      exact T_W_law_135 hX hk hn Hx (q48.2, u.2) H
    · have H := am_it hc H
      show am_gw L xs k n (113, [(0, .ref am_pL), (1, .ref 0), (2, .ref ((53 + X.length))), (3, .int a3), (4, .int a4), (5, .int a5), (6, .int a6), (7, .int a7), (8, .int a8), (9, .int a9)], [], hlw X (q48.2, u.2), k, n)
      refine am_go_blk 2 (?_ : am_gw L xs k n (116, [(0, .ref am_pL), (1, .ref 0), (2, .ref ((53 + X.length))), (3, .int a3), (4, .int a4), (5, .int a5), (6, .int a6), (7, .int a7), (8, .int a8), (9, .int a9)], [.int a7, .ref 0], hlw X (q48.2, u.2), k, n))
      obtain ⟨q49, hq49, H⟩ := am_bnE H
      refine am_invd rfl rfl (hl_0 X _) rfl (am_kfc rfl hX (M_Loc_waits (D := 994) hq49) (fun _ => rfl) (fun _ => rfl) hk hn (?_ : am_gw L xs k n (119, [(0, .ref am_pL), (1, .ref 0), (2, .ref ((53 + X.length))), (3, .int a3), (4, .int a4), (5, .int a5), (6, .int a6), (7, .int a7), (8, .int a8), (9, .int a9)], [.int q49.1], hlw X (q49.2, (q48.2, u.2).2), k, n)))
      refine am_go_blk 2 ⟨fun hc => ?_, fun hc => ?_⟩
      · have H := am_ie hc H
        exact T_W_law_135 hX hk hn Hx (q49.2, (q48.2, u.2).2) H
      · have H := am_it hc H
        show am_gw L xs k n (124, [(0, .ref am_pL), (1, .ref 0), (2, .ref ((53 + X.length))), (3, .int a3), (4, .int a4), (5, .int a5), (6, .int a6), (7, .int a7), (8, .int a8), (9, .int a9)], [], hlw X (q49.2, (q48.2, u.2).2), k, n)
        refine am_go_blk 7 ⟨fun hc => ?_, fun hc => ?_⟩
        · have H := am_ie hc H
          show am_gw L xs k n (137, [(0, .ref am_pL), (1, .ref 0), (2, .ref ((53 + X.length))), (3, .int a3), (4, .int a4), (5, .int a5), (6, .int a6), (7, .int a7)], [], hlw X (q49.2, (q48.2, u.2).2), k, n)
          refine am_go_blk 4 (?_ : am_gw L xs k n (143, [(0, .ref am_pL), (1, .ref 0), (2, .ref ((53 + X.length))), (3, .int a3), (4, .int a4), (5, .int a5), (6, .int a6), (7, .int a7)], [.int a7, .ref ((53 + X.length)), .ref am_pL, .int a6], hlw X (q49.2, (q48.2, u.2).2), k, n))
          obtain ⟨q50, hq50, H⟩ := am_bnE H
          refine am_cls rfl rfl rfl (am_kcall (am_hl rfl (hl_le hX)) (M_W_can (D := 995) hX hq50) hl_len2 hk hn (?_ : am_gw L xs k n (146, [(0, .ref am_pL), (1, .ref 0), (2, .ref ((53 + X.length))), (3, .int a3), (4, .int a4), (5, .int a5), (6, .int a6), (7, .int a7)], [.int q50.1, .int a6], hlw X q50.2, k, n)))
          refine am_go_blk 1 ⟨fun hc => ?_, fun hc => ?_⟩
          · have H := am_it hc H
            show am_gw L xs k n (156, [(0, .ref am_pL), (1, .ref 0), (2, .ref ((53 + X.length))), (3, .int a3), (4, .int a4), (5, .int a5), (7, .int a7)], [.int a6], hlw X q50.2, k, n)
            exact am_go_blk 1 (T_W_law_157 hX hk hn Hx Hr40 a3 a4 a5 a7 (nI 0) a6 q50.2 H)
          · have H := am_ie hc H
            show am_gw L xs k n (149, [(0, .ref am_pL), (1, .ref 0), (2, .ref ((53 + X.length))), (3, .int a3), (4, .int a4), (5, .int a5), (6, .int a6), (7, .int a7)], [.int a6], hlw X q50.2, k, n)
            exact am_go_blk 4 (T_W_law_157 hX hk hn Hx Hr40 a3 a4 a5 a7 ((nI 1) <<< (a7 &&& 31)) a6 q50.2 H)
        · have H := am_it hc H
          exact T_W_law_135 hX hk hn Hx (q49.2, (q48.2, u.2).2) H
  · have H := am_ie hc H
    show am_gw L xs k n (68, [(0, .ref am_pL), (1, .ref 0), (2, .ref ((53 + X.length))), (3, .int a3), (4, .int a4), (5, .int a5), (6, .int a6), (7, .int a7), (8, .int a8), (9, .int a9), (10, .int a10)], [], hlw X u, k, n)
    refine am_go_blk 8 ⟨fun hc => ?_, fun hc => ?_⟩
    · have H := am_ie hc H
      show am_gw L xs k n (92, [(0, .ref am_pL), (1, .ref 0), (2, .ref ((53 + X.length))), (3, .int a3), (4, .int a4), (5, .int a5), (6, .int a6), (7, .int a7), (8, .int a8), (10, .int a10)], [.int a9], hlw X u, k, n)
      exact am_go_blk 1 (T_W_law_93 hX hk hn Hx Hr40 Hr61 a3 a4 a5 a6 a7 a8 a10 (nI 0) a9 u H)
    · have H := am_it hc H
      show am_gw L xs k n (81, [(0, .ref am_pL), (1, .ref 0), (2, .ref ((53 + X.length))), (3, .int a3), (4, .int a4), (5, .int a5), (6, .int a6), (7, .int a7), (8, .int a8), (9, .int a9), (10, .int a10)], [.int a9], hlw X u, k, n)
      refine am_go_blk 3 (?_ : am_gw L xs k n (85, [(0, .ref am_pL), (1, .ref 0), (2, .ref ((53 + X.length))), (3, .int a3), (4, .int a4), (5, .int a5), (6, .int a6), (7, .int a7), (8, .int a8), (9, .int a9), (10, .int a10)], [.int a10, .ref am_pL, .int (nI 1), .int a9], hlw X u, k, n))
      obtain ⟨q58, hq58, H⟩ := am_bnE H
      refine am_cls rfl rfl rfl (am_kcall (am_hl rfl (hl_le hX)) (M_W_owner (D := 997) (hl_le hX) hq58) rfl hk hn (?_ : am_gw L xs k n (88, [(0, .ref am_pL), (1, .ref 0), (2, .ref ((53 + X.length))), (3, .int a3), (4, .int a4), (5, .int a5), (6, .int a6), (7, .int a7), (8, .int a8), (9, .int a9), (10, .int a10)], [.int q58, .int (nI 1), .int a9], hlw X u, k, n)))
      exact am_go_blk 2 (T_W_law_93 hX hk hn Hx Hr40 Hr61 a3 a4 a5 a6 a7 a8 a10 ((nI 1) <<< (q58 &&& 31)) a9 u H)
theorem TL_W_law_61 {L : Nat} {xs : Nat → Int32} {X : am_H} {k n : Nat} (hX : X.length ≤ 1000) (hk : k ≤ 600000) (hn : n ≤ 7302250) (Hx : ∀ u, am_gw L xs k n (871, [], [], hlw X u, k, n)) {r40 : Int32 → Int32 → Int32 → Int32 → Int32 → am_U → Option (Int32)} (Hr40 : ∀ (a3 : Int32) (a4 : Int32) (a5 : Int32) (a6 : Int32) (a7 : Int32) (u : am_U), r40 a3 a4 a5 a6 a7 u = some (nI 1) → am_gw L xs k n (40, [(0, .ref am_pL), (1, .ref 0), (2, .ref ((53 + X.length))), (3, .int a3), (4, .int a4), (5, .int a5), (6, .int a6), (7, .int a7)], [], hlw X u, k, n)) : ∀ (N : Nat) (a3 : Int32) (a4 : Int32) (a5 : Int32) (a6 : Int32) (a7 : Int32) (a8 : Int32) (a9 : Int32) (a10 : Int32) (u : am_U), L_W_law_61 L xs r40 N a3 a4 a5 a6 a7 a8 a9 a10 u = some (nI 1) → am_gw L xs k n (61, [(0, .ref am_pL), (1, .ref 0), (2, .ref ((53 + X.length))), (3, .int a3), (4, .int a4), (5, .int a5), (6, .int a6), (7, .int a7), (8, .int a8), (9, .int a9), (10, .int a10)], [], hlw X u, k, n)
  | 0, _, _, _, _, _, _, _, _, _, H => by cases H
  | N + 1, a3, a4, a5, a6, a7, a8, a9, a10, u, H => T_W_law_61 hX hk hn Hx Hr40 (TL_W_law_61 hX hk hn Hx Hr40 N) a3 a4 a5 a6 a7 a8 a9 a10 u H
theorem T_W_law_40 {L : Nat} {xs : Nat → Int32} {X : am_H} {k n : Nat} (hX : X.length ≤ 1000) (hk : k ≤ 600000) (hn : n ≤ 7302250) (Hx : ∀ u, am_gw L xs k n (871, [], [], hlw X u, k, n)) {r40 : Int32 → Int32 → Int32 → Int32 → Int32 → am_U → Option (Int32)} (Hr40 : ∀ (a3 : Int32) (a4 : Int32) (a5 : Int32) (a6 : Int32) (a7 : Int32) (u : am_U), r40 a3 a4 a5 a6 a7 u = some (nI 1) → am_gw L xs k n (40, [(0, .ref am_pL), (1, .ref 0), (2, .ref ((53 + X.length))), (3, .int a3), (4, .int a4), (5, .int a5), (6, .int a6), (7, .int a7)], [], hlw X u, k, n)) (a3 : Int32) (a4 : Int32) (a5 : Int32) (a6 : Int32) (a7 : Int32) (u : am_U) (H : F_W_law_40 L xs r40 a3 a4 a5 a6 a7 u = some (nI 1)) : am_gw L xs k n (40, [(0, .ref am_pL), (1, .ref 0), (2, .ref ((53 + X.length))), (3, .int a3), (4, .int a4), (5, .int a5), (6, .int a6), (7, .int a7)], [], hlw X u, k, n) := by
  unfold F_W_law_40 at H
  refine am_go_blk 3 ⟨fun hc => ?_, fun hc => ?_⟩
  · have H := am_it hc H
    show am_gw L xs k n (226, [(0, .ref am_pL), (1, .ref 0), (2, .ref ((53 + X.length))), (3, .int a3), (4, .int a4), (5, .int a5), (6, .int a6)], [], hlw X u, k, n)
    refine am_go_blk 1 (?_ : am_gw L xs k n (227, [(0, .ref am_pL), (1, .ref 0), (2, .ref ((53 + X.length))), (3, .int a3), (4, .int a4), (5, .int a5), (6, .int a6)], [.ref 0], hlw X u, k, n))
    obtain ⟨q4, hq4, H⟩ := am_bnE H
    refine am_invd rfl rfl (hl_0 X _) rfl (am_kfc rfl hX (M_Loc_free (D := 997) hq4) (fun _ => rfl) (fun _ => rfl) hk hn (?_ : am_gw L xs k n (230, [(0, .ref am_pL), (1, .ref 0), (2, .ref ((53 + X.length))), (3, .int a3), (4, .int a4), (5, .int a5), (6, .int a6)], [.int q4.1], hlw X (q4.2, u.2), k, n)))
    refine am_go_blk 2 ⟨fun hc => ?_, fun hc => ?_⟩
    · have H := am_ie hc H
      exact T_W_law_252 hX hk hn Hx (q4.2, u.2) H
    · have H := am_it hc H
      show am_gw L xs k n (235, [(0, .ref am_pL), (1, .ref 0), (2, .ref ((53 + X.length))), (3, .int a3), (4, .int a4), (5, .int a5), (6, .int a6)], [], hlw X (q4.2, u.2), k, n)
      refine am_go_blk 1 (?_ : am_gw L xs k n (236, [(0, .ref am_pL), (1, .ref 0), (2, .ref ((53 + X.length))), (3, .int a3), (4, .int a4), (5, .int a5), (6, .int a6)], [.ref 0], hlw X (q4.2, u.2), k, n))
      obtain ⟨q5, hq5, H⟩ := am_bnE H
      refine am_invd rfl rfl (hl_0 X _) rfl (am_kfc rfl hX (M_Loc_never (D := 996) hq5) (fun _ => rfl) (fun _ => rfl) hk hn (?_ : am_gw L xs k n (239, [(0, .ref am_pL), (1, .ref 0), (2, .ref ((53 + X.length))), (3, .int a3), (4, .int a4), (5, .int a5), (6, .int a6)], [.int q5.1], hlw X (q5.2, (q4.2, u.2).2), k, n)))
      refine am_go_blk 3 (?_ : am_gw L xs k n (243, [(0, .ref am_pL), (1, .ref 0), (2, .ref ((53 + X.length))), (3, .int a3), (4, .int a4), (5, .int a5), (6, .int a6)], [.ref ((53 + X.length)), .ref am_pL, .int a5, .int q5.1], hlw X (q5.2, (q4.2, u.2).2), k, n))
      obtain ⟨q6, hq6, H⟩ := am_bnE H
      refine am_cls rfl rfl rfl (am_kcall (am_hl rfl (hl_le hX)) (M_W_last (D := 994) hX hq6) hl_len2 hk hn (?_ : am_gw L xs k n (246, [(0, .ref am_pL), (1, .ref 0), (2, .ref ((53 + X.length))), (3, .int a3), (4, .int a4), (5, .int a5), (6, .int a6)], [.int q6.1, .int a5, .int q5.1], hlw X q6.2, k, n)))
      refine am_go_blk 4 ⟨fun hc => ?_, fun hc => ?_⟩
      · have H := am_it hc H
        show am_gw L xs k n (254, [(0, .ref am_pL), (1, .ref 0), (2, .ref ((53 + X.length))), (3, .int a3), (4, .int a4), (5, .int a5), (6, .int a6)], [], hlw X q6.2, k, n)
        exact am_go_blk 2 (TL_W_law_257 hX hk hn Hx am_NF a3 a4 a5 a6 (nI 0) q6.2 H)
      · have H := am_ie hc H
        exact T_W_law_252 hX hk hn Hx q6.2 H
  · have H := am_ie hc H
    show am_gw L xs k n (46, [(0, .ref am_pL), (1, .ref 0), (2, .ref ((53 + X.length))), (3, .int a3), (4, .int a4), (5, .int a5), (6, .int a6), (7, .int a7)], [], hlw X u, k, n)
    refine am_go_blk 3 (?_ : am_gw L xs k n (50, [(0, .ref am_pL), (1, .ref 0), (2, .ref ((53 + X.length))), (3, .int a3), (4, .int a4), (5, .int a5), (6, .int a6), (7, .int a7)], [.int a7, .ref ((53 + X.length)), .ref am_pL], hlw X u, k, n))
    obtain ⟨q47, hq47, H⟩ := am_bnE H
    refine am_cls rfl rfl rfl (am_kcall (am_hl rfl (hl_le hX)) (M_W_holds (D := 996) hX hq47) hl_len2 hk hn (?_ : am_gw L xs k n (53, [(0, .ref am_pL), (1, .ref 0), (2, .ref ((53 + X.length))), (3, .int a3), (4, .int a4), (5, .int a5), (6, .int a6), (7, .int a7)], [.int q47.1], hlw X q47.2, k, n)))
    exact am_go_blk 5 (TL_W_law_61 hX hk hn Hx Hr40 am_NF a3 a4 a5 a6 a7 q47.1 (nI 0) (nI 0) q47.2 H)
theorem TL_W_law_40 {L : Nat} {xs : Nat → Int32} {X : am_H} {k n : Nat} (hX : X.length ≤ 1000) (hk : k ≤ 600000) (hn : n ≤ 7302250) (Hx : ∀ u, am_gw L xs k n (871, [], [], hlw X u, k, n)) : ∀ (N : Nat) (a3 : Int32) (a4 : Int32) (a5 : Int32) (a6 : Int32) (a7 : Int32) (u : am_U), L_W_law_40 L xs N a3 a4 a5 a6 a7 u = some (nI 1) → am_gw L xs k n (40, [(0, .ref am_pL), (1, .ref 0), (2, .ref ((53 + X.length))), (3, .int a3), (4, .int a4), (5, .int a5), (6, .int a6), (7, .int a7)], [], hlw X u, k, n)
  | 0, _, _, _, _, _, _, H => by cases H
  | N + 1, a3, a4, a5, a6, a7, u, H => T_W_law_40 hX hk hn Hx (TL_W_law_40 hX hk hn Hx N) a3 a4 a5 a6 a7 u H
theorem T_W_law {L : Nat} {xs : Nat → Int32} {X : am_H} {k n : Nat} (hX : X.length ≤ 1000) (hk : k ≤ 600000) (hn : n ≤ 7302250) (Hx : ∀ u, am_gw L xs k n (871, [], [], hlw X u, k, n)) (u : am_U) (H : F_W_law L xs u = some (nI 1)) : am_gw L xs k n (11, [(0, .ref am_pL), (1, .ref 0), (2, .ref ((53 + X.length)))], [], hlw X u, k, n) := by
  unfold F_W_law at H
  refine am_go_blk 2 (?_ : am_gw L xs k n (13, [(0, .ref am_pL), (1, .ref 0), (2, .ref ((53 + X.length)))], [.ref ((53 + X.length)), .ref am_pL], hlw X u, k, n))
  obtain ⟨q1, hq1, H⟩ := am_bnE H
  refine am_cls rfl rfl rfl (am_kcall (am_hl rfl (hl_le hX)) (M_W_start (D := 996) hX hq1) hl_len2 hk hn (?_ : am_gw L xs k n (16, [(0, .ref am_pL), (1, .ref 0), (2, .ref ((53 + X.length)))], [], hlw X q1, k, n)))
  refine am_go_blk 1 (?_ : am_gw L xs k n (17, [(0, .ref am_pL), (1, .ref 0), (2, .ref ((53 + X.length)))], [.ref am_pL], hlw X q1, k, n))
  obtain ⟨q2, hq2, H⟩ := am_bnE H
  refine am_cls rfl rfl rfl (am_kcall (am_hl rfl (hl_le hX)) (M_W_things (D := 998) (hl_le hX) hq2) rfl hk hn (?_ : am_gw L xs k n (20, [(0, .ref am_pL), (1, .ref 0), (2, .ref ((53 + X.length)))], [.int q2], hlw X q1, k, n)))
  refine am_go_blk 2 (?_ : am_gw L xs k n (22, [(3, .int q2), (0, .ref am_pL), (1, .ref 0), (2, .ref ((53 + X.length)))], [.ref am_pL], hlw X q1, k, n))
  obtain ⟨q3, hq3, H⟩ := am_bnE H
  refine am_cls rfl rfl rfl (am_kcall (am_hl rfl (hl_le hX)) (M_W_locks (D := 998) (hl_le hX) hq3) rfl hk hn (?_ : am_gw L xs k n (25, [(3, .int q2), (0, .ref am_pL), (1, .ref 0), (2, .ref ((53 + X.length)))], [.int q3], hlw X q1, k, n)))
  exact am_go_blk 11 (TL_W_law_40 hX hk hn Hx am_NF q2 q3 (((nI 1) <<< (q2 &&& 31)) - (nI 1)) (nI 0) (nI 0) q1 H)

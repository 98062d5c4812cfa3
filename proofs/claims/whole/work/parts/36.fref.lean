noncomputable def F_X10_isIn (G : mG) (x0 : Int) (x2 : Int) (x4 : Int) (V : mV) : Option (mV × Int) :=
  gd (rl x0) <|
  gd (rl x2) <|
  if x0 < x2 then (some (V, 0)) else (gd (rl x4) <|
  if x4 < x0 then (some (V, 0)) else (some (V, 1)))
noncomputable def F_X10_feed_J81_28 (G : mG) (r0 : Nat) (x1 : Int) (x2 : Int) (x3 : Int) (x4 : Int) (x5 : Int) (x6 : Int) (s0 : Int) (V : mV) : Option (mV × Nat × Int) :=
  gd (rg x6) <|
  gd (rg s0) <|
  gd (0 ≤ (8 * (3 - (x6.tmod 4))) ∧ (8 * (3 - (x6.tmod 4))) < 32) <|
  gd (0 ≤ (gI V r0 1) ∧ (gI V r0 1) < (1600 : Int) ∧ (gI V r0 1) ≤ 2147483647) <|
  lt (sA V (r0 + 1) (gI V r0 1).toNat ((shr s0 (8 * (3 - (x6.tmod 4)))) % 256)) fun V13 =>
  lt (sI V13 r0 1 ((gI V13 r0 1) + 1)) fun V14 =>
  lt (x6 + 1) fun y15 =>
  some (V14, 0, y15)
noncomputable def B_X10_feed_28 (G : mG) (r0 : Nat) (x1 : Int) (x2 : Int) (x3 : Int) (x4 : Int) (x5 : Int) (x6 : Int) (V : mV) : Option (mV × Nat × Int) :=
  gd (rg x6) <|
  if 20 ≤ x6 then (some (V, 1, x6)) else (if 4 ≤ x6 then (if 8 ≤ x6 then (if 12 ≤ x6 then (if 16 ≤ x6 then (F_X10_feed_J81_28 G r0 x1 x2 x3 x4 x5 x6 x5 V) else (F_X10_feed_J81_28 G r0 x1 x2 x3 x4 x5 x6 x4 V)) else (F_X10_feed_J81_28 G r0 x1 x2 x3 x4 x5 x6 x3 V)) else (F_X10_feed_J81_28 G r0 x1 x2 x3 x4 x5 x6 x2 V)) else (F_X10_feed_J81_28 G r0 x1 x2 x3 x4 x5 x6 x1 V))
noncomputable def F_X10_feed (G : mG) (r0 : Nat) (x1 : Int) (x2 : Int) (x3 : Int) (x4 : Int) (x5 : Int) (V : mV) : Option (mV × Int) :=
  gd (rg ((gI V r0 1) + 20)) <|
  if ((gI V r0 1) + 20) ≤ 1600 then (bd (lp (fun (s : Int) V => B_X10_feed_28 G r0 x1 x2 x3 x4 x5 s V) FU 0 V) fun V16 u17 =>
  some (V16, gI V16 r0 1)) else (lt (sA V (r0 + 2) 0 ((gA V (r0 + 2) 0) + 1)) fun V20 =>
  some (V20, (-1)))
noncomputable def F_X10_end_J12 (G : mG) (r0 : Nat) (x1 : Int) (V : mV) : Option (mV × Int) :=
  lt (sA V (r0 + 2) 0 ((gA V (r0 + 2) 0) + 1)) fun V3 =>
  some (V3, 0)
noncomputable def F_X10_end (G : mG) (r0 : Nat) (x1 : Int) (V : mV) : Option (mV × Int) :=
  gd (rg x1) <|
  if x1 < 0 then (F_X10_end_J12 G r0 x1 V) else (gd (rg (gI V r0 1)) <|
  if x1 ≤ (gI V r0 1) then (lt (sI V r0 1 x1) fun V6 =>
  some (V6, 1)) else (F_X10_end_J12 G r0 x1 V))
noncomputable def F_X10_fail (G : mG) (r0 : Nat) (x1 : Int) (x2 : Int) (V : mV) : Option (mV × Int) :=
  gd (rg (gI V r0 5)) <|
  if (gI V r0 5) = 0 then (lt (sI V r0 5 x1) fun V3 =>
  lt (sI V3 r0 6 x2) fun V4 =>
  some (V4, 0)) else (some (V, 0))
noncomputable def F_X10_isLetter (G : mG) (x0 : Int) (V : mV) : Option (mV × Int) :=
  gd (rg x0) <|
  if x0 < 97 then (some (V, 0)) else (if 122 < x0 then (some (V, 0)) else (some (V, 1)))
noncomputable def F_X10_isDigit (G : mG) (x0 : Int) (V : mV) : Option (mV × Int) :=
  gd (rg x0) <|
  if x0 < 48 then (some (V, 0)) else (if 57 < x0 then (some (V, 0)) else (some (V, 1)))
noncomputable def F_X10_look_J39_0 (G : mG) (r0 : Nat) (V : mV) : Option (mV × Nat × Unit) :=
  lt (sI V r0 2 ((gI V r0 2) + 1)) fun V7 =>
  some (V7, 0, ())
noncomputable def B_X10_look_0 (G : mG) (r0 : Nat) (V : mV) : Option (mV × Nat × Unit) :=
  gd (rg (gI V r0 2)) <|
  gd (rg (gI V r0 3)) <|
  if (gI V r0 3) ≤ (gI V r0 2) then (some (V, 1, ())) else (gd (0 ≤ (gI V r0 2) ∧ (gI V r0 2) < (1600 : Int) ∧ (gI V r0 2) ≤ 2147483647) <|
  gd (rg (gA V (r0 + 1) (gI V r0 2).toNat)) <|
  if (gA V (r0 + 1) (gI V r0 2).toNat) = 10 then (F_X10_look_J39_0 G r0 V) else (if (gA V (r0 + 1) (gI V r0 2).toNat) = 32 then (F_X10_look_J39_0 G r0 V) else (some (V, 1, ()))))
noncomputable def F_X10_look_J52 (G : mG) (r0 : Nat) (V : mV) : Option (mV × Int) :=
  gd (rg (gI V r0 2)) <|
  gd (rg (gI V r0 3)) <|
  if (gI V r0 3) ≤ (gI V r0 2) then (some (V, (-1))) else (gd (0 ≤ (gI V r0 2) ∧ (gI V r0 2) < (1600 : Int) ∧ (gI V r0 2) ≤ 2147483647) <|
  some (V, gA V (r0 + 1) (gI V r0 2).toNat))
noncomputable def F_X10_look (G : mG) (r0 : Nat) (V : mV) : Option (mV × Int) :=
  bd (lp (fun (s : Unit) V => B_X10_look_0 G r0  V) FU () V) fun V9 u10 =>
  F_X10_look_J52 G r0 V9
noncomputable def B_X10_isHere_35 (G : mG) (r0 : Nat) (r1 : Nat) (x2 : Int) (V : mV) : Option (mV × Nat × Int) :=
  gd (rg x2) <|
  gd (rg (gI V r0 3)) <|
  if (gI V r0 3) ≤ x2 then (some (V, 1, x2)) else (gd (0 ≤ x2 ∧ x2 < (1600 : Int) ∧ x2 ≤ 2147483647) <|
  bd (F_X10_isLetter G (gA V (r0 + 1) x2.toNat) V) fun V19 v20 =>
  gd (rg v20) <|
  if v20 = 0 then (some (V19, 1, x2)) else (lt (x2 + 1) fun y24 =>
  some (V19, 0, y24)))
noncomputable def B_X10_isHere_76 (G : mG) (r0 : Nat) (r1 : Nat) (x3 : Int) (V : mV) : Option (mV × Nat × Int) :=
  gd (rg x3) <|
  gd (rg ((qG G r1) : Int)) <|
  if ((qG G r1) : Int) ≤ x3 then (some (V, 2, x3)) else (gd (0 ≤ ((gI V r0 2) + x3) ∧ ((gI V r0 2) + x3) < (1600 : Int) ∧ ((gI V r0 2) + x3) ≤ 2147483647) <|
  gd (0 ≤ x3 ∧ x3 < ((qG G r1) : Int) ∧ x3 ≤ 2147483647) <|
  gd (rg (gA V (r0 + 1) ((gI V r0 2) + x3).toNat)) <|
  gd (rg (gA V r1 x3.toNat)) <|
  if (gA V (r0 + 1) ((gI V r0 2) + x3).toNat) = (gA V r1 x3.toNat) then (lt (x3 + 1) fun y40 =>
  some (V, 0, y40)) else (some (V, 1, x3)))
noncomputable def F_X10_isHere_J61 (G : mG) (r0 : Nat) (r1 : Nat) (x2 : Int) (V : mV) : Option (mV × Int) :=
  gd (rg (x2 - (gI V r0 2))) <|
  gd (rg ((qG G r1) : Int)) <|
  if (x2 - (gI V r0 2)) = ((qG G r1) : Int) then (bd (lp (fun (s : Int) V => B_X10_isHere_76 G r0 r1 s V) FU 0 V) fun V41 u42 =>
  if u42.1 = 1 then (some (V41, 0)) else (some (V41, 1))) else (some (V, 0))
noncomputable def F_X10_isHere (G : mG) (r0 : Nat) (r1 : Nat) (V : mV) : Option (mV × Int) :=
  gd (rg (gI V r0 5)) <|
  if (gI V r0 5) = 0 then (bd (F_X10_look G r0 V) fun V3 v4 =>
  bd (F_X10_isLetter G v4 V3) fun V6 v7 =>
  gd (rg v7) <|
  if v7 = 0 then (some (V6, 0)) else (gd (rg (gI V6 r0 2)) <|
  gd (rg (gI V6 r0 4)) <|
  if (gI V6 r0 2) = (gI V6 r0 4) then (some (V6, 0)) else (lt (gI V6 r0 2) fun y14 =>
  bd (lp (fun (s : Int) V => B_X10_isHere_35 G r0 r1 s V) FU y14 V6) fun V25 u26 =>
  F_X10_isHere_J61 G r0 r1 u26.2 V25))) else (some (V, 0))
noncomputable def F_X10_takes (G : mG) (r0 : Nat) (r1 : Nat) (V : mV) : Option (mV × Int) :=
  bd (F_X10_isHere G r0 r1 V) fun V1 v2 =>
  gd (rg v2) <|
  if v2 = 0 then (some (V1, 0)) else (lt (sI V1 r0 2 ((gI V1 r0 2) + ((qG G r1) : Int))) fun V6 =>
  lt (sI V6 r0 4 (gI V6 r0 2)) fun V7 =>
  some (V7, 1))
noncomputable def F_X10_asks (G : mG) (r0 : Nat) (r1 : Nat) (V : mV) : Option (mV × Int) :=
  gd (rg (gI V r0 5)) <|
  if (gI V r0 5) = 0 then (bd (F_X10_takes G r0 r1 V) fun V3 v4 =>
  gd (rg v4) <|
  if v4 = 0 then (bd (F_X10_fail G r0 1 (gI V3 r0 2) V3) fun V8 v9 =>
  some (V8, 0)) else (some (V3, 0))) else (some (V, 0))
noncomputable def F_X10_takesSign (G : mG) (r0 : Nat) (x1 : Int) (V : mV) : Option (mV × Int) :=
  gd (rg (gI V r0 5)) <|
  if (gI V r0 5) = 0 then (bd (F_X10_look G r0 V) fun V3 v4 =>
  gd (rg v4) <|
  gd (rg x1) <|
  if v4 = x1 then (lt (sI V3 r0 2 ((gI V3 r0 2) + 1)) fun V9 =>
  some (V9, 1)) else (some (V3, 0))) else (some (V, 0))
noncomputable def F_X10_asksSign (G : mG) (r0 : Nat) (x1 : Int) (V : mV) : Option (mV × Int) :=
  gd (rg (gI V r0 5)) <|
  if (gI V r0 5) = 0 then (bd (F_X10_takesSign G r0 x1 V) fun V3 v4 =>
  gd (rg v4) <|
  if v4 = 0 then (bd (F_X10_fail G r0 1 (gI V3 r0 2) V3) fun V8 v9 =>
  some (V8, 0)) else (some (V3, 0))) else (some (V, 0))
noncomputable def F_X10_number_J30 (G : mG) (r0 : Nat) (x1 : Int) (x2 : Int) (V : mV) : Option (mV × Int) :=
  bd (F_X10_fail G r0 1 (gI V r0 2) V) fun V11 v12 =>
  some (V11, 0)
noncomputable def B_X10_number_49 (G : mG) (r0 : Nat) (x1 : Int) (x2 : Int) (x3 : Int) (x4 : Int) (V : mV) : Option (mV × Nat × Int) :=
  gd (rg (gI V r0 2)) <|
  gd (rg (gI V r0 3)) <|
  if (gI V r0 3) ≤ (gI V r0 2) then (some (V, 2, x4)) else (gd (0 ≤ (gI V r0 2) ∧ (gI V r0 2) < (1600 : Int) ∧ (gI V r0 2) ≤ 2147483647) <|
  bd (F_X10_isDigit G (gA V (r0 + 1) (gI V r0 2).toNat) V) fun V22 v23 =>
  gd (rg v23) <|
  if v23 = 0 then (some (V22, 2, x4)) else (gd (rg ((gI V22 r0 2) - x3)) <|
  if ((gI V22 r0 2) - x3) = 4 then (some (V22, 1, x4)) else (gd (0 ≤ (gI V22 r0 2) ∧ (gI V22 r0 2) < (1600 : Int) ∧ (gI V22 r0 2) ≤ 2147483647) <|
  lt (((10 * x4) + (gA V22 (r0 + 1) (gI V22 r0 2).toNat)) - 48) fun y30 =>
  lt (sI V22 r0 2 ((gI V22 r0 2) + 1)) fun V31 =>
  some (V31, 0, y30))))
noncomputable def F_X10_number_J129 (G : mG) (r0 : Nat) (x1 : Int) (x2 : Int) (x3 : Int) (x4 : Int) (V : mV) : Option (mV × Int) :=
  lt (sI V r0 4 (gI V r0 2)) fun V39 =>
  lt (sI V39 r0 10 x3) fun V40 =>
  gd (rg x4) <|
  gd (rg x1) <|
  gd (rg x2) <|
  bd (F_X10_isIn G x4 x1 x2 V40) fun V44 v45 =>
  gd (rg v45) <|
  if v45 = 0 then (bd (F_X10_fail G r0 2 x3 V44) fun V49 v50 =>
  some (V49, x4)) else (some (V44, x4))
noncomputable def F_X10_number (G : mG) (r0 : Nat) (x1 : Int) (x2 : Int) (V : mV) : Option (mV × Int) :=
  gd (rg (gI V r0 5)) <|
  if (gI V r0 5) = 0 then (bd (F_X10_look G r0 V) fun V3 v4 =>
  bd (F_X10_isDigit G v4 V3) fun V6 v7 =>
  gd (rg v7) <|
  if v7 = 0 then (F_X10_number_J30 G r0 x1 x2 V6) else (gd (rg (gI V6 r0 2)) <|
  gd (rg (gI V6 r0 4)) <|
  if (gI V6 r0 2) = (gI V6 r0 4) then (F_X10_number_J30 G r0 x1 x2 V6) else (lt (gI V6 r0 2) fun y17 =>
  bd (lp (fun (s : Int) V => B_X10_number_49 G r0 x1 x2 y17 s V) FU 0 V6) fun V32 u33 =>
  if u33.1 = 1 then (bd (F_X10_fail G r0 1 (gI V32 r0 2) V32) fun V36 v37 =>
  some (V36, 0)) else (F_X10_number_J129 G r0 x1 x2 y17 u33.2 V32)))) else (some (V, 0))
noncomputable def F_X10_isOwnHere_J223 (G : mG) (r0 : Nat) (s0 : Int) (V : mV) : Option (mV × Int) :=
  gd (rg s0) <|
  if s0 = 0 then (bd (F_X10_isHere G r0 (r0 + 21) V) fun V12 v13 =>
  gd (rg v13) <|
  if v13 = 0 then (bd (F_X10_isHere G r0 (r0 + 22) V12) fun V17 v18 =>
  gd (rg v18) <|
  if v18 = 0 then (bd (F_X10_isHere G r0 (r0 + 23) V17) fun V22 v23 =>
  gd (rg v23) <|
  if v23 = 0 then (bd (F_X10_isHere G r0 (r0 + 24) V22) fun V27 v28 =>
  gd (rg v28) <|
  if v28 = 0 then (bd (F_X10_isHere G r0 (r0 + 25) V27) fun V32 v33 =>
  gd (rg v33) <|
  if v33 = 0 then (bd (F_X10_isHere G r0 (r0 + 26) V32) fun V37 v38 =>
  gd (rg v38) <|
  if v38 = 0 then (some (V37, 0)) else (some (V37, 1))) else (some (V32, 1))) else (some (V27, 1))) else (some (V22, 1))) else (some (V17, 1))) else (some (V12, 1))) else (some (V, 1))
noncomputable def F_X10_isOwnHere_J218 (G : mG) (r0 : Nat) (V : mV) : Option (mV × Int) :=
  F_X10_isOwnHere_J223 G r0 1 V
noncomputable def F_X10_isOwnHere_J147 (G : mG) (r0 : Nat) (s0 : Int) (V : mV) : Option (mV × Int) :=
  gd (rg s0) <|
  if s0 = 0 then (bd (F_X10_isHere G r0 (r0 + 15) V) fun V42 v43 =>
  gd (rg v43) <|
  if v43 = 0 then (bd (F_X10_isHere G r0 (r0 + 16) V42) fun V47 v48 =>
  gd (rg v48) <|
  if v48 = 0 then (bd (F_X10_isHere G r0 (r0 + 17) V47) fun V52 v53 =>
  gd (rg v53) <|
  if v53 = 0 then (bd (F_X10_isHere G r0 (r0 + 18) V52) fun V57 v58 =>
  gd (rg v58) <|
  if v58 = 0 then (bd (F_X10_isHere G r0 (r0 + 19) V57) fun V62 v63 =>
  gd (rg v63) <|
  if v63 = 0 then (bd (F_X10_isHere G r0 (r0 + 20) V62) fun V67 v68 =>
  gd (rg v68) <|
  if v68 = 0 then (F_X10_isOwnHere_J223 G r0 0 V67) else (F_X10_isOwnHere_J218 G r0 V67)) else (F_X10_isOwnHere_J218 G r0 V62)) else (F_X10_isOwnHere_J218 G r0 V57)) else (F_X10_isOwnHere_J218 G r0 V52)) else (F_X10_isOwnHere_J218 G r0 V47)) else (F_X10_isOwnHere_J218 G r0 V42)) else (F_X10_isOwnHere_J218 G r0 V)
noncomputable def F_X10_isOwnHere_J142 (G : mG) (r0 : Nat) (V : mV) : Option (mV × Int) :=
  F_X10_isOwnHere_J147 G r0 1 V
noncomputable def F_X10_isOwnHere_J71 (G : mG) (r0 : Nat) (s0 : Int) (V : mV) : Option (mV × Int) :=
  gd (rg s0) <|
  if s0 = 0 then (bd (F_X10_isHere G r0 (r0 + 9) V) fun V72 v73 =>
  gd (rg v73) <|
  if v73 = 0 then (bd (F_X10_isHere G r0 (r0 + 10) V72) fun V77 v78 =>
  gd (rg v78) <|
  if v78 = 0 then (bd (F_X10_isHere G r0 (r0 + 11) V77) fun V82 v83 =>
  gd (rg v83) <|
  if v83 = 0 then (bd (F_X10_isHere G r0 (r0 + 12) V82) fun V87 v88 =>
  gd (rg v88) <|
  if v88 = 0 then (bd (F_X10_isHere G r0 (r0 + 13) V87) fun V92 v93 =>
  gd (rg v93) <|
  if v93 = 0 then (bd (F_X10_isHere G r0 (r0 + 14) V92) fun V97 v98 =>
  gd (rg v98) <|
  if v98 = 0 then (F_X10_isOwnHere_J147 G r0 0 V97) else (F_X10_isOwnHere_J142 G r0 V97)) else (F_X10_isOwnHere_J142 G r0 V92)) else (F_X10_isOwnHere_J142 G r0 V87)) else (F_X10_isOwnHere_J142 G r0 V82)) else (F_X10_isOwnHere_J142 G r0 V77)) else (F_X10_isOwnHere_J142 G r0 V72)) else (F_X10_isOwnHere_J142 G r0 V)
noncomputable def F_X10_isOwnHere_J66 (G : mG) (r0 : Nat) (V : mV) : Option (mV × Int) :=
  F_X10_isOwnHere_J71 G r0 1 V
noncomputable def F_X10_isOwnHere (G : mG) (r0 : Nat) (V : mV) : Option (mV × Int) :=
  bd (F_X10_isHere G r0 (r0 + 3) V) fun V1 v2 =>
  gd (rg v2) <|
  if v2 = 0 then (bd (F_X10_isHere G r0 (r0 + 4) V1) fun V102 v103 =>
  gd (rg v103) <|
  if v103 = 0 then (bd (F_X10_isHere G r0 (r0 + 5) V102) fun V107 v108 =>
  gd (rg v108) <|
  if v108 = 0 then (bd (F_X10_isHere G r0 (r0 + 6) V107) fun V112 v113 =>
  gd (rg v113) <|
  if v113 = 0 then (bd (F_X10_isHere G r0 (r0 + 7) V112) fun V117 v118 =>
  gd (rg v118) <|
  if v118 = 0 then (bd (F_X10_isHere G r0 (r0 + 8) V117) fun V122 v123 =>
  gd (rg v123) <|
  if v123 = 0 then (F_X10_isOwnHere_J71 G r0 0 V122) else (F_X10_isOwnHere_J66 G r0 V122)) else (F_X10_isOwnHere_J66 G r0 V117)) else (F_X10_isOwnHere_J66 G r0 V112)) else (F_X10_isOwnHere_J66 G r0 V107)) else (F_X10_isOwnHere_J66 G r0 V102)) else (F_X10_isOwnHere_J66 G r0 V1)
noncomputable def F_X10_name_J37 (G : mG) (r0 : Nat) (V : mV) : Option (mV × Int) :=
  bd (F_X10_fail G r0 1 (gI V r0 2) V) fun V11 v12 =>
  some (V11, 0)
noncomputable def B_X10_name_58 (G : mG) (r0 : Nat) (x1 : Int) (V : mV) : Option (mV × Nat × Int) :=
  gd (rg (gI V r0 2)) <|
  gd (rg (gI V r0 3)) <|
  if (gI V r0 3) ≤ (gI V r0 2) then (some (V, 2, x1)) else (gd (0 ≤ (gI V r0 2) ∧ (gI V r0 2) < (1600 : Int) ∧ (gI V r0 2) ≤ 2147483647) <|
  bd (F_X10_isLetter G (gA V (r0 + 1) (gI V r0 2).toNat) V) fun V27 v28 =>
  gd (rg v28) <|
  if v28 = 0 then (some (V27, 2, x1)) else (gd (rg ((gI V27 r0 2) - (gI V27 r0 35))) <|
  if ((gI V27 r0 2) - (gI V27 r0 35)) = 6 then (some (V27, 1, x1)) else (gd (0 ≤ (gI V27 r0 2) ∧ (gI V27 r0 2) < (1600 : Int) ∧ (gI V27 r0 2) ≤ 2147483647) <|
  gd (rg (gA V27 (r0 + 1) (gI V27 r0 2).toNat)) <|
  lt ((((27 * x1) + (gA V27 (r0 + 1) (gI V27 r0 2).toNat)) - 97) + 1) fun y36 =>
  lt (sI V27 r0 2 ((gI V27 r0 2) + 1)) fun V37 =>
  some (V37, 0, y36))))
noncomputable def F_X10_name (G : mG) (r0 : Nat) (V : mV) : Option (mV × Int) :=
  gd (rg (gI V r0 5)) <|
  if (gI V r0 5) = 0 then (bd (F_X10_look G r0 V) fun V3 v4 =>
  bd (F_X10_isLetter G v4 V3) fun V6 v7 =>
  gd (rg v7) <|
  if v7 = 0 then (F_X10_name_J37 G r0 V6) else (gd (rg (gI V6 r0 2)) <|
  gd (rg (gI V6 r0 4)) <|
  if (gI V6 r0 2) = (gI V6 r0 4) then (F_X10_name_J37 G r0 V6) else (bd (F_X10_isOwnHere G r0 V6) fun V17 v18 =>
  gd (rg v18) <|
  if v18 = 0 then (lt (sI V17 r0 35 (gI V17 r0 2)) fun V22 =>
  bd (lp (fun (s : Int) V => B_X10_name_58 G r0 s V) FU 0 V22) fun V38 u39 =>
  if u39.1 = 1 then (bd (F_X10_fail G r0 1 (gI V38 r0 2) V38) fun V42 v43 =>
  some (V42, 0)) else (lt (sI V38 r0 4 (gI V38 r0 2)) fun V45 =>
  some (V45, u39.2))) else (F_X10_name_J37 G r0 V17)))) else (some (V, 0))
noncomputable def F_X10_isAllowed (G : mG) (r0 : Nat) (x1 : Int) (V : mV) : Option (mV × Int) :=
  gd (rg x1) <|
  if 2 ≤ x1 then (gd (rg (gI V r0 48)) <|
  if (gI V r0 48) = 0 then (if 4 ≤ x1 then (some (V, 0)) else (some (V, 1))) else (if (gI V r0 48) = 1 then (if x1 = 2 then (some (V, 1)) else (if x1 = 4 then (some (V, 1)) else (if x1 = 5 then (some (V, 1)) else (some (V, 0))))) else (if (gI V r0 48) = 2 then (if x1 = 2 then (some (V, 1)) else (if x1 = 3 then (some (V, 1)) else (if x1 = 6 then (some (V, 1)) else (some (V, 0))))) else (if x1 ≤ 6 then (some (V, 0)) else (some (V, 1)))))) else (some (V, 1))
noncomputable def F_X10_isFull_J23 (G : mG) (r0 : Nat) (x1 : Int) (x2 : Int) (x3 : Int) (V : mV) : Option (mV × Int) :=
  gd (rg (gI V r0 5)) <|
  if (gI V r0 5) = 0 then (some (V, 0)) else (some (V, 1))
noncomputable def F_X10_isFull (G : mG) (r0 : Nat) (x1 : Int) (x2 : Int) (x3 : Int) (V : mV) : Option (mV × Int) :=
  gd (rg (gI V r0 5)) <|
  if (gI V r0 5) = 0 then (gd (0 ≤ x1 ∧ x1 < (6 : Int) ∧ x1 ≤ 2147483647) <|
  gd (rg (gA V (r0 + 27) x1.toNat)) <|
  gd (rg x2) <|
  if (gA V (r0 + 27) x1.toNat) = x2 then (bd (F_X10_fail G r0 5 x3 V) fun V9 v10 =>
  F_X10_isFull_J23 G r0 x1 x2 x3 V9) else (F_X10_isFull_J23 G r0 x1 x2 x3 V)) else (F_X10_isFull_J23 G r0 x1 x2 x3 V)
noncomputable def B_X10_nameOf_3 (G : mG) (r0 : Nat) (x1 : Int) (x2 : Int) (x4 : Int) (V : mV) : Option (mV × Nat × Int) :=
  gd (0 ≤ x1 ∧ x1 < (6 : Int) ∧ x1 ≤ 2147483647) <|
  gd (rg x4) <|
  gd (rg (gA V (r0 + 27) x1.toNat)) <|
  if (gA V (r0 + 27) x1.toNat) ≤ x4 then (some (V, 2, x4)) else (gd (0 ≤ ((10 * x1) + x4) ∧ ((10 * x1) + x4) < (40 : Int) ∧ ((10 * x1) + x4) ≤ 2147483647) <|
  gd (rl (gL V (r0 + 28) ((10 * x1) + x4).toNat)) <|
  gd (rl x2) <|
  if (gL V (r0 + 28) ((10 * x1) + x4).toNat) = x2 then (some (V, 1, x4)) else (lt (x4 + 1) fun y9 =>
  some (V, 0, y9)))
noncomputable def F_X10_nameOf (G : mG) (r0 : Nat) (x1 : Int) (x2 : Int) (V : mV) : Option (mV × Int) :=
  bd (lp (fun (s : Int) V => B_X10_nameOf_3 G r0 x1 x2 s V) FU 0 V) fun V10 u11 =>
  if u11.1 = 1 then (some (V10, u11.2)) else (some (V10, (-1)))
noncomputable def B_X10_newName_7 (G : mG) (r0 : Nat) (x1 : Int) (x3 : Int) (V : mV) : Option (mV × Nat × Int) :=
  gd (rg x3) <|
  if 2 ≤ x3 then (some (V, 1, x3)) else (gd (rg (gI V r0 5)) <|
  if (gI V r0 5) = 0 then (bd (F_X10_nameOf G r0 x3 x1 V) fun V9 v10 =>
  gd (rg v10) <|
  if v10 = (-1) then (lt (x3 + 1) fun y14 =>
  some (V9, 0, y14)) else (bd (F_X10_fail G r0 3 (gI V9 r0 35) V9) fun V15 v16 =>
  lt (x3 + 1) fun y18 =>
  some (V15, 0, y18))) else (lt (x3 + 1) fun y8 =>
  some (V, 0, y8)))
noncomputable def F_X10_newName (G : mG) (r0 : Nat) (V : mV) : Option (mV × Int) :=
  bd (F_X10_name G r0 V) fun V1 v2 =>
  bd (lp (fun (s : Int) V => B_X10_newName_7 G r0 v2 s V) FU 0 V1) fun V19 u20 =>
  some (V19, v2)
noncomputable def F_X10_oneOf_J35 (G : mG) (r0 : Nat) (x1 : Int) (x4 : Int) (V : mV) : Option (mV × Int) :=
  gd (rg (gI V r0 5)) <|
  if (gI V r0 5) = 0 then (some (V, x4)) else (some (V, 0))
noncomputable def F_X10_oneOf (G : mG) (r0 : Nat) (x1 : Int) (V : mV) : Option (mV × Int) :=
  bd (F_X10_name G r0 V) fun V1 v2 =>
  bd (F_X10_nameOf G r0 x1 v2 V1) fun V4 v5 =>
  gd (rg (gI V4 r0 5)) <|
  if (gI V4 r0 5) = 0 then (gd (rg v5) <|
  if v5 = (-1) then (bd (F_X10_fail G r0 3 (gI V4 r0 35) V4) fun V13 v14 =>
  F_X10_oneOf_J35 G r0 x1 v5 V13) else (F_X10_oneOf_J35 G r0 x1 v5 V4)) else (F_X10_oneOf_J35 G r0 x1 v5 V4)
noncomputable def F_X10_personTold_J111_81 (G : mG) (r0 : Nat) (x1 : Int) (x2 : Int) (x6 : Int) (s1 : Int) (s2 : Int) (V : mV) : Option (mV × Nat × Int) :=
  gd (0 ≤ s1 ∧ s1 < (200 : Int) ∧ s1 ≤ 2147483647) <|
  lt (sA V (r0 + 33) s1.toNat s2) fun V29 =>
  gd (rg x6) <|
  gd (rg x2) <|
  if x6 = x2 then (gd (0 ≤ ((10 * x6) + x2) ∧ ((10 * x6) + x2) < (200 : Int) ∧ ((10 * x6) + x2) ≤ 2147483647) <|
  lt (sA V29 (r0 + 33) ((10 * x6) + x2).toNat 99) fun V37 =>
  lt (x6 + 1) fun y38 =>
  some (V37, 0, y38)) else (gd (0 ≤ ((10 * x6) + x2) ∧ ((10 * x6) + x2) < (200 : Int) ∧ ((10 * x6) + x2) ≤ 2147483647) <|
  lt (sA V29 (r0 + 33) ((10 * x6) + x2).toNat 0) fun V34 =>
  lt (x6 + 1) fun y35 =>
  some (V34, 0, y35))
noncomputable def B_X10_personTold_81 (G : mG) (r0 : Nat) (x1 : Int) (x2 : Int) (x6 : Int) (V : mV) : Option (mV × Nat × Int) :=
  gd (rg x6) <|
  if 10 ≤ x6 then (some (V, 1, x6)) else (gd (rg x2) <|
  if x6 = x2 then (F_X10_personTold_J111_81 G r0 x1 x2 x6 ((10 * x2) + x6) 99 V) else (F_X10_personTold_J111_81 G r0 x1 x2 x6 ((10 * x2) + x6) 0 V))
noncomputable def F_X10_personTold (G : mG) (r0 : Nat) (x1 : Int) (V : mV) : Option (mV × Int) :=
  bd (F_X10_isFull G r0 0 10 x1 V) fun V1 v2 =>
  gd (rg v2) <|
  if v2 = 0 then (lt (gA V1 (r0 + 27) 0) fun y6 =>
  bd (F_X10_newName G r0 V1) fun V7 v8 =>
  bd (F_X10_asks G r0 (r0 + 4) V7) fun V10 v11 =>
  bd (F_X10_number G r0 0 9 V10) fun V13 v14 =>
  gd (rg (gI V13 r0 5)) <|
  if (gI V13 r0 5) = 0 then (gd (0 ≤ y6 ∧ y6 < (40 : Int) ∧ y6 ≤ 2147483647) <|
  lt (sL V13 (r0 + 28) y6.toNat v8) fun V19 =>
  lt (sA V19 (r0 + 29) y6.toNat v14) fun V20 =>
  gd (0 ≤ y6 ∧ y6 < (20 : Int) ∧ y6 ≤ 2147483647) <|
  lt (sA V20 (r0 + 31) y6.toNat (-1)) fun V22 =>
  lt (sA V22 (r0 + 32) y6.toNat (-1)) fun V23 =>
  bd (lp (fun (s : Int) V => B_X10_personTold_81 G r0 x1 y6 s V) FU 0 V23) fun V39 u40 =>
  lt (sA V39 (r0 + 27) 0 ((gA V39 (r0 + 27) 0) + 1)) fun V43 =>
  some (V43, 0)) else (some (V13, 0))) else (some (V1, 0))
noncomputable def F_X10_taskTold (G : mG) (r0 : Nat) (x1 : Int) (V : mV) : Option (mV × Int) :=
  bd (F_X10_isFull G r0 1 8 x1 V) fun V1 v2 =>
  gd (rg v2) <|
  if v2 = 0 then (bd (F_X10_newName G r0 V1) fun V6 v7 =>
  bd (F_X10_asks G r0 (r0 + 6) V6) fun V9 v10 =>
  bd (F_X10_number G r0 0 99 V9) fun V12 v13 =>
  gd (rg (gI V12 r0 5)) <|
  if (gI V12 r0 5) = 0 then (gd (0 ≤ (10 + (gA V12 (r0 + 27) 1)) ∧ (10 + (gA V12 (r0 + 27) 1)) < (40 : Int) ∧ (10 + (gA V12 (r0 + 27) 1)) ≤ 2147483647) <|
  lt (sL V12 (r0 + 28) (10 + (gA V12 (r0 + 27) 1)).toNat v7) fun V18 =>
  gd (0 ≤ (10 + (gA V18 (r0 + 27) 1)) ∧ (10 + (gA V18 (r0 + 27) 1)) < (40 : Int) ∧ (10 + (gA V18 (r0 + 27) 1)) ≤ 2147483647) <|
  lt (sA V18 (r0 + 29) (10 + (gA V18 (r0 + 27) 1)).toNat v13) fun V20 =>
  lt (sA V20 (r0 + 27) 1 ((gA V20 (r0 + 27) 1) + 1)) fun V21 =>
  some (V21, 0)) else (some (V12, 0))) else (some (V1, 0))
noncomputable def B_X10_dutyTold_44 (G : mG) (r0 : Nat) (x1 : Int) (x2 : Int) (x3 : Int) (x4 : Int) (x5 : Int) (V : mV) : Option (mV × Nat × Int) :=
  gd (rg x5) <|
  gd (rg (gA V (r0 + 27) 2)) <|
  if (gA V (r0 + 27) 2) ≤ x5 then (some (V, 1, x5)) else (gd (rg (gI V r0 5)) <|
  if (gI V r0 5) = 0 then (gd (0 ≤ (3 * x5) ∧ (3 * x5) < (144 : Int) ∧ (3 * x5) ≤ 2147483647) <|
  gd (rg (gA V (r0 + 30) (3 * x5).toNat)) <|
  gd (rg x2) <|
  if (gA V (r0 + 30) (3 * x5).toNat) = x2 then (gd (0 ≤ ((3 * x5) + 1) ∧ ((3 * x5) + 1) < (144 : Int) ∧ ((3 * x5) + 1) ≤ 2147483647) <|
  gd (rg (gA V (r0 + 30) ((3 * x5) + 1).toNat)) <|
  gd (rg x3) <|
  if (gA V (r0 + 30) ((3 * x5) + 1).toNat) = x3 then (gd (0 ≤ ((3 * x5) + 2) ∧ ((3 * x5) + 2) < (144 : Int) ∧ ((3 * x5) + 2) ≤ 2147483647) <|
  gd (rg (gA V (r0 + 30) ((3 * x5) + 2).toNat)) <|
  gd (rg x4) <|
  if (gA V (r0 + 30) ((3 * x5) + 2).toNat) = x4 then (bd (F_X10_fail G r0 2 (gI V r0 10) V) fun V39 v40 =>
  lt (x5 + 1) fun y42 =>
  some (V39, 0, y42)) else (lt (x5 + 1) fun y38 =>
  some (V, 0, y38))) else (lt (x5 + 1) fun y33 =>
  some (V, 0, y33))) else (lt (x5 + 1) fun y28 =>
  some (V, 0, y28))) else (lt (x5 + 1) fun y23 =>
  some (V, 0, y23)))
noncomputable def F_X10_dutyTold (G : mG) (r0 : Nat) (x1 : Int) (V : mV) : Option (mV × Int) :=
  bd (F_X10_isFull G r0 2 24 x1 V) fun V1 v2 =>
  gd (rg v2) <|
  if v2 = 0 then (bd (F_X10_oneOf G r0 0 V1) fun V6 v7 =>
  bd (F_X10_oneOf G r0 1 V6) fun V9 v10 =>
  bd (F_X10_asks G r0 (r0 + 8) V9) fun V12 v13 =>
  bd (F_X10_number G r0 0 23 V12) fun V15 v16 =>
  bd (lp (fun (s : Int) V => B_X10_dutyTold_44 G r0 x1 v7 v10 v16 s V) FU 0 V15) fun V43 u44 =>
  gd (rg (gI V43 r0 5)) <|
  if (gI V43 r0 5) = 0 then (lt (3 * (gA V43 (r0 + 27) 2)) fun y49 =>
  gd (0 ≤ y49 ∧ y49 < (144 : Int) ∧ y49 ≤ 2147483647) <|
  lt (sA V43 (r0 + 30) y49.toNat v7) fun V51 =>
  gd (0 ≤ (y49 + 1) ∧ (y49 + 1) < (144 : Int) ∧ (y49 + 1) ≤ 2147483647) <|
  lt (sA V51 (r0 + 30) (y49 + 1).toNat v10) fun V53 =>
  gd (0 ≤ (y49 + 2) ∧ (y49 + 2) < (144 : Int) ∧ (y49 + 2) ≤ 2147483647) <|
  lt (sA V53 (r0 + 30) (y49 + 2).toNat v16) fun V55 =>
  lt (sA V55 (r0 + 27) 2 ((gA V55 (r0 + 27) 2) + 1)) fun V56 =>
  some (V56, 0)) else (some (V43, 0))) else (some (V1, 0))
noncomputable def F_X10_coverTold_J69 (G : mG) (r0 : Nat) (x1 : Int) (x2 : Int) (V : mV) : Option (mV × Int) :=
  gd (rg (gI V r0 5)) <|
  if (gI V r0 5) = 0 then (gd (0 ≤ x1 ∧ x1 < (20 : Int) ∧ x1 ≤ 2147483647) <|
  lt (sA V (r0 + 31) x1.toNat x2) fun V14 =>
  gd (0 ≤ x2 ∧ x2 < (20 : Int) ∧ x2 ≤ 2147483647) <|
  lt (sA V14 (r0 + 32) x2.toNat x1) fun V16 =>
  some (V16, 0)) else (some (V, 0))
noncomputable def F_X10_coverTold_J60 (G : mG) (r0 : Nat) (x1 : Int) (x2 : Int) (V : mV) : Option (mV × Int) :=
  bd (F_X10_fail G r0 3 (gI V r0 35) V) fun V20 v21 =>
  F_X10_coverTold_J69 G r0 x1 x2 V20
noncomputable def F_X10_coverTold_J32 (G : mG) (r0 : Nat) (x1 : Int) (V : mV) : Option (mV × Int) :=
  bd (F_X10_oneOf G r0 0 V) fun V6 v7 =>
  gd (rg (gI V6 r0 5)) <|
  if (gI V6 r0 5) = 0 then (gd (rg x1) <|
  gd (rg v7) <|
  if x1 = v7 then (F_X10_coverTold_J60 G r0 x1 v7 V6) else (gd (0 ≤ v7 ∧ v7 < (20 : Int) ∧ v7 ≤ 2147483647) <|
  gd (rg (gA V6 (r0 + 32) v7.toNat)) <|
  if (gA V6 (r0 + 32) v7.toNat) = (-1) then (F_X10_coverTold_J69 G r0 x1 v7 V6) else (F_X10_coverTold_J60 G r0 x1 v7 V6))) else (F_X10_coverTold_J69 G r0 x1 v7 V6)
noncomputable def F_X10_coverTold (G : mG) (r0 : Nat) (V : mV) : Option (mV × Int) :=
  bd (F_X10_oneOf G r0 0 V) fun V1 v2 =>
  gd (rg (gI V1 r0 5)) <|
  if (gI V1 r0 5) = 0 then (gd (0 ≤ v2 ∧ v2 < (20 : Int) ∧ v2 ≤ 2147483647) <|
  gd (rg (gA V1 (r0 + 31) v2.toNat)) <|
  if (gA V1 (r0 + 31) v2.toNat) = (-1) then (F_X10_coverTold_J32 G r0 v2 V1) else (bd (F_X10_fail G r0 3 (gI V1 r0 35) V1) fun V29 v30 =>
  F_X10_coverTold_J32 G r0 v2 V29)) else (F_X10_coverTold_J32 G r0 v2 V1)
noncomputable def F_X10_knownTold_J33 (G : mG) (r0 : Nat) (x1 : Int) (x2 : Int) (V : mV) : Option (mV × Int) :=
  bd (F_X10_number G r0 0 99 V) fun V9 v10 =>
  gd (rg (gI V9 r0 5)) <|
  if (gI V9 r0 5) = 0 then (gd (0 ≤ ((10 * x1) + x2) ∧ ((10 * x1) + x2) < (200 : Int) ∧ ((10 * x1) + x2) ≤ 2147483647) <|
  lt (sA V9 (r0 + 33) ((10 * x1) + x2).toNat v10) fun V15 =>
  some (V15, 0)) else (some (V9, 0))
noncomputable def F_X10_knownTold (G : mG) (r0 : Nat) (V : mV) : Option (mV × Int) :=
  bd (F_X10_oneOf G r0 0 V) fun V1 v2 =>
  bd (F_X10_oneOf G r0 0 V1) fun V4 v5 =>
  gd (rg (gI V4 r0 5)) <|
  if (gI V4 r0 5) = 0 then (gd (rg v2) <|
  gd (rg v5) <|
  if v2 = v5 then (bd (F_X10_fail G r0 3 (gI V4 r0 35) V4) fun V19 v20 =>
  F_X10_knownTold_J33 G r0 v2 v5 V19) else (F_X10_knownTold_J33 G r0 v2 v5 V4)) else (F_X10_knownTold_J33 G r0 v2 v5 V4)
noncomputable def F_X10_qCode (G : mG) (r0 : Nat) (x1 : Int) (V : mV) : Option (mV × Int) :=
  gd (0 ≤ (gI V r0 98) ∧ (gI V r0 98) < (1700 : Int) ∧ (gI V r0 98) ≤ 2147483647) <|
  lt (sA V (r0 + 68) (gI V r0 98).toNat x1) fun V2 =>
  lt (sI V2 r0 98 ((gI V2 r0 98) + 1)) fun V3 =>
  some (V3, 0)
noncomputable def F_X10_qDrops (G : mG) (r0 : Nat) (V : mV) : Option (mV × Int) :=
  lt (sI V r0 100 ((gI V r0 100) - 1)) fun V1 =>
  gd (0 ≤ (gI V1 r0 100) ∧ (gI V1 r0 100) < (1700 : Int) ∧ (gI V1 r0 100) ≤ 2147483647) <|
  bd (F_X10_qCode G r0 (gA V1 (r0 + 69) (gI V1 r0 100).toNat) V1) fun V3 v4 =>
  some (V3, 0)
noncomputable def F_X10_qIsBracket (G : mG) (x0 : Int) (V : mV) : Option (mV × Int) :=
  gd (rg x0) <|
  if x0 < 20 then (some (V, 0)) else (if 24 < x0 then (some (V, 0)) else (some (V, 1)))
noncomputable def B_X10_qBracket_7 (G : mG) (r0 : Nat) (x1 : Int) (V : mV) : Option (mV × Nat × Int) :=
  gd (rg x1) <|
  gd (rg (gI V r0 102)) <|
  if x1 < (gI V r0 102) then (some (V, 1, x1)) else (gd (0 ≤ x1 ∧ x1 < (1700 : Int) ∧ x1 ≤ 2147483647) <|
  bd (F_X10_qIsBracket G (gA V (r0 + 69) x1.toNat) V) fun V6 v7 =>
  gd (rg v7) <|
  if v7 = 0 then (lt (x1 + (-1)) fun y11 =>
  some (V6, 0, y11)) else (some (V6, 1, x1)))
noncomputable def F_X10_qBracket_J33 (G : mG) (r0 : Nat) (x1 : Int) (V : mV) : Option (mV × Int) :=
  gd (rg x1) <|
  gd (rg (gI V r0 102)) <|
  if x1 < (gI V r0 102) then (some (V, (-1))) else (gd (0 ≤ x1 ∧ x1 < (1700 : Int) ∧ x1 ≤ 2147483647) <|
  some (V, gA V (r0 + 69) x1.toNat))
noncomputable def F_X10_qBracket (G : mG) (r0 : Nat) (V : mV) : Option (mV × Int) :=
  lt ((gI V r0 100) - 1) fun y1 =>
  bd (lp (fun (s : Int) V => B_X10_qBracket_7 G r0 s V) FU y1 V) fun V12 u13 =>
  F_X10_qBracket_J33 G r0 u13.2 V12
noncomputable def B_X10_qDropsToBracket_0 (G : mG) (r0 : Nat) (V : mV) : Option (mV × Nat × Unit) :=
  gd (rg (gI V r0 100)) <|
  gd (rg (gI V r0 102)) <|
  if (gI V r0 100) ≤ (gI V r0 102) then (some (V, 1, ())) else (gd (0 ≤ ((gI V r0 100) - 1) ∧ ((gI V r0 100) - 1) < (1700 : Int) ∧ ((gI V r0 100) - 1) ≤ 2147483647) <|
  bd (F_X10_qIsBracket G (gA V (r0 + 69) ((gI V r0 100) - 1).toNat) V) fun V5 v6 =>
  gd (rg v6) <|
  if v6 = 0 then (bd (F_X10_qDrops G r0 V5) fun V10 v11 =>
  some (V10, 0, ())) else (some (V5, 1, ())))
noncomputable def F_X10_qDropsToBracket (G : mG) (r0 : Nat) (V : mV) : Option (mV × Int) :=
  bd (lp (fun (s : Unit) V => B_X10_qDropsToBracket_0 G r0  V) FU () V) fun V13 u14 =>
  some (V13, 0)
noncomputable def B_X10_qEndsPart_0 (G : mG) (r0 : Nat) (V : mV) : Option (mV × Nat × Unit) :=
  gd (rg (gI V r0 5)) <|
  if (gI V r0 5) = 0 then (gd (rg (gI V r0 100)) <|
  gd (rg (gI V r0 102)) <|
  if (gI V r0 100) ≤ (gI V r0 102) then (some (V, 1, ())) else (gd (0 ≤ ((gI V r0 100) - 1) ∧ ((gI V r0 100) - 1) < (1700 : Int) ∧ ((gI V r0 100) - 1) ≤ 2147483647) <|
  gd (rg (gA V (r0 + 69) ((gI V r0 100) - 1).toNat)) <|
  if (gA V (r0 + 69) ((gI V r0 100) - 1).toNat) < 60 then (some (V, 1, ())) else (lt (sI V r0 101 ((gI V r0 101) - 1)) fun V9 =>
  bd (F_X10_qDrops G r0 V9) fun V10 v11 =>
  some (V10, 0, ())))) else (some (V, 1, ()))
noncomputable def F_X10_qEndsPart (G : mG) (r0 : Nat) (V : mV) : Option (mV × Int) :=
  bd (lp (fun (s : Unit) V => B_X10_qEndsPart_0 G r0  V) FU () V) fun V13 u14 =>
  some (V13, 0)
noncomputable def F_X10_qIsOn (G : mG) (r0 : Nat) (x1 : Int) (V : mV) : Option (mV × Int) :=
  gd (rg (gI V r0 100)) <|
  if (gI V r0 100) ≤ 0 then (some (V, 0)) else (gd (0 ≤ ((gI V r0 100) - 1) ∧ ((gI V r0 100) - 1) < (1700 : Int) ∧ ((gI V r0 100) - 1) ≤ 2147483647) <|
  gd (rg (gA V (r0 + 69) ((gI V r0 100) - 1).toNat)) <|
  gd (rg x1) <|
  if (gA V (r0 + 69) ((gI V r0 100) - 1).toNat) = x1 then (some (V, 1)) else (some (V, 0)))
noncomputable def F_X10_qGoesOn_J112_0 (G : mG) (r0 : Nat) (s1 : Int) (V : mV) : Option (mV × Nat × Unit) :=
  bd (F_X10_qCode G r0 s1 V) fun V26 v27 =>
  bd (F_X10_qEndsPart G r0 V26) fun V29 v30 =>
  some (V29, 0, ())
noncomputable def F_X10_qGoesOn_J43_0 (G : mG) (r0 : Nat) (V : mV) : Option (mV × Nat × Unit) :=
  lt (sI V r0 2 ((gI V r0 2) + 1)) fun V13 =>
  bd (F_X10_qDropsToBracket G r0 V13) fun V14 v15 =>
  lt (sI V14 r0 100 ((gI V14 r0 100) - 1)) fun V17 =>
  lt (sI V17 r0 101 ((gI V17 r0 101) - 1)) fun V18 =>
  gd (0 ≤ (gI V18 r0 100) ∧ (gI V18 r0 100) < (1700 : Int) ∧ (gI V18 r0 100) ≤ 2147483647) <|
  gd (rg (gA V18 (r0 + 69) (gI V18 r0 100).toNat)) <|
  if (gA V18 (r0 + 69) (gI V18 r0 100).toNat) = 20 then (bd (F_X10_qEndsPart G r0 V18) fun V22 v23 =>
  some (V22, 0, ())) else (if (gA V18 (r0 + 69) (gI V18 r0 100).toNat) = 23 then (F_X10_qGoesOn_J112_0 G r0 5 V18) else (F_X10_qGoesOn_J112_0 G r0 6 V18))
noncomputable def B_X10_qGoesOn_0 (G : mG) (r0 : Nat) (V : mV) : Option (mV × Nat × Unit) :=
  gd (rg (gI V r0 5)) <|
  if (gI V r0 5) = 0 then (bd (F_X10_look G r0 V) fun V3 v4 =>
  gd (rg v4) <|
  if v4 = 41 then (bd (F_X10_qBracket G r0 V3) fun V8 v9 =>
  gd (rg v9) <|
  if v9 = 20 then (F_X10_qGoesOn_J43_0 G r0 V8) else (bd (F_X10_qBracket G r0 V8) fun V32 v33 =>
  gd (rg v33) <|
  if v33 = 23 then (F_X10_qGoesOn_J43_0 G r0 V32) else (bd (F_X10_qBracket G r0 V32) fun V37 v38 =>
  gd (rg v38) <|
  if v38 = 24 then (F_X10_qGoesOn_J43_0 G r0 V37) else (some (V37, 1, ()))))) else (some (V3, 1, ()))) else (some (V, 1, ()))
noncomputable def B_X10_qGoesOn_162 (G : mG) (r0 : Nat) (x1 : Int) (V : mV) : Option (mV × Nat × Unit) :=
  bd (F_X10_qIsOn G r0 3 V) fun V54 v55 =>
  gd (rg v55) <|
  if v55 = 0 then (bd (F_X10_qIsOn G r0 4 V54) fun V62 v63 =>
  gd (rg v63) <|
  if v63 = 0 then (some (V62, 1, ())) else (bd (F_X10_qDrops G r0 V62) fun V67 v68 =>
  some (V67, 0, ()))) else (bd (F_X10_qDrops G r0 V54) fun V59 v60 =>
  some (V59, 0, ()))
noncomputable def F_X10_qGoesOn_J161 (G : mG) (r0 : Nat) (s0 : Int) (V : mV) : Option (mV × Int) :=
  bd (lp (fun (s : Unit) V => B_X10_qGoesOn_162 G r0 s0  V) FU () V) fun V70 u71 =>
  gd (0 ≤ (gI V70 r0 100) ∧ (gI V70 r0 100) < (1700 : Int) ∧ (gI V70 r0 100) ≤ 2147483647) <|
  lt (sA V70 (r0 + 69) (gI V70 r0 100).toNat s0) fun V75 =>
  lt (sI V75 r0 100 ((gI V75 r0 100) + 1)) fun V76 =>
  some (V76, 1)
noncomputable def F_X10_qGoesOn_J140 (G : mG) (r0 : Nat) (V : mV) : Option (mV × Int) :=
  gd (0 ≤ ((gI V r0 2) - 1) ∧ ((gI V r0 2) - 1) < (1600 : Int) ∧ ((gI V r0 2) - 1) ≤ 2147483647) <|
  gd (rg (gA V (r0 + 1) ((gI V r0 2) - 1).toNat)) <|
  if (gA V (r0 + 1) ((gI V r0 2) - 1).toNat) = 42 then (F_X10_qGoesOn_J161 G r0 3 V) else (F_X10_qGoesOn_J161 G r0 4 V)
noncomputable def B_X10_qGoesOn_247 (G : mG) (r0 : Nat) (x1 : Int) (V : mV) : Option (mV × Nat × Unit) :=
  bd (F_X10_qIsOn G r0 3 V) fun V90 v91 =>
  gd (rg v91) <|
  if v91 = 0 then (bd (F_X10_qIsOn G r0 4 V90) fun V98 v99 =>
  gd (rg v99) <|
  if v99 = 0 then (bd (F_X10_qIsOn G r0 1 V98) fun V106 v107 =>
  gd (rg v107) <|
  if v107 = 0 then (bd (F_X10_qIsOn G r0 2 V106) fun V114 v115 =>
  gd (rg v115) <|
  if v115 = 0 then (some (V114, 1, ())) else (bd (F_X10_qDrops G r0 V114) fun V119 v120 =>
  some (V119, 0, ()))) else (bd (F_X10_qDrops G r0 V106) fun V111 v112 =>
  some (V111, 0, ()))) else (bd (F_X10_qDrops G r0 V98) fun V103 v104 =>
  some (V103, 0, ()))) else (bd (F_X10_qDrops G r0 V90) fun V95 v96 =>
  some (V95, 0, ()))
noncomputable def F_X10_qGoesOn_J246 (G : mG) (r0 : Nat) (s0 : Int) (V : mV) : Option (mV × Int) :=
  bd (lp (fun (s : Unit) V => B_X10_qGoesOn_247 G r0 s0  V) FU () V) fun V122 u123 =>
  gd (0 ≤ (gI V122 r0 100) ∧ (gI V122 r0 100) < (1700 : Int) ∧ (gI V122 r0 100) ≤ 2147483647) <|
  lt (sA V122 (r0 + 69) (gI V122 r0 100).toNat s0) fun V127 =>
  lt (sI V127 r0 100 ((gI V127 r0 100) + 1)) fun V128 =>
  some (V128, 1)
noncomputable def F_X10_qGoesOn_J225 (G : mG) (r0 : Nat) (V : mV) : Option (mV × Int) :=
  gd (0 ≤ ((gI V r0 2) - 1) ∧ ((gI V r0 2) - 1) < (1600 : Int) ∧ ((gI V r0 2) - 1) ≤ 2147483647) <|
  gd (rg (gA V (r0 + 1) ((gI V r0 2) - 1).toNat)) <|
  if (gA V (r0 + 1) ((gI V r0 2) - 1).toNat) = 43 then (F_X10_qGoesOn_J246 G r0 1 V) else (F_X10_qGoesOn_J246 G r0 2 V)
noncomputable def F_X10_qGoesOn_J326 (G : mG) (r0 : Nat) (V : mV) : Option (mV × Int) :=
  bd (F_X10_asksSign G r0 44 V) fun V139 v140 =>
  gd (rg (gI V139 r0 5)) <|
  if (gI V139 r0 5) = 0 then (bd (F_X10_qDropsToBracket G r0 V139) fun V144 v145 =>
  gd (0 ≤ ((gI V144 r0 100) - 1) ∧ ((gI V144 r0 100) - 1) < (1700 : Int) ∧ ((gI V144 r0 100) - 1) ≤ 2147483647) <|
  lt (sA V144 (r0 + 69) ((gI V144 r0 100) - 1).toNat ((gA V144 (r0 + 69) ((gI V144 r0 100) - 1).toNat) + 2)) fun V148 =>
  some (V148, 1)) else (some (V139, 0))
noncomputable def F_X10_qGoesOn_J122 (G : mG) (r0 : Nat) (V : mV) : Option (mV × Int) :=
  bd (F_X10_takesSign G r0 42 V) fun V46 v47 =>
  gd (rg v47) <|
  if v47 = 0 then (bd (F_X10_takesSign G r0 47 V46) fun V77 v78 =>
  gd (rg v78) <|
  if v78 = 0 then (bd (F_X10_takesSign G r0 43 V77) fun V82 v83 =>
  gd (rg v83) <|
  if v83 = 0 then (bd (F_X10_takesSign G r0 45 V82) fun V129 v130 =>
  gd (rg v130) <|
  if v130 = 0 then (bd (F_X10_qBracket G r0 V129) fun V134 v135 =>
  gd (rg v135) <|
  if v135 = 21 then (F_X10_qGoesOn_J326 G r0 V134) else (bd (F_X10_qBracket G r0 V134) fun V149 v150 =>
  gd (rg v150) <|
  if v150 = 22 then (F_X10_qGoesOn_J326 G r0 V149) else (bd (F_X10_qBracket G r0 V149) fun V154 v155 =>
  gd (rg v155) <|
  if v155 = (-1) then (some (V154, 0)) else (gd (rg (gI V154 r0 5)) <|
  if (gI V154 r0 5) = 0 then (bd (F_X10_fail G r0 1 (gI V154 r0 2) V154) fun V161 v162 =>
  some (V161, 0)) else (some (V154, 0)))))) else (F_X10_qGoesOn_J225 G r0 V129)) else (F_X10_qGoesOn_J225 G r0 V82)) else (F_X10_qGoesOn_J140 G r0 V77)) else (F_X10_qGoesOn_J140 G r0 V46)
noncomputable def F_X10_qGoesOn (G : mG) (r0 : Nat) (V : mV) : Option (mV × Int) :=
  bd (lp (fun (s : Unit) V => B_X10_qGoesOn_0 G r0  V) FU () V) fun V42 u43 =>
  F_X10_qGoesOn_J122 G r0 V42
noncomputable def F_X10_qAsksWord (G : mG) (r0 : Nat) (x1 : Int) (V : mV) : Option (mV × Int) :=
  gd (rg x1) <|
  if x1 = 0 then (bd (F_X10_asks G r0 (r0 + 58) V) fun V3 v4 =>
  some (V3, 0)) else if x1 = 1 then (bd (F_X10_asks G r0 (r0 + 59) V) fun V7 v8 =>
  some (V7, 0)) else if x1 = 2 then (bd (F_X10_asks G r0 (r0 + 60) V) fun V11 v12 =>
  some (V11, 0)) else if x1 = 3 then (bd (F_X10_asks G r0 (r0 + 61) V) fun V15 v16 =>
  some (V15, 0)) else if x1 = 4 then (bd (F_X10_asks G r0 (r0 + 62) V) fun V19 v20 =>
  some (V19, 0)) else if x1 = 5 then (bd (F_X10_asks G r0 (r0 + 63) V) fun V23 v24 =>
  some (V23, 0)) else if x1 = 6 then (bd (F_X10_asks G r0 (r0 + 64) V) fun V27 v28 =>
  some (V27, 0)) else if x1 = 7 then (bd (F_X10_asks G r0 (r0 + 65) V) fun V31 v32 =>
  some (V31, 0)) else if x1 = 8 then (bd (F_X10_asks G r0 (r0 + 66) V) fun V35 v36 =>
  some (V35, 0)) else if x1 = 9 then (bd (F_X10_asks G r0 (r0 + 67) V) fun V39 v40 =>
  some (V39, 0)) else (bd (F_X10_asks G r0 (r0 + 60) V) fun V42 v43 =>
  some (V42, 0))
noncomputable def F_X10_qOpens (G : mG) (r0 : Nat) (x1 : Int) (x2 : Int) (V : mV) : Option (mV × Int) :=
  gd (rg (gI V r0 5)) <|
  if (gI V r0 5) = 0 then (gd (rg (gI V r0 101)) <|
  if (gI V r0 101) = 6 then (bd (F_X10_fail G r0 4 x2 V) fun V9 v10 =>
  some (V9, 0)) else (lt (sI V r0 101 ((gI V r0 101) + 1)) fun V5 =>
  gd (0 ≤ (gI V5 r0 100) ∧ (gI V5 r0 100) < (1700 : Int) ∧ (gI V5 r0 100) ≤ 2147483647) <|
  lt (sA V5 (r0 + 69) (gI V5 r0 100).toNat x1) fun V7 =>
  lt (sI V7 r0 100 ((gI V7 r0 100) + 1)) fun V8 =>
  some (V8, 0))) else (some (V, 0))
noncomputable def F_X10_qWordHere (G : mG) (r0 : Nat) (V : mV) : Option (mV × Int) :=
  bd (F_X10_isHere G r0 (r0 + 58) V) fun V1 v2 =>
  gd (rg v2) <|
  if v2 = 0 then (bd (F_X10_isHere G r0 (r0 + 59) V1) fun V6 v7 =>
  gd (rg v7) <|
  if v7 = 0 then (bd (F_X10_isHere G r0 (r0 + 60) V6) fun V11 v12 =>
  gd (rg v12) <|
  if v12 = 0 then (bd (F_X10_isHere G r0 (r0 + 61) V11) fun V16 v17 =>
  gd (rg v17) <|
  if v17 = 0 then (bd (F_X10_isHere G r0 (r0 + 62) V16) fun V21 v22 =>
  gd (rg v22) <|
  if v22 = 0 then (bd (F_X10_isHere G r0 (r0 + 63) V21) fun V26 v27 =>
  gd (rg v27) <|
  if v27 = 0 then (bd (F_X10_isHere G r0 (r0 + 64) V26) fun V31 v32 =>
  gd (rg v32) <|
  if v32 = 0 then (bd (F_X10_isHere G r0 (r0 + 65) V31) fun V36 v37 =>
  gd (rg v37) <|
  if v37 = 0 then (bd (F_X10_isHere G r0 (r0 + 66) V36) fun V41 v42 =>
  gd (rg v42) <|
  if v42 = 0 then (bd (F_X10_isHere G r0 (r0 + 67) V41) fun V46 v47 =>
  gd (rg v47) <|
  if v47 = 0 then (some (V46, (-1))) else (some (V46, 9))) else (some (V41, 8))) else (some (V36, 7))) else (some (V31, 6))) else (some (V26, 5))) else (some (V21, 4))) else (some (V16, 3))) else (gd (rg (gI V11 r0 48)) <|
  if (gI V11 r0 48) = 3 then (some (V11, 10)) else (some (V11, 2)))) else (some (V6, 1))) else (some (V1, 0))
noncomputable def F_X10_qWordOf (G : mG) (r0 : Nat) (x1 : Int) (x2 : Int) (V : mV) : Option (mV × Int) :=
  bd (F_X10_qWordHere G r0 V) fun V1 v2 =>
  gd (rg v2) <|
  gd (rg x1) <|
  if v2 < x1 then (some (V1, (-1))) else (gd (rg x2) <|
  if x2 ≤ v2 then (some (V1, (-1))) else (bd (F_X10_isAllowed G r0 v2 V1) fun V9 v10 =>
  gd (rg v10) <|
  if v10 = 0 then (some (V9, (-1))) else (some (V9, v2))))
noncomputable def F_X10_qPartTold_J144_2 (G : mG) (r0 : Nat) (x1 : Int) (V : mV) : Option (mV × Nat × Int) :=
  bd (F_X10_asksSign G r0 40 V) fun V30 v31 =>
  some (V30, 0, x1)
noncomputable def F_X10_qPartTold_J139_2 (G : mG) (r0 : Nat) (x1 : Int) (x5 : Int) (s1 : Int) (V : mV) : Option (mV × Nat × Int) :=
  bd (F_X10_qOpens G r0 s1 x5 V) fun V35 v36 =>
  F_X10_qPartTold_J144_2 G r0 x1 V35
noncomputable def F_X10_qPartTold_J118_2 (G : mG) (r0 : Nat) (x1 : Int) (x4 : Int) (s0 : Int) (V : mV) : Option (mV × Nat × Int) :=
  gd (rg s0) <|
  if s0 = (-1) then (F_X10_qPartTold_J144_2 G r0 x1 V) else (gd (rg x4) <|
  if x4 = 0 then (F_X10_qPartTold_J139_2 G r0 x1 s0 22 V) else (F_X10_qPartTold_J139_2 G r0 x1 s0 21 V))
noncomputable def F_X10_qPartTold_J101_2 (G : mG) (r0 : Nat) (x1 : Int) (x4 : Int) (V : mV) : Option (mV × Nat × Int) :=
  bd (F_X10_look G r0 V) fun V23 v24 =>
  gd (rg v24) <|
  if v24 = 40 then (F_X10_qPartTold_J118_2 G r0 x1 x4 (gI V23 r0 2) V23) else (F_X10_qPartTold_J118_2 G r0 x1 x4 (-1) V23)
noncomputable def F_X10_qPartTold_J78_2 (G : mG) (r0 : Nat) (x1 : Int) (V : mV) : Option (mV × Nat × Int) :=
  bd (F_X10_takes G r0 (r0 + 56) V) fun V18 v19 =>
  gd (rg v19) <|
  if v19 = 0 then (bd (F_X10_asks G r0 (r0 + 57) V18) fun V38 v39 =>
  F_X10_qPartTold_J101_2 G r0 x1 v19 V38) else (F_X10_qPartTold_J101_2 G r0 x1 v19 V18)
noncomputable def B_X10_qPartTold_2 (G : mG) (r0 : Nat) (x1 : Int) (V : mV) : Option (mV × Nat × Int) :=
  gd (rg x1) <|
  if x1 = 0 then (some (V, 1, x1)) else (gd (rg (gI V r0 5)) <|
  if (gI V r0 5) = 0 then (bd (F_X10_look G r0 V) fun V5 v6 =>
  bd (F_X10_qWordOf G r0 10 11 V5) fun V8 v9 =>
  gd (rg v6) <|
  if v6 = 40 then (bd (F_X10_qOpens G r0 20 (gI V8 r0 2) V8) fun V54 v55 =>
  lt (sI V54 r0 2 ((gI V54 r0 2) + 1)) fun V57 =>
  some (V57, 0, x1)) else (bd (F_X10_isHere G r0 (r0 + 56) V8) fun V13 v14 =>
  gd (rg v14) <|
  if v14 = 0 then (bd (F_X10_isHere G r0 (r0 + 57) V13) fun V41 v42 =>
  gd (rg v42) <|
  if v42 = 0 then (gd (rg v9) <|
  if v9 = (-1) then (some (V41, 0, 0)) else (bd (F_X10_qOpens G r0 ((60 + v9) - 10) (gI V41 r0 2) V41) fun V48 v49 =>
  bd (F_X10_qAsksWord G r0 v9 V48) fun V51 v52 =>
  some (V51, 0, x1))) else (F_X10_qPartTold_J78_2 G r0 x1 V41)) else (F_X10_qPartTold_J78_2 G r0 x1 V13))) else (some (V, 1, x1)))
noncomputable def F_X10_qPartTold_J237 (G : mG) (r0 : Nat) (s1 : Int) (V : mV) : Option (mV × Int) :=
  bd (F_X10_qCode G r0 s1 V) fun V74 v75 =>
  bd (F_X10_qEndsPart G r0 V74) fun V77 v78 =>
  some (V77, 0)
noncomputable def F_X10_qPartTold_J212 (G : mG) (r0 : Nat) (x2 : Int) (V : mV) : Option (mV × Int) :=
  gd (rg x2) <|
  if x2 = (-1) then (bd (F_X10_number G r0 0 9999 V) fun V71 v72 =>
  F_X10_qPartTold_J237 G r0 (1000 + v72) V71) else (F_X10_qPartTold_J237 G r0 (40 + x2) V)
noncomputable def F_X10_qPartTold_J186 (G : mG) (r0 : Nat) (V : mV) : Option (mV × Int) :=
  gd (rg (gI V r0 5)) <|
  if (gI V r0 5) = 0 then (bd (F_X10_qWordOf G r0 0 10 V) fun V64 v65 =>
  gd (rg v65) <|
  if v65 = (-1) then (F_X10_qPartTold_J212 G r0 v65 V64) else (bd (F_X10_qAsksWord G r0 v65 V64) fun V80 v81 =>
  F_X10_qPartTold_J212 G r0 v65 V80)) else (some (V, 0))
noncomputable def F_X10_qPartTold (G : mG) (r0 : Nat) (V : mV) : Option (mV × Int) :=
  bd (lp (fun (s : Int) V => B_X10_qPartTold_2 G r0 s V) FU 1 V) fun V58 u59 =>
  F_X10_qPartTold_J186 G r0 V58
noncomputable def B_X10_qSums_15 (G : mG) (r0 : Nat) (x1 : Int) (x2 : Int) (V : mV) : Option (mV × Nat × Int) :=
  gd (rg x2) <|
  if x2 = 0 then (some (V, 1, x2)) else (gd (rg (gI V r0 5)) <|
  if (gI V r0 5) = 0 then (bd (F_X10_qPartTold G r0 V) fun V7 v8 =>
  gd (rg (gI V7 r0 5)) <|
  if (gI V7 r0 5) = 0 then (bd (F_X10_qGoesOn G r0 V7) fun V12 v13 =>
  gd (rg v13) <|
  if v13 = 0 then (some (V12, 0, 0)) else (some (V12, 0, 1))) else (some (V7, 0, 0))) else (some (V, 1, x2)))
noncomputable def B_X10_qSums_53 (G : mG) (r0 : Nat) (x1 : Int) (V : mV) : Option (mV × Nat × Unit) :=
  gd (rg (gI V r0 5)) <|
  if (gI V r0 5) = 0 then (gd (rg (gI V r0 100)) <|
  gd (rg (gI V r0 102)) <|
  if (gI V r0 100) ≤ (gI V r0 102) then (some (V, 1, ())) else (bd (F_X10_qDrops G r0 V) fun V26 v27 =>
  some (V26, 0, ()))) else (some (V, 1, ()))
noncomputable def F_X10_qSums (G : mG) (r0 : Nat) (V : mV) : Option (mV × Int) :=
  lt (gI V r0 102) fun y1 =>
  lt (sI V r0 102 (gI V r0 100)) fun V2 =>
  bd (lp (fun (s : Int) V => B_X10_qSums_15 G r0 y1 s V) FU 1 V2) fun V17 u18 =>
  bd (lp (fun (s : Unit) V => B_X10_qSums_53 G r0 y1  V) FU () V17) fun V29 u30 =>
  lt (sI V29 r0 102 y1) fun V33 =>
  some (V33, 0)
noncomputable def B_X10_qDropsNots_0 (G : mG) (r0 : Nat) (V : mV) : Option (mV × Nat × Unit) :=
  gd (rg (gI V r0 5)) <|
  if (gI V r0 5) = 0 then (bd (F_X10_qIsOn G r0 12 V) fun V3 v4 =>
  gd (rg v4) <|
  if v4 = 0 then (some (V3, 1, ())) else (lt (sI V3 r0 101 ((gI V3 r0 101) - 1)) fun V8 =>
  bd (F_X10_qDrops G r0 V8) fun V9 v10 =>
  some (V9, 0, ()))) else (some (V, 1, ()))
noncomputable def F_X10_qDropsNots (G : mG) (r0 : Nat) (V : mV) : Option (mV × Int) :=
  bd (lp (fun (s : Unit) V => B_X10_qDropsNots_0 G r0  V) FU () V) fun V12 u13 =>
  some (V12, 0)
noncomputable def F_X10_qFact_J63 (G : mG) (r0 : Nat) (x1 : Int) (V : mV) : Option (mV × Int) :=
  lt (sI V r0 2 ((gI V r0 2) + 1)) fun V16 =>
  bd (F_X10_qSums G r0 V16) fun V17 v18 =>
  gd (rg x1) <|
  if x1 = 60 then (bd (F_X10_qCode G r0 7 V17) fun V29 v30 =>
  some (V29, 0)) else (if x1 = 62 then (bd (F_X10_qCode G r0 8 V17) fun V26 v27 =>
  some (V26, 0)) else (bd (F_X10_qCode G r0 9 V17) fun V23 v24 =>
  some (V23, 0)))
noncomputable def F_X10_qFact (G : mG) (r0 : Nat) (V : mV) : Option (mV × Int) :=
  bd (F_X10_takes G r0 (r0 + 55) V) fun V1 v2 =>
  gd (rg v2) <|
  if v2 = 0 then (bd (F_X10_qSums G r0 V1) fun V6 v7 =>
  gd (rg (gI V6 r0 5)) <|
  if (gI V6 r0 5) = 0 then (bd (F_X10_look G r0 V6) fun V11 v12 =>
  gd (rg v12) <|
  if v12 = 60 then (F_X10_qFact_J63 G r0 v12 V11) else (if v12 = 62 then (F_X10_qFact_J63 G r0 v12 V11) else (if v12 = 61 then (F_X10_qFact_J63 G r0 v12 V11) else (bd (F_X10_fail G r0 1 (gI V11 r0 2) V11) fun V34 v35 =>
  some (V34, 0))))) else (some (V6, 0))) else (bd (F_X10_qCode G r0 13 V1) fun V37 v38 =>
  some (V37, 0))
noncomputable def B_X10_qHasSquare_2 (G : mG) (r0 : Nat) (x1 : Int) (V : mV) : Option (mV × Nat × Int) :=
  gd (rg x1) <|
  gd (rg (gI V r0 100)) <|
  if (gI V r0 100) ≤ x1 then (some (V, 2, x1)) else (gd (0 ≤ x1 ∧ x1 < (1700 : Int) ∧ x1 ≤ 2147483647) <|
  gd (rg (gA V (r0 + 69) x1.toNat)) <|
  if (gA V (r0 + 69) x1.toNat) = 25 then (some (V, 1, x1)) else (lt (x1 + 1) fun y7 =>
  some (V, 0, y7)))
noncomputable def F_X10_qHasSquare (G : mG) (r0 : Nat) (V : mV) : Option (mV × Int) :=
  bd (lp (fun (s : Int) V => B_X10_qHasSquare_2 G r0 s V) FU 0 V) fun V8 u9 =>
  if u9.1 = 1 then (some (V8, 1)) else (some (V8, 0))
noncomputable def B_X10_qGoesOnTest_33 (G : mG) (r0 : Nat) (V : mV) : Option (mV × Nat × Unit) :=
  bd (F_X10_qIsOn G r0 25 V) fun V14 v15 =>
  gd (rg v15) <|
  if v15 = 0 then (bd (F_X10_qDrops G r0 V14) fun V19 v20 =>
  some (V19, 0, ())) else (some (V14, 1, ()))
noncomputable def B_X10_qGoesOnTest_0 (G : mG) (r0 : Nat) (V : mV) : Option (mV × Nat × Unit) :=
  gd (rg (gI V r0 5)) <|
  if (gI V r0 5) = 0 then (bd (F_X10_look G r0 V) fun V3 v4 =>
  gd (rg v4) <|
  if v4 = 93 then (bd (F_X10_qHasSquare G r0 V3) fun V8 v9 =>
  gd (rg v9) <|
  if v9 = 0 then (some (V8, 1, ())) else (lt (sI V8 r0 2 ((gI V8 r0 2) + 1)) fun V13 =>
  bd (lp (fun (s : Unit) V => B_X10_qGoesOnTest_33 G r0  V) FU () V13) fun V22 u23 =>
  lt (sI V22 r0 100 ((gI V22 r0 100) - 1)) fun V26 =>
  lt (sI V26 r0 101 ((gI V26 r0 101) - 1)) fun V27 =>
  bd (F_X10_qDropsNots G r0 V27) fun V28 v29 =>
  some (V28, 0, ()))) else (some (V3, 1, ()))) else (some (V, 1, ()))
noncomputable def B_X10_qGoesOnTest_137 (G : mG) (r0 : Nat) (V : mV) : Option (mV × Nat × Unit) :=
  bd (F_X10_qIsOn G r0 10 V) fun V55 v56 =>
  gd (rg v56) <|
  if v56 = 0 then (bd (F_X10_qIsOn G r0 11 V55) fun V63 v64 =>
  gd (rg v64) <|
  if v64 = 0 then (some (V63, 1, ())) else (bd (F_X10_qDrops G r0 V63) fun V68 v69 =>
  some (V68, 0, ()))) else (bd (F_X10_qDrops G r0 V55) fun V60 v61 =>
  some (V60, 0, ()))
noncomputable def B_X10_qGoesOnTest_87 (G : mG) (r0 : Nat) (V : mV) : Option (mV × Nat × Unit) :=
  bd (F_X10_qIsOn G r0 10 V) fun V78 v79 =>
  gd (rg v79) <|
  if v79 = 0 then (some (V78, 1, ())) else (bd (F_X10_qDrops G r0 V78) fun V83 v84 =>
  some (V83, 0, ()))
noncomputable def F_X10_qGoesOnTest_J76 (G : mG) (r0 : Nat) (V : mV) : Option (mV × Int) :=
  bd (F_X10_takes G r0 (r0 + 53) V) fun V35 v36 =>
  gd (rg v36) <|
  if v36 = 0 then (bd (F_X10_takes G r0 (r0 + 54) V35) fun V40 v41 =>
  gd (rg v41) <|
  if v41 = 0 then (gd (rg (gI V40 r0 5)) <|
  if (gI V40 r0 5) = 0 then (bd (F_X10_qHasSquare G r0 V40) fun V47 v48 =>
  gd (rg v48) <|
  if v48 = 0 then (some (V47, 0)) else (bd (F_X10_fail G r0 1 (gI V47 r0 2) V47) fun V52 v53 =>
  some (V52, 0))) else (some (V40, 0))) else (bd (lp (fun (s : Unit) V => B_X10_qGoesOnTest_137 G r0  V) FU () V40) fun V71 u72 =>
  gd (0 ≤ (gI V71 r0 100) ∧ (gI V71 r0 100) < (1700 : Int) ∧ (gI V71 r0 100) ≤ 2147483647) <|
  lt (sA V71 (r0 + 69) (gI V71 r0 100).toNat 11) fun V76 =>
  lt (sI V76 r0 100 ((gI V76 r0 100) + 1)) fun V77 =>
  some (V77, 1))) else (bd (lp (fun (s : Unit) V => B_X10_qGoesOnTest_87 G r0  V) FU () V35) fun V86 u87 =>
  gd (0 ≤ (gI V86 r0 100) ∧ (gI V86 r0 100) < (1700 : Int) ∧ (gI V86 r0 100) ≤ 2147483647) <|
  lt (sA V86 (r0 + 69) (gI V86 r0 100).toNat 10) fun V91 =>
  lt (sI V91 r0 100 ((gI V91 r0 100) + 1)) fun V92 =>
  some (V92, 1))
noncomputable def F_X10_qGoesOnTest (G : mG) (r0 : Nat) (V : mV) : Option (mV × Int) :=
  bd (lp (fun (s : Unit) V => B_X10_qGoesOnTest_0 G r0  V) FU () V) fun V31 u32 =>
  F_X10_qGoesOnTest_J76 G r0 V31
noncomputable def B_X10_qTest_2 (G : mG) (r0 : Nat) (x1 : Int) (V : mV) : Option (mV × Nat × Int) :=
  gd (rg x1) <|
  if x1 = 0 then (some (V, 1, x1)) else (gd (rg (gI V r0 5)) <|
  if (gI V r0 5) = 0 then (bd (F_X10_look G r0 V) fun V5 v6 =>
  gd (rg v6) <|
  if v6 = 91 then (bd (F_X10_qOpens G r0 25 (gI V5 r0 2) V5) fun V34 v35 =>
  lt (sI V34 r0 2 ((gI V34 r0 2) + 1)) fun V37 =>
  some (V37, 0, x1)) else (bd (F_X10_isHere G r0 (r0 + 52) V5) fun V10 v11 =>
  gd (rg v11) <|
  if v11 = 0 then (bd (F_X10_qFact G r0 V10) fun V15 v16 =>
  bd (F_X10_qDropsNots G r0 V15) fun V18 v19 =>
  gd (rg (gI V18 r0 5)) <|
  if (gI V18 r0 5) = 0 then (bd (F_X10_qGoesOnTest G r0 V18) fun V23 v24 =>
  gd (rg v24) <|
  if v24 = 0 then (some (V23, 0, 0)) else (some (V23, 0, 1))) else (some (V18, 0, 0))) else (bd (F_X10_qOpens G r0 12 (gI V10 r0 2) V10) fun V28 v29 =>
  bd (F_X10_asks G r0 (r0 + 52) V28) fun V31 v32 =>
  some (V31, 0, x1)))) else (some (V, 1, x1)))
noncomputable def B_X10_qTest_110 (G : mG) (r0 : Nat) (V : mV) : Option (mV × Nat × Unit) :=
  gd (rg (gI V r0 5)) <|
  if (gI V r0 5) = 0 then (gd (rg (gI V r0 100)) <|
  if (gI V r0 100) ≤ 0 then (some (V, 1, ())) else (bd (F_X10_qDrops G r0 V) fun V46 v47 =>
  some (V46, 0, ()))) else (some (V, 1, ()))
noncomputable def F_X10_qTest (G : mG) (r0 : Nat) (V : mV) : Option (mV × Int) :=
  bd (lp (fun (s : Int) V => B_X10_qTest_2 G r0 s V) FU 1 V) fun V38 u39 =>
  bd (lp (fun (s : Unit) V => B_X10_qTest_110 G r0  V) FU () V38) fun V49 u50 =>
  some (V49, 0)
noncomputable def B_X10_codesTold_103 (G : mG) (r0 : Nat) (x1 : Int) (x2 : Int) (x3 : Int) (V : mV) : Option (mV × Nat × Int) :=
  gd (rg x3) <|
  gd (rg (gI V r0 98)) <|
  if (gI V r0 98) ≤ x3 then (some (V, 1, x3)) else (gd (0 ≤ x3 ∧ x3 < (1700 : Int) ∧ x3 ≤ 2147483647) <|
  gd (0 ≤ (gI V r0 46) ∧ (gI V r0 46) < (3200 : Int) ∧ (gI V r0 46) ≤ 2147483647) <|
  lt (sA V (r0 + 36) (gI V r0 46).toNat (gA V (r0 + 68) x3.toNat)) fun V26 =>
  lt (sI V26 r0 46 ((gI V26 r0 46) + 1)) fun V27 =>
  lt (x3 + 1) fun y28 =>
  some (V27, 0, y28))
noncomputable def F_X10_codesTold_J83 (G : mG) (r0 : Nat) (x1 : Int) (x2 : Int) (V : mV) : Option (mV × Int) :=
  gd (rg (gI V r0 5)) <|
  if (gI V r0 5) = 0 then (gd (0 ≤ x1 ∧ x1 < (8 : Int) ∧ x1 ≤ 2147483647) <|
  lt (sA V (r0 + 34) x1.toNat (gI V r0 46)) fun V20 =>
  bd (lp (fun (s : Int) V => B_X10_codesTold_103 G r0 x1 x2 s V) FU 0 V20) fun V29 u30 =>
  lt (sA V29 (r0 + 35) x1.toNat (gI V29 r0 46)) fun V33 =>
  some (V33, 0)) else (some (V, 0))
noncomputable def F_X10_codesTold_J44 (G : mG) (r0 : Nat) (x1 : Int) (x2 : Int) (s1 : Int) (V : mV) : Option (mV × Int) :=
  lt (sI V r0 48 s1) fun V7 =>
  lt (sI V7 r0 98 0) fun V8 =>
  lt (sI V8 r0 100 0) fun V9 =>
  lt (sI V9 r0 101 0) fun V10 =>
  lt (sI V10 r0 102 0) fun V11 =>
  gd (rg x1) <|
  if 2 ≤ x1 then (bd (F_X10_qTest G r0 V11) fun V14 v15 =>
  F_X10_codesTold_J83 G r0 x1 x2 V14) else (bd (F_X10_qSums G r0 V11) fun V34 v35 =>
  F_X10_codesTold_J83 G r0 x1 x2 V34)
noncomputable def F_X10_codesTold_J23 (G : mG) (r0 : Nat) (x1 : Int) (x2 : Int) (V : mV) : Option (mV × Int) :=
  gd (rg (gI V r0 5)) <|
  if (gI V r0 5) = 0 then (gd (rg x1) <|
  if 2 ≤ x1 then (F_X10_codesTold_J44 G r0 x1 x2 (x1 - 1) V) else (F_X10_codesTold_J44 G r0 x1 x2 0 V)) else (some (V, 0))
noncomputable def F_X10_codesTold (G : mG) (r0 : Nat) (x1 : Int) (x2 : Int) (V : mV) : Option (mV × Int) :=
  gd (rg (gI V r0 5)) <|
  if (gI V r0 5) = 0 then (gd (0 ≤ x1 ∧ x1 < (8 : Int) ∧ x1 ≤ 2147483647) <|
  gd (rg (gA V (r0 + 34) x1.toNat)) <|
  if (gA V (r0 + 34) x1.toNat) = (-1) then (F_X10_codesTold_J23 G r0 x1 x2 V) else (bd (F_X10_fail G r0 5 x2 V) fun V40 v41 =>
  F_X10_codesTold_J23 G r0 x1 x2 V40)) else (F_X10_codesTold_J23 G r0 x1 x2 V)
noncomputable def F_X10_statementTold_J188 (G : mG) (r0 : Nat) (V : mV) : Option (mV × Int) :=
  bd (F_X10_asksSign G r0 59 V) fun V50 v51 =>
  lt (sI V50 r0 47 ((gI V50 r0 47) + 1)) fun V53 =>
  some (V53, 0)
noncomputable def F_X10_statementTold (G : mG) (r0 : Nat) (V : mV) : Option (mV × Int) :=
  lt (gI V r0 2) fun y1 =>
  gd (rg (gI V r0 47)) <|
  if (gI V r0 47) = 70 then (bd (F_X10_fail G r0 5 y1 V) fun V78 v79 =>
  some (V78, 0)) else (bd (F_X10_takes G r0 (r0 + 3) V) fun V4 v5 =>
  gd (rg v5) <|
  if v5 = 0 then (bd (F_X10_takes G r0 (r0 + 5) V4) fun V9 v10 =>
  gd (rg v10) <|
  if v10 = 0 then (bd (F_X10_takes G r0 (r0 + 7) V9) fun V14 v15 =>
  gd (rg v15) <|
  if v15 = 0 then (bd (F_X10_takes G r0 (r0 + 9) V14) fun V19 v20 =>
  gd (rg v20) <|
  if v20 = 0 then (bd (F_X10_takes G r0 (r0 + 10) V19) fun V24 v25 =>
  gd (rg v25) <|
  if v25 = 0 then (bd (F_X10_takes G r0 (r0 + 11) V24) fun V29 v30 =>
  gd (rg v30) <|
  if v30 = 0 then (bd (F_X10_takes G r0 (r0 + 12) V29) fun V34 v35 =>
  gd (rg v35) <|
  if v35 = 0 then (bd (F_X10_takes G r0 (r0 + 13) V34) fun V39 v40 =>
  gd (rg v40) <|
  if v40 = 0 then (bd (F_X10_asks G r0 (r0 + 14) V39) fun V44 v45 =>
  bd (F_X10_codesTold G r0 3 y1 V44) fun V47 v48 =>
  F_X10_statementTold_J188 G r0 V47) else (bd (F_X10_codesTold G r0 2 y1 V39) fun V54 v55 =>
  F_X10_statementTold_J188 G r0 V54)) else (bd (F_X10_codesTold G r0 1 y1 V34) fun V57 v58 =>
  F_X10_statementTold_J188 G r0 V57)) else (bd (F_X10_codesTold G r0 0 y1 V29) fun V60 v61 =>
  F_X10_statementTold_J188 G r0 V60)) else (bd (F_X10_knownTold G r0 V24) fun V63 v64 =>
  F_X10_statementTold_J188 G r0 V63)) else (bd (F_X10_coverTold G r0 V19) fun V66 v67 =>
  F_X10_statementTold_J188 G r0 V66)) else (bd (F_X10_dutyTold G r0 y1 V14) fun V69 v70 =>
  F_X10_statementTold_J188 G r0 V69)) else (bd (F_X10_taskTold G r0 y1 V9) fun V72 v73 =>
  F_X10_statementTold_J188 G r0 V72)) else (bd (F_X10_personTold G r0 y1 V4) fun V75 v76 =>
  F_X10_statementTold_J188 G r0 V75))
noncomputable def B_X10_stands_2 (G : mG) (r0 : Nat) (x1 : Int) (V : mV) : Option (mV × Nat × Int) :=
  gd (rg x1) <|
  if 3 ≤ x1 then (some (V, 1, x1)) else (gd (0 ≤ x1 ∧ x1 < (6 : Int) ∧ x1 ≤ 2147483647) <|
  gd (0 ≤ (3 + x1) ∧ (3 + x1) < (6 : Int) ∧ (3 + x1) ≤ 2147483647) <|
  lt (sA V (r0 + 27) (3 + x1).toNat (gA V (r0 + 27) x1.toNat)) fun V5 =>
  lt (x1 + 1) fun y6 =>
  some (V5, 0, y6))
noncomputable def B_X10_stands_29 (G : mG) (r0 : Nat) (x1 : Int) (V : mV) : Option (mV × Nat × Int) :=
  gd (rg x1) <|
  if 20 ≤ x1 then (some (V, 1, x1)) else (gd (0 ≤ x1 ∧ x1 < (40 : Int) ∧ x1 ≤ 2147483647) <|
  gd (0 ≤ (20 + x1) ∧ (20 + x1) < (40 : Int) ∧ (20 + x1) ≤ 2147483647) <|
  lt (sL V (r0 + 28) (20 + x1).toNat (gL V (r0 + 28) x1.toNat)) fun V15 =>
  lt (sA V15 (r0 + 29) (20 + x1).toNat (gA V15 (r0 + 29) x1.toNat)) fun V16 =>
  lt (x1 + 1) fun y17 =>
  some (V16, 0, y17))
noncomputable def B_X10_stands_73 (G : mG) (r0 : Nat) (x1 : Int) (V : mV) : Option (mV × Nat × Int) :=
  gd (rg x1) <|
  if 72 ≤ x1 then (some (V, 1, x1)) else (gd (0 ≤ x1 ∧ x1 < (144 : Int) ∧ x1 ≤ 2147483647) <|
  gd (0 ≤ (72 + x1) ∧ (72 + x1) < (144 : Int) ∧ (72 + x1) ≤ 2147483647) <|
  lt (sA V (r0 + 30) (72 + x1).toNat (gA V (r0 + 30) x1.toNat)) fun V26 =>
  lt (x1 + 1) fun y27 =>
  some (V26, 0, y27))
noncomputable def B_X10_stands_102 (G : mG) (r0 : Nat) (x1 : Int) (V : mV) : Option (mV × Nat × Int) :=
  gd (rg x1) <|
  if 10 ≤ x1 then (some (V, 1, x1)) else (gd (0 ≤ x1 ∧ x1 < (20 : Int) ∧ x1 ≤ 2147483647) <|
  gd (0 ≤ (10 + x1) ∧ (10 + x1) < (20 : Int) ∧ (10 + x1) ≤ 2147483647) <|
  lt (sA V (r0 + 31) (10 + x1).toNat (gA V (r0 + 31) x1.toNat)) fun V36 =>
  lt (sA V36 (r0 + 32) (10 + x1).toNat (gA V36 (r0 + 32) x1.toNat)) fun V37 =>
  lt (x1 + 1) fun y38 =>
  some (V37, 0, y38))
noncomputable def B_X10_stands_146 (G : mG) (r0 : Nat) (x1 : Int) (V : mV) : Option (mV × Nat × Int) :=
  gd (rg x1) <|
  if 100 ≤ x1 then (some (V, 1, x1)) else (gd (0 ≤ x1 ∧ x1 < (200 : Int) ∧ x1 ≤ 2147483647) <|
  gd (0 ≤ (100 + x1) ∧ (100 + x1) < (200 : Int) ∧ (100 + x1) ≤ 2147483647) <|
  lt (sA V (r0 + 33) (100 + x1).toNat (gA V (r0 + 33) x1.toNat)) fun V47 =>
  lt (x1 + 1) fun y48 =>
  some (V47, 0, y48))
noncomputable def B_X10_stands_175 (G : mG) (r0 : Nat) (x1 : Int) (V : mV) : Option (mV × Nat × Int) :=
  gd (rg x1) <|
  if 4 ≤ x1 then (some (V, 1, x1)) else (gd (0 ≤ x1 ∧ x1 < (8 : Int) ∧ x1 ≤ 2147483647) <|
  gd (0 ≤ (4 + x1) ∧ (4 + x1) < (8 : Int) ∧ (4 + x1) ≤ 2147483647) <|
  lt (sA V (r0 + 34) (4 + x1).toNat (gA V (r0 + 34) x1.toNat)) fun V57 =>
  lt (sA V57 (r0 + 35) (4 + x1).toNat (gA V57 (r0 + 35) x1.toNat)) fun V58 =>
  lt (x1 + 1) fun y59 =>
  some (V58, 0, y59))
noncomputable def B_X10_stands_216 (G : mG) (r0 : Nat) (x1 : Int) (V : mV) : Option (mV × Nat × Int) :=
  gd (rg x1) <|
  gd (rg (gI V r0 46)) <|
  if (gI V r0 46) ≤ x1 then (some (V, 1, x1)) else (gd (0 ≤ x1 ∧ x1 < (3200 : Int) ∧ x1 ≤ 2147483647) <|
  gd (0 ≤ (1600 + x1) ∧ (1600 + x1) < (3200 : Int) ∧ (1600 + x1) ≤ 2147483647) <|
  lt (sA V (r0 + 36) (1600 + x1).toNat (gA V (r0 + 36) x1.toNat)) fun V69 =>
  lt (x1 + 1) fun y70 =>
  some (V69, 0, y70))
noncomputable def B_X10_stands_248 (G : mG) (r0 : Nat) (x1 : Int) (V : mV) : Option (mV × Nat × Int) :=
  gd (rg x1) <|
  if 282 ≤ x1 then (some (V, 1, x1)) else (gd (0 ≤ x1 ∧ x1 < (282 : Int) ∧ x1 ≤ 2147483647) <|
  lt (sA V (r0 + 37) x1.toNat 0) fun V78 =>
  lt (x1 + 1) fun y79 =>
  some (V78, 0, y79))
noncomputable def B_X10_stands_306 (G : mG) (r0 : Nat) (x1 : Int) (x2 : Int) (V : mV) : Option (mV × Nat × Int) :=
  gd (rg x2) <|
  gd (rg (gA V (r0 + 27) 0)) <|
  if (gA V (r0 + 27) 0) ≤ x2 then (some (V, 1, x2)) else (gd (0 ≤ ((10 * x1) + x2) ∧ ((10 * x1) + x2) < (200 : Int) ∧ ((10 * x1) + x2) ≤ 2147483647) <|
  gd (0 ≤ ((3 + (12 * x1)) + x2) ∧ ((3 + (12 * x1)) + x2) < (282 : Int) ∧ ((3 + (12 * x1)) + x2) ≤ 2147483647) <|
  lt (sA V (r0 + 37) ((3 + (12 * x1)) + x2).toNat (gA V (r0 + 33) ((10 * x1) + x2).toNat)) fun V96 =>
  lt (x2 + 1) fun y97 =>
  some (V96, 0, y97))
noncomputable def B_X10_stands_270 (G : mG) (r0 : Nat) (x1 : Int) (V : mV) : Option (mV × Nat × Int) :=
  gd (rg x1) <|
  gd (rg (gA V (r0 + 27) 0)) <|
  if (gA V (r0 + 27) 0) ≤ x1 then (some (V, 1, x1)) else (gd (0 ≤ (1 + (12 * x1)) ∧ (1 + (12 * x1)) < (282 : Int) ∧ (1 + (12 * x1)) ≤ 2147483647) <|
  lt (sA V (r0 + 37) (1 + (12 * x1)).toNat x1) fun V88 =>
  gd (0 ≤ (2 + (12 * x1)) ∧ (2 + (12 * x1)) < (282 : Int) ∧ (2 + (12 * x1)) ≤ 2147483647) <|
  lt (sA V88 (r0 + 37) (2 + (12 * x1)).toNat (-1)) fun V90 =>
  bd (lp (fun (s : Int) V => B_X10_stands_306 G r0 x1 s V) FU 0 V90) fun V98 u99 =>
  lt (x1 + 1) fun y102 =>
  some (V98, 0, y102))
noncomputable def F_X10_stands (G : mG) (r0 : Nat) (V : mV) : Option (mV × Int) :=
  bd (lp (fun (s : Int) V => B_X10_stands_2 G r0 s V) FU 0 V) fun V7 u8 =>
  bd (lp (fun (s : Int) V => B_X10_stands_29 G r0 s V) FU 0 V7) fun V18 u19 =>
  bd (lp (fun (s : Int) V => B_X10_stands_73 G r0 s V) FU 0 V18) fun V28 u29 =>
  bd (lp (fun (s : Int) V => B_X10_stands_102 G r0 s V) FU 0 V28) fun V39 u40 =>
  bd (lp (fun (s : Int) V => B_X10_stands_146 G r0 s V) FU 0 V39) fun V49 u50 =>
  bd (lp (fun (s : Int) V => B_X10_stands_175 G r0 s V) FU 0 V49) fun V60 u61 =>
  bd (lp (fun (s : Int) V => B_X10_stands_216 G r0 s V) FU 0 V60) fun V71 u72 =>
  bd (lp (fun (s : Int) V => B_X10_stands_248 G r0 s V) FU 0 V71) fun V80 u81 =>
  bd (lp (fun (s : Int) V => B_X10_stands_270 G r0 s V) FU 0 V80) fun V103 u104 =>
  lt (sI V103 r0 69 0) fun V107 =>
  lt (sI V107 r0 72 0) fun V108 =>
  some (V108, 0)
noncomputable def B_X10_city_45 (G : mG) (r0 : Nat) (x1 : Int) (V : mV) : Option (mV × Nat × Int) :=
  gd (rg x1) <|
  if 3 ≤ x1 then (some (V, 1, x1)) else (gd (0 ≤ x1 ∧ x1 < (6 : Int) ∧ x1 ≤ 2147483647) <|
  lt (sA V (r0 + 27) x1.toNat 0) fun V12 =>
  lt (x1 + 1) fun y13 =>
  some (V12, 0, y13))
noncomputable def B_X10_city_65 (G : mG) (r0 : Nat) (x1 : Int) (V : mV) : Option (mV × Nat × Int) :=
  gd (rg x1) <|
  if 4 ≤ x1 then (some (V, 1, x1)) else (gd (0 ≤ x1 ∧ x1 < (8 : Int) ∧ x1 ≤ 2147483647) <|
  lt (sA V (r0 + 34) x1.toNat (-1)) fun V21 =>
  lt (x1 + 1) fun y22 =>
  some (V21, 0, y22))
noncomputable def B_X10_city_83 (G : mG) (r0 : Nat) (V : mV) : Option (mV × Nat × Unit) :=
  gd (rg (gI V r0 5)) <|
  if (gI V r0 5) = 0 then (bd (F_X10_look G r0 V) fun V29 v30 =>
  gd (rg v30) <|
  if v30 = (-1) then (some (V29, 1, ())) else (bd (F_X10_statementTold G r0 V29) fun V34 v35 =>
  some (V34, 0, ()))) else (some (V, 1, ()))
noncomputable def F_X10_city_J105 (G : mG) (r0 : Nat) (V : mV) : Option (mV × Int) :=
  lt (sI V r0 7 (gI V r0 5)) fun V41 =>
  lt (sI V41 r0 8 (gI V41 r0 6)) fun V42 =>
  gd (rg (gI V42 r0 5)) <|
  if (gI V42 r0 5) = 0 then (bd (F_X10_stands G r0 V42) fun V45 v46 =>
  some (V45, gI V45 r0 47)) else (lt (sA V42 (r0 + 2) 1 ((gA V42 (r0 + 2) 1) + 1)) fun V48 =>
  some (V48, (-1)))
noncomputable def F_X10_city (G : mG) (r0 : Nat) (V : mV) : Option (mV × Int) :=
  lt (sI V r0 3 (gI V r0 1)) fun V1 =>
  lt (sI V1 r0 1 0) fun V2 =>
  lt (sI V2 r0 2 0) fun V3 =>
  lt (sI V3 r0 4 (-1)) fun V4 =>
  lt (sI V4 r0 5 0) fun V5 =>
  lt (sI V5 r0 6 (-1)) fun V6 =>
  lt (sI V6 r0 47 0) fun V7 =>
  lt (sI V7 r0 46 0) fun V8 =>
  bd (lp (fun (s : Int) V => B_X10_city_45 G r0 s V) FU 0 V8) fun V14 u15 =>
  bd (lp (fun (s : Int) V => B_X10_city_65 G r0 s V) FU 0 V14) fun V23 u24 =>
  bd (lp (fun (s : Unit) V => B_X10_city_83 G r0  V) FU () V23) fun V37 u38 =>
  F_X10_city_J105 G r0 V37
noncomputable def F_X10_fault (G : mG) (r0 : Nat) (x1 : Int) (V : mV) : Option (mV × Int) :=
  gd (rg x1) <|
  if x1 = 0 then (some (V, gI V r0 7)) else (if x1 = 1 then (some (V, gI V r0 8)) else (some (V, (-1))))
noncomputable def F_X10_peopleMany (G : mG) (r0 : Nat) (V : mV) : Option (mV × Int) :=
  some (V, gA V (r0 + 27) 3)
noncomputable def F_X10_dutyMany (G : mG) (r0 : Nat) (V : mV) : Option (mV × Int) :=
  some (V, gA V (r0 + 27) 5)
noncomputable def F_X10_isPerson (G : mG) (r0 : Nat) (x1 : Int) (V : mV) : Option (mV × Int) :=
  gd (rg x1) <|
  bd (F_X10_peopleMany G r0 V) fun V2 v3 =>
  gd (rg (v3 - 1)) <|
  bd (F_X10_isIn G x1 0 (v3 - 1) V2) fun V6 v7 =>
  gd (v7 = 0 ∨ v7 = 1) <|
  some (V6, v7)
noncomputable def F_X10_wardOf (G : mG) (r0 : Nat) (x1 : Int) (V : mV) : Option (mV × Int) :=
  gd (0 ≤ (20 + x1) ∧ (20 + x1) < (40 : Int) ∧ (20 + x1) ≤ 2147483647) <|
  some (V, gA V (r0 + 29) (20 + x1).toNat)
noncomputable def F_X10_hardOf (G : mG) (r0 : Nat) (x1 : Int) (V : mV) : Option (mV × Int) :=
  gd (0 ≤ (30 + x1) ∧ (30 + x1) < (40 : Int) ∧ (30 + x1) ≤ 2147483647) <|
  some (V, gA V (r0 + 29) (30 + x1).toNat)
noncomputable def F_X10_dutyOf (G : mG) (r0 : Nat) (x1 : Int) (x2 : Int) (V : mV) : Option (mV × Int) :=
  gd (0 ≤ ((72 + (3 * x1)) + x2) ∧ ((72 + (3 * x1)) + x2) < (144 : Int) ∧ ((72 + (3 * x1)) + x2) ≤ 2147483647) <|
  some (V, gA V (r0 + 30) ((72 + (3 * x1)) + x2).toNat)
noncomputable def F_X10_livesNow (G : mG) (r0 : Nat) (x1 : Int) (V : mV) : Option (mV × Int) :=
  gd (0 ≤ (1 + (12 * x1)) ∧ (1 + (12 * x1)) < (282 : Int) ∧ (1 + (12 * x1)) ≤ 2147483647) <|
  some (V, gA V (r0 + 37) (1 + (12 * x1)).toNat)
noncomputable def F_X10_liveNow (G : mG) (r0 : Nat) (x1 : Int) (x2 : Int) (V : mV) : Option (mV × Int) :=
  gd (0 ≤ (1 + (12 * x1)) ∧ (1 + (12 * x1)) < (282 : Int) ∧ (1 + (12 * x1)) ≤ 2147483647) <|
  lt (sA V (r0 + 37) (1 + (12 * x1)).toNat x2) fun V2 =>
  some (V2, 0)
noncomputable def F_X10_watches (G : mG) (r0 : Nat) (x1 : Int) (V : mV) : Option (mV × Int) :=
  gd (0 ≤ (2 + (12 * x1)) ∧ (2 + (12 * x1)) < (282 : Int) ∧ (2 + (12 * x1)) ≤ 2147483647) <|
  some (V, gA V (r0 + 37) (2 + (12 * x1)).toNat)
noncomputable def F_X10_pointsOf (G : mG) (r0 : Nat) (x1 : Int) (x2 : Int) (V : mV) : Option (mV × Int) :=
  gd (0 ≤ ((3 + (12 * x1)) + x2) ∧ ((3 + (12 * x1)) + x2) < (282 : Int) ∧ ((3 + (12 * x1)) + x2) ≤ 2147483647) <|
  some (V, gA V (r0 + 37) ((3 + (12 * x1)) + x2).toNat)
noncomputable def F_X10_knowsNow (G : mG) (r0 : Nat) (x1 : Int) (x2 : Int) (x3 : Int) (V : mV) : Option (mV × Int) :=
  gd (0 ≤ ((3 + (12 * x1)) + x2) ∧ ((3 + (12 * x1)) + x2) < (282 : Int) ∧ ((3 + (12 * x1)) + x2) ≤ 2147483647) <|
  lt (sA V (r0 + 37) ((3 + (12 * x1)) + x2).toNat x3) fun V2 =>
  some (V2, 0)
noncomputable def B_X10_whoLives_2 (G : mG) (r0 : Nat) (x1 : Int) (x2 : Int) (V : mV) : Option (mV × Nat × Int) :=
  bd (F_X10_peopleMany G r0 V) fun V1 v2 =>
  gd (rg x2) <|
  gd (rg v2) <|
  if v2 ≤ x2 then (some (V1, 2, x2)) else (bd (F_X10_livesNow G r0 x2 V1) fun V7 v8 =>
  gd (rg v8) <|
  gd (rg x1) <|
  if v8 = x1 then (some (V7, 1, x2)) else (lt (x2 + 1) fun y13 =>
  some (V7, 0, y13)))
noncomputable def F_X10_whoLives (G : mG) (r0 : Nat) (x1 : Int) (V : mV) : Option (mV × Int) :=
  bd (lp (fun (s : Int) V => B_X10_whoLives_2 G r0 x1 s V) FU 0 V) fun V14 u15 =>
  if u15.1 = 1 then (some (V14, u15.2)) else (some (V14, (-1)))
noncomputable def B_X10_putsAside_2 (G : mG) (r0 : Nat) (x1 : Int) (V : mV) : Option (mV × Nat × Int) :=
  gd (rg x1) <|
  if 282 ≤ x1 then (some (V, 1, x1)) else (gd (0 ≤ x1 ∧ x1 < (282 : Int) ∧ x1 ≤ 2147483647) <|
  lt (sA V (r0 + 38) x1.toNat (gA V (r0 + 37) x1.toNat)) fun V4 =>
  lt (x1 + 1) fun y5 =>
  some (V4, 0, y5))
noncomputable def F_X10_putsAside (G : mG) (r0 : Nat) (V : mV) : Option (mV × Int) :=
  bd (lp (fun (s : Int) V => B_X10_putsAside_2 G r0 s V) FU 0 V) fun V6 u7 =>
  some (V6, 0)
noncomputable def B_X10_takesBack_2 (G : mG) (r0 : Nat) (x1 : Int) (V : mV) : Option (mV × Nat × Int) :=
  gd (rg x1) <|
  if 282 ≤ x1 then (some (V, 1, x1)) else (gd (0 ≤ x1 ∧ x1 < (282 : Int) ∧ x1 ≤ 2147483647) <|
  lt (sA V (r0 + 37) x1.toNat (gA V (r0 + 38) x1.toNat)) fun V4 =>
  lt (x1 + 1) fun y5 =>
  some (V4, 0, y5))
noncomputable def F_X10_takesBack (G : mG) (r0 : Nat) (V : mV) : Option (mV × Int) :=
  bd (lp (fun (s : Int) V => B_X10_takesBack_2 G r0 s V) FU 0 V) fun V6 u7 =>
  some (V6, 0)
noncomputable def F_X10_qClip (G : mG) (x0 : Int) (V : mV) : Option (mV × Int) :=
  gd (rl x0) <|
  if x0 ≤ 1000000 then (if (-1000000) ≤ x0 then (some (V, x0)) else (some (V, (-1000000)))) else (some (V, 1000000))
noncomputable def F_X10_qFloor_J43 (G : mG) (x0 : Int) (x2 : Int) (x4 : Int) (s0 : Int) (s1 : Int) (V : mV) : Option (mV × Int) :=
  gd (rg s0) <|
  gd (rg s1) <|
  if s0 = s1 then (some (V, x4)) else (some (V, x4 - 1))
noncomputable def F_X10_qFloor_J32 (G : mG) (x0 : Int) (x2 : Int) (x4 : Int) (s0 : Int) (V : mV) : Option (mV × Int) :=
  gd (rl x2) <|
  if 0 ≤ x2 then (F_X10_qFloor_J43 G x0 x2 x4 s0 0 V) else (F_X10_qFloor_J43 G x0 x2 x4 s0 1 V)
noncomputable def F_X10_qFloor (G : mG) (x0 : Int) (x2 : Int) (V : mV) : Option (mV × Int) :=
  gd (rl x2) <|
  if x2 = 0 then (some (V, 0)) else (gd (rl x0) <|
  gd (x2 ≠ 0) <|
  lt (x0.tdiv x2) fun y5 =>
  gd (rl (x0.tmod x2)) <|
  if (x0.tmod x2) = 0 then (some (V, y5)) else (if 0 ≤ x0 then (F_X10_qFloor_J32 G x0 x2 y5 0 V) else (F_X10_qFloor_J32 G x0 x2 y5 1 V)))
noncomputable def F_X10_qPuts (G : mG) (r0 : Nat) (x1 : Int) (V : mV) : Option (mV × Int) :=
  gd (0 ≤ (gI V r0 104) ∧ (gI V r0 104) < (1700 : Int) ∧ (gI V r0 104) ≤ 2147483647) <|
  lt (sL V (r0 + 70) (gI V r0 104).toNat x1) fun V2 =>
  lt (sI V2 r0 104 ((gI V2 r0 104) + 1)) fun V3 =>
  some (V3, 0)
noncomputable def F_X10_qJoins (G : mG) (r0 : Nat) (x1 : Int) (V : mV) : Option (mV × Int) :=
  gd (0 ≤ ((gI V r0 104) - 1) ∧ ((gI V r0 104) - 1) < (1700 : Int) ∧ ((gI V r0 104) - 1) ≤ 2147483647) <|
  lt (gL V (r0 + 70) ((gI V r0 104) - 1).toNat) fun y2 =>
  gd (0 ≤ ((gI V r0 104) - 2) ∧ ((gI V r0 104) - 2) < (1700 : Int) ∧ ((gI V r0 104) - 2) ≤ 2147483647) <|
  lt (gL V (r0 + 70) ((gI V r0 104) - 2).toNat) fun y4 =>
  lt (sI V r0 104 ((gI V r0 104) - 2)) fun V5 =>
  gd (rg x1) <|
  if x1 = 1 then (bd (F_X10_qClip G (y4 + y2) V5) fun V8 v9 =>
  bd (F_X10_qPuts G r0 v9 V8) fun V11 v12 =>
  some (V11, 0)) else if x1 = 2 then (bd (F_X10_qClip G (y4 - y2) V5) fun V15 v16 =>
  bd (F_X10_qPuts G r0 v16 V15) fun V18 v19 =>
  some (V18, 0)) else if x1 = 3 then (bd (F_X10_qClip G (y4 * y2) V5) fun V22 v23 =>
  bd (F_X10_qPuts G r0 v23 V22) fun V25 v26 =>
  some (V25, 0)) else if x1 = 4 then (bd (F_X10_qFloor G y4 y2 V5) fun V29 v30 =>
  bd (F_X10_qPuts G r0 v30 V29) fun V32 v33 =>
  some (V32, 0)) else if x1 = 5 then (gd (rl y4) <|
  gd (rl y2) <|
  if y2 ≤ y4 then (bd (F_X10_qPuts G r0 y2 V5) fun V39 v40 =>
  some (V39, 0)) else (bd (F_X10_qPuts G r0 y4 V5) fun V42 v43 =>
  some (V42, 0))) else if x1 = 6 then (gd (rl y4) <|
  gd (rl y2) <|
  if y4 ≤ y2 then (bd (F_X10_qPuts G r0 y2 V5) fun V49 v50 =>
  some (V49, 0)) else (bd (F_X10_qPuts G r0 y4 V5) fun V52 v53 =>
  some (V52, 0))) else if x1 = 7 then (gd (rl y4) <|
  gd (rl y2) <|
  if y2 ≤ y4 then (bd (F_X10_qPuts G r0 0 V5) fun V59 v60 =>
  some (V59, 0)) else (bd (F_X10_qPuts G r0 1 V5) fun V62 v63 =>
  some (V62, 0))) else if x1 = 8 then (gd (rl y4) <|
  gd (rl y2) <|
  if y4 ≤ y2 then (bd (F_X10_qPuts G r0 0 V5) fun V69 v70 =>
  some (V69, 0)) else (bd (F_X10_qPuts G r0 1 V5) fun V72 v73 =>
  some (V72, 0))) else if x1 = 9 then (gd (rl y4) <|
  gd (rl y2) <|
  if y4 = y2 then (bd (F_X10_qPuts G r0 1 V5) fun V82 v83 =>
  some (V82, 0)) else (bd (F_X10_qPuts G r0 0 V5) fun V79 v80 =>
  some (V79, 0))) else if x1 = 10 then (bd (F_X10_qPuts G r0 (y4 * y2) V5) fun V86 v87 =>
  some (V86, 0)) else (gd (rl (y4 + y2)) <|
  if (y4 + y2) ≤ 0 then (bd (F_X10_qPuts G r0 0 V5) fun V91 v92 =>
  some (V91, 0)) else (bd (F_X10_qPuts G r0 1 V5) fun V94 v95 =>
  some (V94, 0)))
noncomputable def F_X10_qPartOf (G : mG) (r0 : Nat) (x1 : Int) (x2 : Int) (V : mV) : Option (mV × Int) :=
  gd (rg x1) <|
  if x1 = 0 then (some (V, gJ V r0 51)) else if x1 = 1 then (some (V, gJ V r0 52)) else if x1 = 2 then (some (V, gJ V r0 53)) else if x1 = 3 then (some (V, gJ V r0 54)) else if x1 = 4 then (some (V, gJ V r0 55)) else if x1 = 5 then (some (V, gJ V r0 56)) else if x1 = 6 then (some (V, gJ V r0 57)) else if x1 = 7 then (gd (rg (gA V (r0 + 37) 0)) <|
  some (V, gA V (r0 + 37) 0)) else if x1 = 8 then (bd (F_X10_livesNow G r0 (gI V r0 58) V) fun V12 v13 =>
  gd (rg v13) <|
  if v13 = (-1) then (some (V12, 99)) else (bd (F_X10_livesNow G r0 (gI V12 r0 58) V12) fun V17 v18 =>
  gd (rg v18) <|
  some (V17, v18))) else (gd (0 ≤ (gI V r0 58) ∧ (gI V r0 58) < (10 : Int) ∧ (gI V r0 58) ≤ 2147483647) <|
  gd (rg (gA V (r0 + 40) (gI V r0 58).toNat)) <|
  some (V, gA V (r0 + 40) (gI V r0 58).toNat))
noncomputable def B_X10_codesTell_14 (G : mG) (r0 : Nat) (x1 : Int) (x2 : Int) (V : mV) : Option (mV × Nat × Int) :=
  gd (0 ≤ (4 + x1) ∧ (4 + x1) < (8 : Int) ∧ (4 + x1) ≤ 2147483647) <|
  gd (rg x2) <|
  gd (rg (gA V (r0 + 35) (4 + x1).toNat)) <|
  if (gA V (r0 + 35) (4 + x1).toNat) ≤ x2 then (some (V, 1, x2)) else (gd (0 ≤ (1600 + x2) ∧ (1600 + x2) < (3200 : Int) ∧ (1600 + x2) ≤ 2147483647) <|
  lt (gA V (r0 + 36) (1600 + x2).toNat) fun y9 =>
  gd (rg y9) <|
  if y9 < 1000 then (if y9 < 40 then (if y9 = 13 then (bd (F_X10_qPuts G r0 1 V) fun V22 v23 =>
  lt (x2 + 1) fun y25 =>
  some (V22, 0, y25)) else (if y9 = 12 then (gd (0 ≤ ((gI V r0 104) - 1) ∧ ((gI V r0 104) - 1) < (1700 : Int) ∧ ((gI V r0 104) - 1) ≤ 2147483647) <|
  lt (sL V (r0 + 70) ((gI V r0 104) - 1).toNat (1 - (gL V (r0 + 70) ((gI V r0 104) - 1).toNat))) fun V20 =>
  lt (x2 + 1) fun y21 =>
  some (V20, 0, y21)) else (bd (F_X10_qJoins G r0 y9 V) fun V15 v16 =>
  lt (x2 + 1) fun y18 =>
  some (V15, 0, y18)))) else (bd (F_X10_qPartOf G r0 (y9 - 40) 0 V) fun V26 v27 =>
  bd (F_X10_qPuts G r0 v27 V26) fun V29 v30 =>
  lt (x2 + 1) fun y32 =>
  some (V29, 0, y32))) else (gd (rg (y9 - 1000)) <|
  bd (F_X10_qPuts G r0 (y9 - 1000) V) fun V34 v35 =>
  lt (x2 + 1) fun y37 =>
  some (V34, 0, y37)))
noncomputable def F_X10_codesTell (G : mG) (r0 : Nat) (x1 : Int) (V : mV) : Option (mV × Int) :=
  lt (sI V r0 104 0) fun V1 =>
  gd (0 ≤ (4 + x1) ∧ (4 + x1) < (8 : Int) ∧ (4 + x1) ≤ 2147483647) <|
  lt (gA V1 (r0 + 34) (4 + x1).toNat) fun y3 =>
  bd (lp (fun (s : Int) V => B_X10_codesTell_14 G r0 x1 s V) FU y3 V1) fun V38 u39 =>
  some (V38, gL V38 (r0 + 70) 0)
noncomputable def F_X10_made_J55 (G : mG) (r0 : Nat) (x1 : Int) (x2 : Int) (x3 : Int) (x4 : Int) (x5 : Int) (x6 : Int) (s1 : Int) (V : mV) : Option (mV × Int) :=
  lt (sJ V r0 54 s1) fun V19 =>
  bd (F_X10_codesTell G r0 x1 V19) fun V20 v21 =>
  gd (rl v21) <|
  if 0 ≤ v21 then (if v21 ≤ 99 then (some (V20, v21)) else (some (V20, 99))) else (some (V20, 0))
noncomputable def F_X10_made (G : mG) (r0 : Nat) (x1 : Int) (x2 : Int) (x3 : Int) (x4 : Int) (x5 : Int) (x6 : Int) (V : mV) : Option (mV × Int) :=
  gd (0 ≤ (4 + x1) ∧ (4 + x1) < (8 : Int) ∧ (4 + x1) ≤ 2147483647) <|
  gd (rg (gA V (r0 + 34) (4 + x1).toNat)) <|
  if (gA V (r0 + 34) (4 + x1).toNat) = (-1) then (some (V, x4)) else (gd (rg x5) <|
  lt (sJ V r0 51 x5) fun V5 =>
  gd (rg x6) <|
  lt (sJ V5 r0 52 x6) fun V7 =>
  gd (rg x4) <|
  lt (sJ V7 r0 53 x4) fun V9 =>
  bd (F_X10_wardOf G r0 x2 V9) fun V10 v11 =>
  bd (F_X10_wardOf G r0 x3 V10) fun V13 v14 =>
  gd (rg v11) <|
  gd (rg v14) <|
  if v11 = v14 then (F_X10_made_J55 G r0 x1 x2 x3 x4 x5 x6 1 V13) else (F_X10_made_J55 G r0 x1 x2 x3 x4 x5 x6 0 V13))
noncomputable def F_X10_canBy_J53 (G : mG) (r0 : Nat) (x1 : Int) (x2 : Int) (x3 : Int) (x4 : Int) (x5 : Int) (s1 : Int) (V : mV) : Option (mV × Int) :=
  lt (sJ V r0 56 s1) fun V16 =>
  bd (F_X10_codesTell G r0 2 V16) fun V17 v18 =>
  gd (rl v18) <|
  if v18 = 1 then (some (V17, 1)) else (some (V17, 0))
noncomputable def F_X10_canBy (G : mG) (r0 : Nat) (x1 : Int) (x2 : Int) (x3 : Int) (x4 : Int) (x5 : Int) (V : mV) : Option (mV × Int) :=
  gd (rg (gA V (r0 + 34) 6)) <|
  if (gA V (r0 + 34) 6) = (-1) then (some (V, 1)) else (gd (rg x4) <|
  lt (sJ V r0 51 x4) fun V4 =>
  gd (rg x5) <|
  lt (sJ V4 r0 52 x5) fun V6 =>
  gd (rg x1) <|
  lt (sJ V6 r0 53 x1) fun V8 =>
  bd (F_X10_hardOf G r0 x3 V8) fun V9 v10 =>
  gd (rg v10) <|
  lt (sJ V9 r0 55 v10) fun V13 =>
  gd (rg x2) <|
  if x2 = 0 then (F_X10_canBy_J53 G r0 x1 x2 x3 x4 x5 0 V13) else (F_X10_canBy_J53 G r0 x1 x2 x3 x4 x5 1 V13))
noncomputable def F_X10_canDo_J17 (G : mG) (r0 : Nat) (x1 : Int) (x2 : Int) (x3 : Int) (x4 : Int) (s1 : Int) (s2 : Int) (V : mV) : Option (mV × Int) :=
  gd (rg (gA V (r0 + 37) 0)) <|
  bd (F_X10_canBy G r0 s1 s2 x3 x4 ((gA V (r0 + 37) 0).tdiv 24) V) fun V8 v9 =>
  gd (v9 = 0 ∨ v9 = 1) <|
  some (V8, v9)
noncomputable def F_X10_canDo (G : mG) (r0 : Nat) (x1 : Int) (x2 : Int) (x3 : Int) (x4 : Int) (V : mV) : Option (mV × Int) :=
  bd (F_X10_pointsOf G r0 x1 x2 V) fun V1 v2 =>
  gd (rg x1) <|
  gd (rg x2) <|
  if x1 = x2 then (F_X10_canDo_J17 G r0 x1 x2 x3 x4 v2 1 V1) else (F_X10_canDo_J17 G r0 x1 x2 x3 x4 v2 0 V1)
noncomputable def F_X10_notices_J57 (G : mG) (r0 : Nat) (x1 : Int) (x2 : Int) (x3 : Int) (x4 : Int) (x5 : Int) (s1 : Int) (V : mV) : Option (mV × Int) :=
  lt (sJ V r0 54 s1) fun V21 =>
  bd (F_X10_pointsOf G r0 x1 x3 V21) fun V22 v23 =>
  gd (rg v23) <|
  lt (sJ V22 r0 57 v23) fun V26 =>
  bd (F_X10_codesTell G r0 3 V26) fun V27 v28 =>
  gd (rl v28) <|
  if v28 = 1 then (some (V27, 1)) else (some (V27, 0))
noncomputable def F_X10_notices (G : mG) (r0 : Nat) (x1 : Int) (x2 : Int) (x3 : Int) (x4 : Int) (x5 : Int) (V : mV) : Option (mV × Int) :=
  gd (rg (gA V (r0 + 34) 7)) <|
  if (gA V (r0 + 34) 7) = (-1) then (some (V, 0)) else (gd (rg x4) <|
  lt (sJ V r0 51 x4) fun V4 =>
  gd (rg x5) <|
  lt (sJ V4 r0 52 x5) fun V6 =>
  bd (F_X10_pointsOf G r0 x2 x3 V6) fun V7 v8 =>
  gd (rg v8) <|
  lt (sJ V7 r0 53 v8) fun V11 =>
  bd (F_X10_wardOf G r0 x1 V11) fun V12 v13 =>
  bd (F_X10_wardOf G r0 x3 V12) fun V15 v16 =>
  gd (rg v13) <|
  gd (rg v16) <|
  if v13 = v16 then (F_X10_notices_J57 G r0 x1 x2 x3 x4 x5 1 V15) else (F_X10_notices_J57 G r0 x1 x2 x3 x4 x5 0 V15))
noncomputable def B_X10_clearsDried_2 (G : mG) (r0 : Nat) (x1 : Int) (V : mV) : Option (mV × Nat × Int) :=
  gd (rg x1) <|
  if 3 ≤ x1 then (some (V, 1, x1)) else (gd (0 ≤ x1 ∧ x1 < (3 : Int) ∧ x1 ≤ 2147483647) <|
  lt (sA V (r0 + 39) x1.toNat 0) fun V4 =>
  lt (x1 + 1) fun y5 =>
  some (V4, 0, y5))
noncomputable def B_X10_clearsDried_22 (G : mG) (r0 : Nat) (x1 : Int) (V : mV) : Option (mV × Nat × Int) :=
  gd (rg x1) <|
  if 10 ≤ x1 then (some (V, 1, x1)) else (gd (0 ≤ x1 ∧ x1 < (10 : Int) ∧ x1 ≤ 2147483647) <|
  lt (sA V (r0 + 40) x1.toNat 0) fun V13 =>
  lt (x1 + 1) fun y14 =>
  some (V13, 0, y14))
noncomputable def F_X10_clearsDried (G : mG) (r0 : Nat) (V : mV) : Option (mV × Int) :=
  bd (lp (fun (s : Int) V => B_X10_clearsDried_2 G r0 s V) FU 0 V) fun V6 u7 =>
  bd (lp (fun (s : Int) V => B_X10_clearsDried_22 G r0 s V) FU 0 V6) fun V15 u16 =>
  lt (sI V15 r0 61 (-1)) fun V19 =>
  lt (sI V19 r0 62 (-1)) fun V20 =>
  some (V20, 0)
noncomputable def F_X10_happens_J108 (G : mG) (r0 : Nat) (x1 : Int) (x2 : Int) (x3 : Int) (V : mV) : Option (mV × Int) :=
  lt ((122 + (4 * (gA V (r0 + 37) 121))) - 4) fun y10 =>
  gd (0 ≤ y10 ∧ y10 < (282 : Int) ∧ y10 ≤ 2147483647) <|
  lt (sA V (r0 + 37) y10.toNat (gA V (r0 + 37) 0)) fun V12 =>
  gd (0 ≤ (y10 + 1) ∧ (y10 + 1) < (282 : Int) ∧ (y10 + 1) ≤ 2147483647) <|
  lt (sA V12 (r0 + 37) (y10 + 1).toNat x1) fun V14 =>
  gd (0 ≤ (y10 + 2) ∧ (y10 + 2) < (282 : Int) ∧ (y10 + 2) ≤ 2147483647) <|
  lt (sA V14 (r0 + 37) (y10 + 2).toNat x2) fun V16 =>
  gd (0 ≤ (y10 + 3) ∧ (y10 + 3) < (282 : Int) ∧ (y10 + 3) ≤ 2147483647) <|
  lt (sA V16 (r0 + 37) (y10 + 3).toNat x3) fun V18 =>
  some (V18, 0)
noncomputable def B_X10_happens_64 (G : mG) (r0 : Nat) (x1 : Int) (x2 : Int) (x3 : Int) (x4 : Int) (V : mV) : Option (mV × Nat × Int) :=
  gd (rg x4) <|
  if 278 ≤ x4 then (some (V, 1, x4)) else (gd (0 ≤ (x4 + 4) ∧ (x4 + 4) < (282 : Int) ∧ (x4 + 4) ≤ 2147483647) <|
  gd (0 ≤ x4 ∧ x4 < (282 : Int) ∧ x4 ≤ 2147483647) <|
  lt (sA V (r0 + 37) x4.toNat (gA V (r0 + 37) (x4 + 4).toNat)) fun V23 =>
  lt (x4 + 1) fun y24 =>
  some (V23, 0, y24))
noncomputable def F_X10_happens_J48 (G : mG) (r0 : Nat) (x1 : Int) (x2 : Int) (x3 : Int) (V : mV) : Option (mV × Int) :=
  gd (rg (gA V (r0 + 37) 121)) <|
  if (gA V (r0 + 37) 121) = 40 then (bd (lp (fun (s : Int) V => B_X10_happens_64 G r0 x1 x2 x3 s V) FU 122 V) fun V25 u26 =>
  F_X10_happens_J108 G r0 x1 x2 x3 V25) else (lt (sA V (r0 + 37) 121 ((gA V (r0 + 37) 121) + 1)) fun V9 =>
  F_X10_happens_J108 G r0 x1 x2 x3 V9)
noncomputable def F_X10_happens_J25 (G : mG) (r0 : Nat) (x1 : Int) (x2 : Int) (x3 : Int) (V : mV) : Option (mV × Int) :=
  gd (rg x1) <|
  if 2 ≤ x1 then (F_X10_happens_J48 G r0 x1 x2 x3 V) else (gd (rg (gI V r0 61)) <|
  if (gI V r0 61) = (-1) then (lt (sI V r0 61 x1) fun V31 =>
  lt (sI V31 r0 62 x2) fun V32 =>
  F_X10_happens_J48 G r0 x1 x2 x3 V32) else (F_X10_happens_J48 G r0 x1 x2 x3 V))
noncomputable def F_X10_happens (G : mG) (r0 : Nat) (x1 : Int) (x2 : Int) (x3 : Int) (V : mV) : Option (mV × Int) :=
  gd (0 ≤ x1 ∧ x1 < (3 : Int) ∧ x1 ≤ 2147483647) <|
  lt (sA V (r0 + 39) x1.toNat ((gA V (r0 + 39) x1.toNat) + 1)) fun V2 =>
  gd (rg x1) <|
  if x1 = 1 then (gd (0 ≤ x3 ∧ x3 < (10 : Int) ∧ x3 ≤ 2147483647) <|
  lt (sA V2 (r0 + 40) x3.toNat ((gA V2 (r0 + 40) x3.toNat) + 1)) fun V34 =>
  F_X10_happens_J25 G r0 x1 x2 x3 V34) else (F_X10_happens_J25 G r0 x1 x2 x3 V2)
noncomputable def B_X10_nightComes_2 (G : mG) (r0 : Nat) (x1 : Int) (V : mV) : Option (mV × Nat × Int) :=
  bd (F_X10_peopleMany G r0 V) fun V1 v2 =>
  gd (rg x1) <|
  gd (rg v2) <|
  if v2 ≤ x1 then (some (V1, 1, x1)) else (bd (F_X10_liveNow G r0 x1 x1 V1) fun V7 v8 =>
  lt (x1 + 1) fun y10 =>
  some (V7, 0, y10))
noncomputable def B_X10_nightComes_34 (G : mG) (r0 : Nat) (x1 : Int) (x2 : Int) (V : mV) : Option (mV × Nat × Int) :=
  bd (F_X10_peopleMany G r0 V) fun V21 v22 =>
  gd (rg x2) <|
  gd (rg v22) <|
  if v22 ≤ x2 then (some (V21, 1, x2)) else (gd (rg x1) <|
  if x2 = x1 then (lt (x2 + 1) fun y29 =>
  some (V21, 0, y29)) else (bd (F_X10_pointsOf G r0 x1 x2 V21) fun V30 v31 =>
  gd (rg (gA V30 (r0 + 37) 0)) <|
  bd (F_X10_made G r0 1 x1 x2 v31 0 ((gA V30 (r0 + 37) 0).tdiv 24) V30) fun V34 v35 =>
  bd (F_X10_knowsNow G r0 x1 x2 v35 V34) fun V37 v38 =>
  lt (x2 + 1) fun y40 =>
  some (V37, 0, y40)))
noncomputable def B_X10_nightComes_24 (G : mG) (r0 : Nat) (x1 : Int) (V : mV) : Option (mV × Nat × Int) :=
  bd (F_X10_peopleMany G r0 V) fun V15 v16 =>
  gd (rg x1) <|
  gd (rg v16) <|
  if v16 ≤ x1 then (some (V15, 1, x1)) else (bd (lp (fun (s : Int) V => B_X10_nightComes_34 G r0 x1 s V) FU 0 V15) fun V41 u42 =>
  lt (x1 + 1) fun y45 =>
  some (V41, 0, y45))
noncomputable def F_X10_nightComes (G : mG) (r0 : Nat) (V : mV) : Option (mV × Int) :=
  bd (lp (fun (s : Int) V => B_X10_nightComes_2 G r0 s V) FU 0 V) fun V11 u12 =>
  bd (lp (fun (s : Int) V => B_X10_nightComes_24 G r0 s V) FU 0 V11) fun V46 u47 =>
  some (V46, 0)
noncomputable def B_X10_dutyComes_45 (G : mG) (r0 : Nat) (x1 : Int) (x2 : Int) (x3 : Int) (x4 : Int) (x5 : Int) (V : mV) : Option (mV × Nat × Int) :=
  bd (F_X10_peopleMany G r0 V) fun V11 v12 =>
  gd (rg x5) <|
  gd (rg v12) <|
  if v12 ≤ x5 then (some (V11, 1, x5)) else (gd (rg x4) <|
  gd (rg x1) <|
  if x4 = x1 then (some (V11, 1, x5)) else (if x5 = x4 then (lt (x5 + 1) fun y21 =>
  some (V11, 0, y21)) else (if x5 = x1 then (lt (x5 + 1) fun y23 =>
  some (V11, 0, y23)) else (bd (F_X10_livesNow G r0 x5 V11) fun V24 v25 =>
  gd (rg v25) <|
  if v25 = (-1) then (lt (x5 + 1) fun y29 =>
  some (V24, 0, y29)) else (gd (rg (gA V24 (r0 + 37) 0)) <|
  bd (F_X10_notices G r0 x5 x4 x1 x3 ((gA V24 (r0 + 37) 0).tdiv 24) V24) fun V31 v32 =>
  gd (rg v32) <|
  if v32 = 0 then (lt (x5 + 1) fun y36 =>
  some (V31, 0, y36)) else (bd (F_X10_happens G r0 2 x1 x5 V31) fun V37 v38 =>
  lt (x5 + 1) fun y40 =>
  some (V37, 0, y40)))))))
noncomputable def F_X10_dutyComes (G : mG) (r0 : Nat) (x1 : Int) (x2 : Int) (x3 : Int) (V : mV) : Option (mV × Int) :=
  bd (F_X10_whoLives G r0 x1 V) fun V1 v2 =>
  gd (rg v2) <|
  if v2 = (-1) then (bd (F_X10_happens G r0 0 x1 (-1) V1) fun V48 v49 =>
  some (V48, 0)) else (bd (F_X10_canDo G r0 v2 x1 x2 x3 V1) fun V6 v7 =>
  gd (rg v7) <|
  if v7 = 0 then (bd (F_X10_happens G r0 1 x1 v2 V6) fun V45 v46 =>
  some (V45, 0)) else (bd (lp (fun (s : Int) V => B_X10_dutyComes_45 G r0 x1 x2 x3 v2 s V) FU 0 V6) fun V41 u42 =>
  some (V41, 0)))
noncomputable def B_X10_hasDuty_2 (G : mG) (r0 : Nat) (x1 : Int) (x2 : Int) (x3 : Int) (V : mV) : Option (mV × Nat × Int) :=
  bd (F_X10_dutyMany G r0 V) fun V1 v2 =>
  gd (rg x3) <|
  gd (rg v2) <|
  if v2 ≤ x3 then (some (V1, 2, x3)) else (bd (F_X10_dutyOf G r0 x3 0 V1) fun V7 v8 =>
  gd (rg v8) <|
  gd (rg x1) <|
  if v8 = x1 then (bd (F_X10_dutyOf G r0 x3 2 V7) fun V14 v15 =>
  gd (rg v15) <|
  gd (rg x2) <|
  if v15 = x2 then (some (V14, 1, x3)) else (lt (x3 + 1) fun y20 =>
  some (V14, 0, y20))) else (lt (x3 + 1) fun y13 =>
  some (V7, 0, y13)))
noncomputable def F_X10_hasDuty (G : mG) (r0 : Nat) (x1 : Int) (x2 : Int) (V : mV) : Option (mV × Int) :=
  bd (lp (fun (s : Int) V => B_X10_hasDuty_2 G r0 x1 x2 s V) FU 0 V) fun V21 u22 =>
  if u22.1 = 1 then (some (V21, 1)) else (some (V21, 0))
noncomputable def B_X10_hourComes_40 (G : mG) (r0 : Nat) (x1 : Int) (x2 : Int) (x3 : Int) (V : mV) : Option (mV × Nat × Int) :=
  bd (F_X10_dutyMany G r0 V) fun V12 v13 =>
  gd (rg x3) <|
  gd (rg v13) <|
  if v13 ≤ x3 then (some (V12, 1, x3)) else (bd (F_X10_dutyOf G r0 x3 0 V12) fun V18 v19 =>
  gd (rg v19) <|
  gd (rg x2) <|
  if v19 = x2 then (bd (F_X10_dutyOf G r0 x3 2 V18) fun V25 v26 =>
  gd (rg v26) <|
  gd (rg x1) <|
  if v26 = x1 then (bd (F_X10_dutyOf G r0 x3 1 V25) fun V32 v33 =>
  bd (F_X10_dutyComes G r0 x2 v33 x1 V32) fun V35 v36 =>
  lt (x3 + 1) fun y38 =>
  some (V35, 0, y38)) else (lt (x3 + 1) fun y31 =>
  some (V25, 0, y31))) else (lt (x3 + 1) fun y24 =>
  some (V18, 0, y24)))
noncomputable def B_X10_hourComes_30 (G : mG) (r0 : Nat) (x1 : Int) (x2 : Int) (V : mV) : Option (mV × Nat × Int) :=
  bd (F_X10_peopleMany G r0 V) fun V6 v7 =>
  gd (rg x2) <|
  gd (rg v7) <|
  if v7 ≤ x2 then (some (V6, 1, x2)) else (bd (lp (fun (s : Int) V => B_X10_hourComes_40 G r0 x1 x2 s V) FU 0 V6) fun V39 u40 =>
  lt (x2 + 1) fun y43 =>
  some (V39, 0, y43))
noncomputable def B_X10_hourComes_94 (G : mG) (r0 : Nat) (x1 : Int) (x2 : Int) (V : mV) : Option (mV × Nat × Int) :=
  bd (F_X10_peopleMany G r0 V) fun V48 v49 =>
  gd (rg x2) <|
  gd (rg v49) <|
  if v49 ≤ x2 then (some (V48, 1, x2)) else (bd (F_X10_watches G r0 x2 V48) fun V54 v55 =>
  gd (rg v55) <|
  if v55 = (-1) then (lt (x2 + 1) fun y59 =>
  some (V54, 0, y59)) else (bd (F_X10_livesNow G r0 x2 V54) fun V60 v61 =>
  gd (rg v61) <|
  if v61 = (-1) then (lt (x2 + 1) fun y65 =>
  some (V60, 0, y65)) else (bd (F_X10_livesNow G r0 x2 V60) fun V66 v67 =>
  bd (F_X10_hasDuty G r0 v67 x1 V66) fun V69 v70 =>
  gd (rg v70) <|
  if v70 = 0 then (bd (F_X10_watches G r0 x2 V69) fun V75 v76 =>
  bd (F_X10_watches G r0 x2 V75) fun V78 v79 =>
  bd (F_X10_watches G r0 x2 V78) fun V81 v82 =>
  bd (F_X10_pointsOf G r0 x2 v82 V81) fun V84 v85 =>
  gd (rg (gA V84 (r0 + 37) 0)) <|
  bd (F_X10_made G r0 0 x2 v79 v85 x1 ((gA V84 (r0 + 37) 0).tdiv 24) V84) fun V88 v89 =>
  bd (F_X10_knowsNow G r0 x2 v76 v89 V88) fun V91 v92 =>
  lt (x2 + 1) fun y94 =>
  some (V91, 0, y94)) else (lt (x2 + 1) fun y74 =>
  some (V69, 0, y74)))))
noncomputable def F_X10_hourComes_J28 (G : mG) (r0 : Nat) (x1 : Int) (V : mV) : Option (mV × Int) :=
  bd (lp (fun (s : Int) V => B_X10_hourComes_30 G r0 x1 s V) FU 0 V) fun V44 u45 =>
  bd (lp (fun (s : Int) V => B_X10_hourComes_94 G r0 x1 s V) FU 0 V44) fun V95 u96 =>
  some (V95, 0)
noncomputable def F_X10_hourComes (G : mG) (r0 : Nat) (V : mV) : Option (mV × Int) :=
  lt (sA V (r0 + 37) 0 ((gA V (r0 + 37) 0) + 1)) fun V1 =>
  gd (rg (gA V1 (r0 + 37) 0)) <|
  lt ((gA V1 (r0 + 37) 0).tmod 24) fun y3 =>
  gd (rg y3) <|
  if y3 = 0 then (bd (F_X10_nightComes G r0 V1) fun V99 v100 =>
  F_X10_hourComes_J28 G r0 y3 V99) else (F_X10_hourComes_J28 G r0 y3 V1)
noncomputable def B_X10_hoursCome_2 (G : mG) (r0 : Nat) (x1 : Int) (x2 : Int) (V : mV) : Option (mV × Nat × Int) :=
  gd (rg x2) <|
  gd (rg x1) <|
  if x1 ≤ x2 then (some (V, 1, x2)) else (bd (F_X10_hourComes G r0 V) fun V4 v5 =>
  lt (x2 + 1) fun y7 =>
  some (V4, 0, y7))
noncomputable def F_X10_hoursCome (G : mG) (r0 : Nat) (x1 : Int) (V : mV) : Option (mV × Int) :=
  bd (lp (fun (s : Int) V => B_X10_hoursCome_2 G r0 x1 s V) FU 0 V) fun V8 u9 =>
  some (V8, 0)
noncomputable def B_X10_isCalled_27 (G : mG) (r0 : Nat) (x1 : Int) (x2 : Int) (x3 : Int) (V : mV) : Option (mV × Nat × Int × Int) :=
  gd (rg x3) <|
  if x3 = (-1) then (some (V, 1, (x2, x3))) else (bd (F_X10_livesNow G r0 x3 V) fun V12 v13 =>
  gd (rg v13) <|
  if v13 = x3 then (bd (F_X10_liveNow G r0 x3 x2 V12) fun V17 v18 =>
  gd (0 ≤ (gI V17 r0 64) ∧ (gI V17 r0 64) < (10 : Int) ∧ (gI V17 r0 64) ≤ 2147483647) <|
  lt (sA V17 (r0 + 41) (gI V17 r0 64).toNat x3) fun V21 =>
  lt (sI V21 r0 64 ((gI V21 r0 64) + 1)) fun V22 =>
  gd (0 ≤ (10 + x3) ∧ (10 + x3) < (20 : Int) ∧ (10 + x3) ≤ 2147483647) <|
  lt (gA V22 (r0 + 32) (10 + x3).toNat) fun y24 =>
  some (V22, 0, (x3, y24))) else (some (V12, 1, (x2, x3))))
noncomputable def F_X10_isCalled (G : mG) (r0 : Nat) (x1 : Int) (V : mV) : Option (mV × Int) :=
  bd (F_X10_livesNow G r0 x1 V) fun V1 v2 =>
  bd (F_X10_liveNow G r0 x1 (-1) V1) fun V4 v5 =>
  lt (sI V4 r0 64 0) fun V7 =>
  gd (0 ≤ (10 + v2) ∧ (10 + v2) < (20 : Int) ∧ (10 + v2) ≤ 2147483647) <|
  lt (gA V7 (r0 + 32) (10 + v2).toNat) fun y9 =>
  bd (lp (fun (s : Int × Int) V => B_X10_isCalled_27 G r0 x1 s.1 s.2 V) FU (v2, y9) V7) fun V25 u26 =>
  lt (sI V25 r0 65 u26.2.1) fun V29 =>
  some (V29, 0)
noncomputable def F_X10_countOf_J46_4 (G : mG) (r0 : Nat) (x1 : Int) (x2 : Int) (x3 : Int) (V : mV) : Option (mV × Nat × Int × Int) :=
  gd (rg x1) <|
  if x1 = 6 then (bd (F_X10_livesNow G r0 x3 V) fun V14 v15 =>
  gd (rg v15) <|
  if v15 = (-1) then (lt (x3 + 1) fun y19 =>
  some (V14, 0, (x2, y19))) else (bd (F_X10_livesNow G r0 x3 V14) fun V20 v21 =>
  gd (rg v21) <|
  gd (rg x3) <|
  if v21 = x3 then (lt (x3 + 1) fun y26 =>
  some (V20, 0, (x2, y26))) else (lt (x2 + 1) fun y27 =>
  lt (x3 + 1) fun y28 =>
  some (V20, 0, (y27, y28))))) else (lt (x3 + 1) fun y13 =>
  some (V, 0, (x2, y13)))
noncomputable def F_X10_countOf_J29_4 (G : mG) (r0 : Nat) (x1 : Int) (x2 : Int) (x3 : Int) (V : mV) : Option (mV × Nat × Int × Int) :=
  gd (rg x1) <|
  if x1 = 5 then (bd (F_X10_whoLives G r0 x3 V) fun V29 v30 =>
  gd (rg v30) <|
  if v30 = (-1) then (lt (x2 + 1) fun y34 =>
  F_X10_countOf_J46_4 G r0 x1 y34 x3 V29) else (F_X10_countOf_J46_4 G r0 x1 x2 x3 V29)) else (F_X10_countOf_J46_4 G r0 x1 x2 x3 V)
noncomputable def B_X10_countOf_4 (G : mG) (r0 : Nat) (x1 : Int) (x2 : Int) (x3 : Int) (V : mV) : Option (mV × Nat × Int × Int) :=
  bd (F_X10_peopleMany G r0 V) fun V1 v2 =>
  gd (rg x3) <|
  gd (rg v2) <|
  if v2 ≤ x3 then (some (V1, 1, (x2, x3))) else (gd (rg x1) <|
  if x1 = 4 then (bd (F_X10_livesNow G r0 x3 V1) fun V35 v36 =>
  gd (rg v36) <|
  if v36 = (-1) then (lt (x2 + 1) fun y40 =>
  F_X10_countOf_J29_4 G r0 x1 y40 x3 V35) else (F_X10_countOf_J29_4 G r0 x1 x2 x3 V35)) else (F_X10_countOf_J29_4 G r0 x1 x2 x3 V1))
noncomputable def F_X10_countOf (G : mG) (r0 : Nat) (x1 : Int) (V : mV) : Option (mV × Int) :=
  bd (lp (fun (s : Int × Int) V => B_X10_countOf_4 G r0 x1 s.1 s.2 V) FU (0, 0) V) fun V41 u42 =>
  some (V41, u42.2.1)
noncomputable def F_X10_has (G : mG) (r0 : Nat) (x1 : Int) (V : mV) : Option (mV × Int) :=
  gd (rg x1) <|
  if x1 = 0 then (bd (F_X10_peopleMany G r0 V) fun V3 v4 =>
  some (V3, v4)) else if x1 = 1 then (some (V, gA V (r0 + 27) 4)) else if x1 = 2 then (bd (F_X10_dutyMany G r0 V) fun V8 v9 =>
  some (V8, v9)) else if x1 = 3 then (some (V, gA V (r0 + 37) 0)) else if x1 = 4 then (bd (F_X10_countOf G r0 x1 V) fun V13 v14 =>
  some (V13, v14)) else if x1 = 5 then (bd (F_X10_countOf G r0 x1 V) fun V17 v18 =>
  some (V17, v18)) else if x1 = 6 then (bd (F_X10_countOf G r0 x1 V) fun V21 v22 =>
  some (V21, v22)) else if x1 = 7 then (some (V, gA V (r0 + 37) 121)) else if x1 = 8 then (some (V, gI V r0 69)) else (some (V, (-1)))
noncomputable def B_X10_letter_67 (G : mG) (r0 : Nat) (x1 : Int) (x2 : Int) (x3 : Int) (x4 : Int) (x6 : Int) (x7 : Int) (V : mV) : Option (mV × Nat × Int × Int) :=
  gd (rl x7) <|
  if x7 ≤ 0 then (some (V, 1, (x6, x7))) else (lt (x6 + 1) fun y25 =>
  lt (x7.tdiv 27) fun y26 =>
  some (V, 0, (y25, y26)))
noncomputable def B_X10_letter_102 (G : mG) (r0 : Nat) (x1 : Int) (x2 : Int) (x3 : Int) (x4 : Int) (x7 : Int) (V : mV) : Option (mV × Nat × Int × Int) :=
  gd (rg x7) <|
  gd (rg x3) <|
  if x7 ≤ x3 then (some (V, 1, (x4, x7))) else (gd (rl x4) <|
  lt (x4.tdiv 27) fun y38 =>
  lt (x7 + (-1)) fun y39 =>
  some (V, 0, (y38, y39)))
noncomputable def F_X10_letter (G : mG) (r0 : Nat) (x1 : Int) (x2 : Int) (x3 : Int) (V : mV) : Option (mV × Int) :=
  gd (rg x1) <|
  bd (F_X10_isIn G x1 0 1 V) fun V2 v3 =>
  gd (rg v3) <|
  if v3 = 0 then (some (V2, (-1))) else (gd (rg x2) <|
  gd (0 ≤ (3 + x1) ∧ (3 + x1) < (6 : Int) ∧ (3 + x1) ≤ 2147483647) <|
  gd (rg ((gA V2 (r0 + 27) (3 + x1).toNat) - 1)) <|
  bd (F_X10_isIn G x2 0 ((gA V2 (r0 + 27) (3 + x1).toNat) - 1) V2) fun V10 v11 =>
  gd (rg v11) <|
  if v11 = 0 then (some (V10, (-1))) else (gd (rg x3) <|
  bd (F_X10_isIn G x3 0 5 V10) fun V16 v17 =>
  gd (rg v17) <|
  if v17 = 0 then (some (V16, (-1))) else (gd (0 ≤ ((20 + (10 * x1)) + x2) ∧ ((20 + (10 * x1)) + x2) < (40 : Int) ∧ ((20 + (10 * x1)) + x2) ≤ 2147483647) <|
  lt (gL V16 (r0 + 28) ((20 + (10 * x1)) + x2).toNat) fun y22 =>
  bd (lp (fun (s : Int × Int) V => B_X10_letter_67 G r0 x1 x2 x3 y22 s.1 s.2 V) FU (0, y22) V16) fun V27 u28 =>
  gd (rg u28.2.1) <|
  if x3 < u28.2.1 then (lt (u28.2.1 - 1) fun y33 =>
  bd (lp (fun (s : Int × Int) V => B_X10_letter_102 G r0 x1 x2 x3 s.1 s.2 V) FU (y22, y33) V27) fun V40 u41 =>
  gd (rl u41.2.1) <|
  some (V40, u41.2.1.tmod 27)) else (some (V27, 0)))))
noncomputable def B_X10_dutiesOf_4 (G : mG) (r0 : Nat) (x1 : Int) (x2 : Int) (x3 : Int) (V : mV) : Option (mV × Nat × Int × Int) :=
  bd (F_X10_dutyMany G r0 V) fun V1 v2 =>
  gd (rg x3) <|
  gd (rg v2) <|
  if v2 ≤ x3 then (some (V1, 1, (x2, x3))) else (bd (F_X10_dutyOf G r0 x3 0 V1) fun V7 v8 =>
  gd (rg v8) <|
  gd (rg x1) <|
  if v8 = x1 then (lt (x2 + 1) fun y14 =>
  lt (x3 + 1) fun y15 =>
  some (V7, 0, (y14, y15))) else (lt (x3 + 1) fun y13 =>
  some (V7, 0, (x2, y13))))
noncomputable def F_X10_dutiesOf (G : mG) (r0 : Nat) (x1 : Int) (V : mV) : Option (mV × Int) :=
  bd (lp (fun (s : Int × Int) V => B_X10_dutiesOf_4 G r0 x1 s.1 s.2 V) FU (0, 0) V) fun V16 u17 =>
  some (V16, u17.2.1)
noncomputable def F_X10_person (G : mG) (r0 : Nat) (x1 : Int) (x2 : Int) (V : mV) : Option (mV × Int) :=
  bd (F_X10_isPerson G r0 x1 V) fun V1 v2 =>
  gd (rg v2) <|
  if v2 = 0 then (some (V1, (-1))) else (gd (rg x2) <|
  if x2 = 0 then (bd (F_X10_wardOf G r0 x1 V1) fun V8 v9 =>
  some (V8, v9)) else if x2 = 1 then (bd (F_X10_livesNow G r0 x1 V1) fun V12 v13 =>
  some (V12, v13)) else if x2 = 2 then (bd (F_X10_watches G r0 x1 V1) fun V16 v17 =>
  some (V16, v17)) else if x2 = 3 then (gd (0 ≤ (10 + x1) ∧ (10 + x1) < (20 : Int) ∧ (10 + x1) ≤ 2147483647) <|
  some (V1, gA V1 (r0 + 31) (10 + x1).toNat)) else if x2 = 4 then (gd (0 ≤ (10 + x1) ∧ (10 + x1) < (20 : Int) ∧ (10 + x1) ≤ 2147483647) <|
  some (V1, gA V1 (r0 + 32) (10 + x1).toNat)) else if x2 = 5 then (bd (F_X10_dutiesOf G r0 x1 V1) fun V24 v25 =>
  some (V24, v25)) else if x2 = 6 then (bd (F_X10_whoLives G r0 x1 V1) fun V28 v29 =>
  some (V28, v29)) else (some (V1, (-1))))
noncomputable def F_X10_points (G : mG) (r0 : Nat) (x1 : Int) (x2 : Int) (V : mV) : Option (mV × Int) :=
  bd (F_X10_isPerson G r0 x1 V) fun V1 v2 =>
  gd (rg v2) <|
  if v2 = 0 then (some (V1, (-1))) else (bd (F_X10_isPerson G r0 x2 V1) fun V6 v7 =>
  gd (rg v7) <|
  if v7 = 0 then (some (V6, (-1))) else (bd (F_X10_pointsOf G r0 x1 x2 V6) fun V11 v12 =>
  some (V11, v12)))
noncomputable def F_X10_isTask (G : mG) (r0 : Nat) (x1 : Int) (V : mV) : Option (mV × Int) :=
  gd (rg x1) <|
  gd (rg ((gA V (r0 + 27) 4) - 1)) <|
  bd (F_X10_isIn G x1 0 ((gA V (r0 + 27) 4) - 1) V) fun V3 v4 =>
  gd (v4 = 0 ∨ v4 = 1) <|
  some (V3, v4)
noncomputable def F_X10_could (G : mG) (r0 : Nat) (x1 : Int) (x2 : Int) (x3 : Int) (x4 : Int) (V : mV) : Option (mV × Int) :=
  bd (F_X10_isPerson G r0 x1 V) fun V1 v2 =>
  gd (rg v2) <|
  if v2 = 0 then (some (V1, (-1))) else (bd (F_X10_isPerson G r0 x2 V1) fun V6 v7 =>
  gd (rg v7) <|
  if v7 = 0 then (some (V6, (-1))) else (bd (F_X10_isTask G r0 x3 V6) fun V11 v12 =>
  gd (rg v12) <|
  if v12 = 0 then (some (V11, (-1))) else (gd (rg x4) <|
  bd (F_X10_isIn G x4 0 23 V11) fun V17 v18 =>
  gd (rg v18) <|
  if v18 = 0 then (some (V17, (-1))) else (bd (F_X10_canDo G r0 x1 x2 x3 x4 V17) fun V22 v23 =>
  gd (rg v23) <|
  if v23 = 0 then (some (V22, 0)) else (some (V22, 1))))))
noncomputable def F_X10_kept (G : mG) (r0 : Nat) (x1 : Int) (x2 : Int) (V : mV) : Option (mV × Int) :=
  gd (rg x1) <|
  gd (rg ((gA V (r0 + 37) 121) - 1)) <|
  bd (F_X10_isIn G x1 0 ((gA V (r0 + 37) 121) - 1) V) fun V3 v4 =>
  gd (rg v4) <|
  if v4 = 0 then (some (V3, (-1))) else (gd (rg x2) <|
  bd (F_X10_isIn G x2 0 3 V3) fun V9 v10 =>
  gd (rg v10) <|
  if v10 = 0 then (some (V9, (-1))) else (gd (0 ≤ ((122 + (4 * x1)) + x2) ∧ ((122 + (4 * x1)) + x2) < (282 : Int) ∧ ((122 + (4 * x1)) + x2) ≤ 2147483647) <|
  some (V9, gA V9 (r0 + 37) ((122 + (4 * x1)) + x2).toNat)))
noncomputable def F_X10_isHere0 (G : mG) (r0 : Nat) (x1 : Int) (V : mV) : Option (mV × Int) :=
  bd (F_X10_isPerson G r0 x1 V) fun V1 v2 =>
  gd (rg v2) <|
  if v2 = 0 then (some (V1, 0)) else (bd (F_X10_livesNow G r0 x1 V1) fun V6 v7 =>
  gd (rg v7) <|
  if v7 = (-1) then (some (V6, 0)) else (some (V6, 1)))
noncomputable def F_X10_wave (G : mG) (r0 : Nat) (x1 : Int) (x2 : Int) (V : mV) : Option (mV × Int) :=
  bd (F_X10_isHere0 G r0 x1 V) fun V1 v2 =>
  gd (rg v2) <|
  if v2 = 0 then (some (V1, (-1))) else (bd (F_X10_putsAside G r0 V1) fun V6 v7 =>
  bd (F_X10_isCalled G r0 x1 V6) fun V9 v10 =>
  bd (F_X10_takesBack G r0 V9) fun V12 v13 =>
  gd (rg x2) <|
  if x2 = (-1) then (some (V12, gI V12 r0 64)) else (if x2 = 20 then (some (V12, gI V12 r0 65)) else (gd (rg ((gI V12 r0 64) - 1)) <|
  bd (F_X10_isIn G x2 0 ((gI V12 r0 64) - 1) V12) fun V19 v20 =>
  gd (rg v20) <|
  if v20 = 0 then (some (V19, (-1))) else (gd (0 ≤ x2 ∧ x2 < (10 : Int) ∧ x2 ≤ 2147483647) <|
  some (V19, gA V19 (r0 + 41) x2.toNat)))))
noncomputable def F_X10_least (G : mG) (x0 : Int) (x1 : Int) (V : mV) : Option (mV × Int) :=
  gd (rg x0) <|
  gd (rg x1) <|
  if x1 ≤ x0 then (some (V, x1)) else (some (V, x0))
noncomputable def F_X10_would (G : mG) (r0 : Nat) (x1 : Int) (x2 : Int) (V : mV) : Option (mV × Int) :=
  bd (F_X10_isHere0 G r0 x1 V) fun V1 v2 =>
  gd (rg v2) <|
  if v2 = 0 then (some (V1, (-1))) else (gd (rg x2) <|
  bd (F_X10_isIn G x2 0 1 V1) fun V7 v8 =>
  gd (rg v8) <|
  if v8 = 0 then (some (V7, (-1))) else (bd (F_X10_putsAside G r0 V7) fun V12 v13 =>
  bd (F_X10_isCalled G r0 x1 V12) fun V15 v16 =>
  bd (F_X10_clearsDried G r0 V15) fun V18 v19 =>
  gd (rg (gA V18 (r0 + 37) 0)) <|
  bd (F_X10_least G (23 - ((gA V18 (r0 + 37) 0).tmod 24)) (9999 - (gA V18 (r0 + 37) 0)) V18) fun V22 v23 =>
  bd (F_X10_hoursCome G r0 v23 V22) fun V25 v26 =>
  bd (F_X10_takesBack G r0 V25) fun V28 v29 =>
  gd (0 ≤ x2 ∧ x2 < (3 : Int) ∧ x2 ≤ 2147483647) <|
  some (V28, gA V28 (r0 + 39) x2.toNat)))
noncomputable def B_X10_first_22 (G : mG) (r0 : Nat) (x1 : Int) (V : mV) : Option (mV × Nat × Unit) :=
  gd (rg (gI V r0 61)) <|
  if (gI V r0 61) = (-1) then (gd (rg (gA V (r0 + 37) 0)) <|
  if 9999 ≤ (gA V (r0 + 37) 0) then (some (V, 1, ())) else (gd (rg ((gA V (r0 + 37) 0) - (gA V (r0 + 38) 0))) <|
  if 72 ≤ ((gA V (r0 + 37) 0) - (gA V (r0 + 38) 0)) then (some (V, 1, ())) else (bd (F_X10_hourComes G r0 V) fun V19 v20 =>
  some (V19, 0, ())))) else (some (V, 1, ()))
noncomputable def F_X10_first_J67 (G : mG) (r0 : Nat) (x1 : Int) (V : mV) : Option (mV × Int) :=
  lt (gA V (r0 + 37) 0) fun y26 =>
  bd (F_X10_takesBack G r0 V) fun V27 v28 =>
  gd (rg (gI V27 r0 61)) <|
  if (gI V27 r0 61) = (-1) then (some (V27, (-1))) else (gd (rg x1) <|
  if x1 = 0 then (some (V27, y26)) else (if x1 = 1 then (some (V27, gI V27 r0 61)) else (some (V27, gI V27 r0 62))))
noncomputable def F_X10_first (G : mG) (r0 : Nat) (x1 : Int) (V : mV) : Option (mV × Int) :=
  gd (rg x1) <|
  bd (F_X10_isIn G x1 0 2 V) fun V2 v3 =>
  gd (rg v3) <|
  if v3 = 0 then (some (V2, (-1))) else (bd (F_X10_putsAside G r0 V2) fun V7 v8 =>
  bd (F_X10_clearsDried G r0 V7) fun V10 v11 =>
  bd (lp (fun (s : Unit) V => B_X10_first_22 G r0 x1  V) FU () V10) fun V22 u23 =>
  F_X10_first_J67 G r0 x1 V22)
noncomputable def F_X10_doable_J38_6 (G : mG) (r0 : Nat) (x1 : Int) (x2 : Int) (x3 : Int) (x4 : Int) (x5 : Int) (s1 : Int) (s2 : Int) (V : mV) : Option (mV × Nat × Int × Int) :=
  bd (F_X10_dutyOf G r0 x5 1 V) fun V16 v17 =>
  bd (F_X10_dutyOf G r0 x5 2 V16) fun V19 v20 =>
  gd (rg (gA V19 (r0 + 37) 0)) <|
  bd (F_X10_canBy G r0 s1 s2 v17 v20 ((gA V19 (r0 + 37) 0).tdiv 24) V19) fun V23 v24 =>
  gd (rg v24) <|
  if v24 = 0 then (lt (x5 + 1) fun y28 =>
  some (V23, 0, (x4, y28))) else (lt (x4 + 1) fun y29 =>
  lt (x5 + 1) fun y30 =>
  some (V23, 0, (y29, y30)))
noncomputable def B_X10_doable_6 (G : mG) (r0 : Nat) (x1 : Int) (x2 : Int) (x3 : Int) (x4 : Int) (x5 : Int) (V : mV) : Option (mV × Nat × Int × Int) :=
  bd (F_X10_dutyMany G r0 V) fun V1 v2 =>
  gd (rg x5) <|
  gd (rg v2) <|
  if v2 ≤ x5 then (some (V1, 1, (x4, x5))) else (bd (F_X10_dutyOf G r0 x5 0 V1) fun V7 v8 =>
  gd (rg v8) <|
  gd (rg x2) <|
  if v8 = x2 then (gd (rg x1) <|
  if x1 = x2 then (F_X10_doable_J38_6 G r0 x1 x2 x3 x4 x5 x3 1 V7) else (F_X10_doable_J38_6 G r0 x1 x2 x3 x4 x5 x3 0 V7)) else (lt (x5 + 1) fun y13 =>
  some (V7, 0, (x4, y13))))
noncomputable def F_X10_doable (G : mG) (r0 : Nat) (x1 : Int) (x2 : Int) (x3 : Int) (V : mV) : Option (mV × Int) :=
  bd (lp (fun (s : Int × Int) V => B_X10_doable_6 G r0 x1 x2 x3 s.1 s.2 V) FU (0, 0) V) fun V31 u32 =>
  some (V31, u32.2.1)
noncomputable def B_X10_best_28 (G : mG) (r0 : Nat) (x1 : Int) (x2 : Int) (x3 : Int) (x4 : Int) (x5 : Int) (V : mV) : Option (mV × Nat × Int × Int × Int) :=
  bd (F_X10_peopleMany G r0 V) fun V12 v13 =>
  gd (rg x5) <|
  gd (rg v13) <|
  if v13 ≤ x5 then (some (V12, 1, (x3, x4, x5))) else (gd (rg x1) <|
  if x5 = x1 then (lt (x5 + 1) fun y31 =>
  some (V12, 0, (x3, x4, y31))) else (bd (F_X10_pointsOf G r0 x5 x1 V12) fun V20 v21 =>
  bd (F_X10_doable G r0 x5 x1 v21 V20) fun V23 v24 =>
  gd (rg v24) <|
  gd (rg x4) <|
  if x4 < v24 then (lt (x5 + 1) fun y29 =>
  some (V23, 0, (x5, v24, y29))) else (lt (x5 + 1) fun y30 =>
  some (V23, 0, (x3, x4, y30)))))
noncomputable def F_X10_best (G : mG) (r0 : Nat) (x1 : Int) (x2 : Int) (V : mV) : Option (mV × Int) :=
  bd (F_X10_isPerson G r0 x1 V) fun V1 v2 =>
  gd (rg v2) <|
  if v2 = 0 then (some (V1, (-1))) else (gd (rg x2) <|
  bd (F_X10_isIn G x2 0 1 V1) fun V7 v8 =>
  gd (rg v8) <|
  if v8 = 0 then (some (V7, (-1))) else (bd (lp (fun (s : Int × Int × Int) V => B_X10_best_28 G r0 x1 x2 s.1 s.2.1 s.2.2 V) FU ((-1), (-1), 0) V7) fun V32 u33 =>
  if x2 = 0 then (some (V32, u33.2.1)) else (some (V32, u33.2.2.1))))
noncomputable def B_X10_study_33 (G : mG) (r0 : Nat) (x1 : Int) (x2 : Int) (x3 : Int) (x4 : Int) (V : mV) : Option (mV × Nat × Int × Int) :=
  gd (rg x4) <|
  if 99 < x4 then (some (V, 2, (x3, x4))) else (bd (F_X10_doable G r0 x1 x2 x3 V) fun V19 v20 =>
  bd (F_X10_dutiesOf G r0 x2 V19) fun V22 v23 =>
  gd (rg v20) <|
  gd (rg v23) <|
  if v20 = v23 then (some (V22, 1, (x3, x4))) else (gd (rg (gA V22 (r0 + 37) 0)) <|
  bd (F_X10_made G r0 0 x1 x2 x3 ((gA V22 (r0 + 37) 0).tmod 24) ((gA V22 (r0 + 37) 0).tdiv 24) V22) fun V29 v30 =>
  lt (x4 + 1) fun y32 =>
  some (V29, 0, (v30, y32))))
noncomputable def F_X10_study (G : mG) (r0 : Nat) (x1 : Int) (x2 : Int) (V : mV) : Option (mV × Int) :=
  bd (F_X10_isPerson G r0 x1 V) fun V1 v2 =>
  gd (rg v2) <|
  if v2 = 0 then (some (V1, (-1))) else (bd (F_X10_isPerson G r0 x2 V1) fun V6 v7 =>
  gd (rg v7) <|
  if v7 = 0 then (some (V6, (-1))) else (gd (rg x1) <|
  gd (rg x2) <|
  if x1 = x2 then (some (V6, (-1))) else (bd (F_X10_pointsOf G r0 x1 x2 V6) fun V14 v15 =>
  bd (lp (fun (s : Int × Int) V => B_X10_study_33 G r0 x1 x2 s.1 s.2 V) FU (v15, 0) V14) fun V33 u34 =>
  if u34.1 = 1 then (some (V33, u34.2.2)) else (some (V33, (-1))))))
noncomputable def B_X10_laysChange_14 (G : mG) (r0 : Nat) (x1 : Int) (x2 : Int) (x3 : Int) (V : mV) : Option (mV × Nat × Int) :=
  gd (rg x3) <|
  gd (rg x1) <|
  if x1 ≤ x3 then (some (V, 1, x3)) else (gd (rg x2) <|
  if x3 = x2 then (gd (0 ≤ ((10 * x2) + x3) ∧ ((10 * x2) + x3) < (100 : Int) ∧ ((10 * x2) + x3) ≤ 2147483647) <|
  lt (sA V (r0 + 43) ((10 * x2) + x3).toNat 1000) fun V25 =>
  lt (x3 + 1) fun y26 =>
  some (V25, 0, y26)) else (bd (F_X10_dutiesOf G r0 x2 V) fun V12 v13 =>
  bd (F_X10_pointsOf G r0 x3 x2 V12) fun V15 v16 =>
  bd (F_X10_doable G r0 x3 x2 v16 V15) fun V18 v19 =>
  gd (0 ≤ ((10 * x2) + x3) ∧ ((10 * x2) + x3) < (100 : Int) ∧ ((10 * x2) + x3) ≤ 2147483647) <|
  lt (sA V18 (r0 + 43) ((10 * x2) + x3).toNat (v13 - v19)) fun V22 =>
  lt (x3 + 1) fun y23 =>
  some (V22, 0, y23)))
noncomputable def B_X10_laysChange_7 (G : mG) (r0 : Nat) (x1 : Int) (x2 : Int) (V : mV) : Option (mV × Nat × Int) :=
  gd (rg x2) <|
  gd (rg x1) <|
  if x1 ≤ x2 then (some (V, 1, x2)) else (bd (lp (fun (s : Int) V => B_X10_laysChange_14 G r0 x1 x2 s V) FU 0 V) fun V27 u28 =>
  lt (x2 + 1) fun y31 =>
  some (V27, 0, y31))
noncomputable def B_X10_laysChange_73 (G : mG) (r0 : Nat) (x1 : Int) (x2 : Int) (V : mV) : Option (mV × Nat × Int) :=
  gd (0 ≤ x1 ∧ x1 < 32) <|
  gd (rg x2) <|
  gd (rg (shl 1 x1)) <|
  if (shl 1 x1) ≤ x2 then (some (V, 1, x2)) else (gd (0 ≤ ((1024 * x1) + x2) ∧ ((1024 * x1) + x2) < (11264 : Int) ∧ ((1024 * x1) + x2) ≤ 2147483647) <|
  lt (sA V (r0 + 42) ((1024 * x1) + x2).toNat 0) fun V41 =>
  lt (x2 + 1) fun y42 =>
  some (V41, 0, y42))
noncomputable def B_X10_laysChange_124 (G : mG) (r0 : Nat) (x1 : Int) (x2 : Int) (x3 : Int) (x4 : Int) (x5 : Int) (V : mV) : Option (mV × Nat × Int × Int) :=
  gd (rg x5) <|
  gd (rg x1) <|
  if x1 ≤ x5 then (some (V, 1, (x4, x5))) else (gd (rg x3) <|
  gd (0 ≤ x5 ∧ x5 < 32) <|
  gd (rg ((shr x3 x5) % 2)) <|
  if ((shr x3 x5) % 2) = 1 then (lt (x5 + 1) fun y70 =>
  some (V, 0, (x4, y70))) else (gd (0 ≤ ((10 * x2) + x5) ∧ ((10 * x2) + x5) < (100 : Int) ∧ ((10 * x2) + x5) ≤ 2147483647) <|
  gd (0 ≤ x3 ∧ 0 ≤ (shl 1 x5)) <|
  gd (0 ≤ ((1024 * (x2 + 1)) + (bor x3 (shl 1 x5))) ∧ ((1024 * (x2 + 1)) + (bor x3 (shl 1 x5))) < (11264 : Int) ∧ ((1024 * (x2 + 1)) + (bor x3 (shl 1 x5))) ≤ 2147483647) <|
  lt ((gA V (r0 + 43) ((10 * x2) + x5).toNat) + (gA V (r0 + 42) ((1024 * (x2 + 1)) + (bor x3 (shl 1 x5))).toNat)) fun y64 =>
  gd (rg y64) <|
  gd (rg x4) <|
  if x4 ≤ y64 then (lt (x5 + 1) fun y68 =>
  some (V, 0, (x4, y68))) else (lt (x5 + 1) fun y69 =>
  some (V, 0, (y64, y69)))))
noncomputable def B_X10_laysChange_109 (G : mG) (r0 : Nat) (x1 : Int) (x2 : Int) (x3 : Int) (V : mV) : Option (mV × Nat × Int) :=
  gd (0 ≤ x1 ∧ x1 < 32) <|
  gd (rg x3) <|
  gd (rg (shl 1 x1)) <|
  if (shl 1 x1) ≤ x3 then (some (V, 1, x3)) else (bd (lp (fun (s : Int × Int) V => B_X10_laysChange_124 G r0 x1 x2 x3 s.1 s.2 V) FU (1000, 0) V) fun V71 u72 =>
  gd (0 ≤ ((1024 * x2) + x3) ∧ ((1024 * x2) + x3) < (11264 : Int) ∧ ((1024 * x2) + x3) ≤ 2147483647) <|
  lt (sA V71 (r0 + 42) ((1024 * x2) + x3).toNat u72.2.1) fun V76 =>
  lt (x3 + 1) fun y77 =>
  some (V76, 0, y77))
noncomputable def B_X10_laysChange_103 (G : mG) (r0 : Nat) (x1 : Int) (x2 : Int) (V : mV) : Option (mV × Nat × Int) :=
  gd (rg x2) <|
  if x2 < 0 then (some (V, 1, x2)) else (bd (lp (fun (s : Int) V => B_X10_laysChange_109 G r0 x1 x2 s V) FU 0 V) fun V78 u79 =>
  lt (x2 + (-1)) fun y82 =>
  some (V78, 0, y82))
noncomputable def F_X10_laysChange (G : mG) (r0 : Nat) (V : mV) : Option (mV × Int) :=
  bd (F_X10_peopleMany G r0 V) fun V1 v2 =>
  bd (lp (fun (s : Int) V => B_X10_laysChange_7 G r0 v2 s V) FU 0 V1) fun V32 u33 =>
  bd (lp (fun (s : Int) V => B_X10_laysChange_73 G r0 v2 s V) FU 0 V32) fun V43 u44 =>
  lt (v2 - 1) fun y47 =>
  bd (lp (fun (s : Int) V => B_X10_laysChange_103 G r0 v2 s V) FU y47 V43) fun V83 u84 =>
  some (V83, 0)
noncomputable def B_X10_change_54 (G : mG) (r0 : Nat) (x1 : Int) (x2 : Int) (x4 : Int) (x3 : Int) (V : mV) : Option (mV × Nat × Int) :=
  gd (rg x2) <|
  gd (0 ≤ x3 ∧ x3 < 32) <|
  gd (rg ((shr x2 x3) % 2)) <|
  if ((shr x2 x3) % 2) = 1 then (lt (x3 + 1) fun y20 =>
  some (V, 0, y20)) else (gd (0 ≤ ((10 * x4) + x3) ∧ ((10 * x4) + x3) < (100 : Int) ∧ ((10 * x4) + x3) ≤ 2147483647) <|
  gd (0 ≤ x2 ∧ 0 ≤ (shl 1 x3)) <|
  gd (0 ≤ ((1024 * (x4 + 1)) + (bor x2 (shl 1 x3))) ∧ ((1024 * (x4 + 1)) + (bor x2 (shl 1 x3))) < (11264 : Int) ∧ ((1024 * (x4 + 1)) + (bor x2 (shl 1 x3))) ≤ 2147483647) <|
  gd (0 ≤ ((1024 * x4) + x2) ∧ ((1024 * x4) + x2) < (11264 : Int) ∧ ((1024 * x4) + x2) ≤ 2147483647) <|
  gd (rg ((gA V (r0 + 43) ((10 * x4) + x3).toNat) + (gA V (r0 + 42) ((1024 * (x4 + 1)) + (bor x2 (shl 1 x3))).toNat))) <|
  gd (rg (gA V (r0 + 42) ((1024 * x4) + x2).toNat)) <|
  if ((gA V (r0 + 43) ((10 * x4) + x3).toNat) + (gA V (r0 + 42) ((1024 * (x4 + 1)) + (bor x2 (shl 1 x3))).toNat)) = (gA V (r0 + 42) ((1024 * x4) + x2).toNat) then (some (V, 1, x3)) else (lt (x3 + 1) fun y28 =>
  some (V, 0, y28)))
noncomputable def B_X10_change_46 (G : mG) (r0 : Nat) (x1 : Int) (x2 : Int) (x3 : Int) (x4 : Int) (V : mV) : Option (mV × Nat × Int × Int × Int) :=
  gd (rg x4) <|
  gd (rg x1) <|
  if x1 < x4 then (some (V, 1, (x2, x3, x4))) else (bd (lp (fun (s : Int) V => B_X10_change_54 G r0 x1 x2 x4 s V) FU 0 V) fun V29 u30 =>
  gd (0 ≤ u30.2 ∧ u30.2 < 32) <|
  gd (0 ≤ x2 ∧ 0 ≤ (shl 1 u30.2)) <|
  lt (bor x2 (shl 1 u30.2)) fun y35 =>
  lt (x4 + 1) fun y36 =>
  some (V29, 0, (y35, u30.2, y36)))
noncomputable def F_X10_change_J23 (G : mG) (r0 : Nat) (x1 : Int) (V : mV) : Option (mV × Int) :=
  bd (F_X10_laysChange G r0 V) fun V8 v9 =>
  gd (rg x1) <|
  if x1 = (-1) then (some (V8, gA V8 (r0 + 42) 0)) else (bd (lp (fun (s : Int × Int × Int) V => B_X10_change_46 G r0 x1 s.1 s.2.1 s.2.2 V) FU (0, (-1), 0) V8) fun V37 u38 =>
  some (V37, u38.2.2.1))
noncomputable def F_X10_change (G : mG) (r0 : Nat) (x1 : Int) (V : mV) : Option (mV × Int) :=
  bd (F_X10_peopleMany G r0 V) fun V1 v2 =>
  gd (rg v2) <|
  if v2 < 2 then (some (V1, (-1))) else (gd (rg x1) <|
  if x1 = (-1) then (F_X10_change_J23 G r0 x1 V1) else (bd (F_X10_isPerson G r0 x1 V1) fun V41 v42 =>
  gd (rg v42) <|
  if v42 = 0 then (some (V41, (-1))) else (F_X10_change_J23 G r0 x1 V41)))
noncomputable def B_X10_ring_22 (G : mG) (r0 : Nat) (x1 : Int) (x2 : Int) (x3 : Int) (V : mV) : Option (mV × Nat × Int × Int) :=
  gd (rg x3) <|
  if x3 = (-1) then (some (V, 1, (x2, x3))) else (gd (rg x1) <|
  if x3 = x1 then (some (V, 1, (x2, x3))) else (gd (rg x2) <|
  if 10 < x2 then (some (V, 1, (x2, x3))) else (gd (0 ≤ (10 + x3) ∧ (10 + x3) < (20 : Int) ∧ (10 + x3) ≤ 2147483647) <|
  lt (gA V (r0 + 31) (10 + x3).toNat) fun y15 =>
  lt (x2 + 1) fun y16 =>
  some (V, 0, (y16, y15)))))
noncomputable def F_X10_ring_J54 (G : mG) (r0 : Nat) (x1 : Int) (x2 : Int) (x3 : Int) (V : mV) : Option (mV × Int) :=
  gd (rg x3) <|
  gd (rg x1) <|
  if x3 = x1 then (some (V, x2)) else (some (V, 0))
noncomputable def F_X10_ring (G : mG) (r0 : Nat) (x1 : Int) (V : mV) : Option (mV × Int) :=
  bd (F_X10_isPerson G r0 x1 V) fun V1 v2 =>
  gd (rg v2) <|
  if v2 = 0 then (some (V1, (-1))) else (gd (0 ≤ (10 + x1) ∧ (10 + x1) < (20 : Int) ∧ (10 + x1) ≤ 2147483647) <|
  lt (gA V1 (r0 + 31) (10 + x1).toNat) fun y7 =>
  bd (lp (fun (s : Int × Int) V => B_X10_ring_22 G r0 x1 s.1 s.2 V) FU (1, y7) V1) fun V17 u18 =>
  F_X10_ring_J54 G r0 x1 u18.2.1 u18.2.2 V17)
noncomputable def B_X10_odds_57 (G : mG) (r0 : Nat) (x1 : Int) (x2 : Int) (x3 : Int) (x4 : Int) (x5 : Int) (x6 : Int) (V : mV) : Option (mV × Nat × Int) :=
  bd (F_X10_peopleMany G r0 V) fun V29 v30 =>
  gd (rg x6) <|
  gd (rg v30) <|
  if v30 ≤ x6 then (some (V29, 1, x6)) else (bd (F_X10_liveNow G r0 x6 x6 V29) fun V35 v36 =>
  lt (x6 + 1) fun y38 =>
  some (V35, 0, y38))
noncomputable def B_X10_odds_45 (G : mG) (r0 : Nat) (x1 : Int) (x2 : Int) (x3 : Int) (x4 : Int) (x5 : Int) (V : mV) : Option (mV × Nat × Int × Int) :=
  bd (F_X10_peopleMany G r0 V) fun V23 v24 =>
  gd (rg x5) <|
  gd (rg v24) <|
  if v24 ≤ x5 then (some (V23, 1, (x4, x5))) else (bd (lp (fun (s : Int) V => B_X10_odds_57 G r0 x1 x2 x3 x4 x5 s V) FU 0 V23) fun V39 u40 =>
  bd (F_X10_isCalled G r0 x5 V39) fun V43 v44 =>
  bd (F_X10_livesNow G r0 x1 V43) fun V46 v47 =>
  gd (rg v47) <|
  gd (rg x2) <|
  if v47 = x2 then (lt (x4 + 1) fun y53 =>
  lt (x5 + 1) fun y54 =>
  some (V46, 0, (y53, y54))) else (lt (x5 + 1) fun y52 =>
  some (V46, 0, (x4, y52))))
noncomputable def B_X10_odds_117 (G : mG) (r0 : Nat) (x1 : Int) (x2 : Int) (x3 : Int) (x4 : Int) (x5 : Int) (x7 : Int) (x9 : Int) (V : mV) : Option (mV × Nat × Int × Int × Int) :=
  gd (rg x9) <|
  gd (rg x3) <|
  if x3 ≤ x9 then (some (V, 1, (x5, x7, x9))) else (bd (F_X10_peopleMany G r0 V) fun V65 v66 =>
  gd (rg v66) <|
  lt (x5 * v66) fun y69 =>
  bd (F_X10_peopleMany G r0 V65) fun V70 v71 =>
  gd (rg (v71 - x4)) <|
  lt (x7 * (v71 - x4)) fun y74 =>
  lt (x9 + 1) fun y75 =>
  some (V70, 0, (y69, y74, y75)))
noncomputable def F_X10_odds (G : mG) (r0 : Nat) (x1 : Int) (x2 : Int) (x3 : Int) (V : mV) : Option (mV × Int) :=
  bd (F_X10_isPerson G r0 x1 V) fun V1 v2 =>
  gd (rg v2) <|
  if v2 = 0 then (some (V1, (-1))) else (bd (F_X10_isPerson G r0 x2 V1) fun V6 v7 =>
  gd (rg v7) <|
  if v7 = 0 then (some (V6, (-1))) else (gd (rg x1) <|
  gd (rg x2) <|
  if x1 = x2 then (some (V6, (-1))) else (gd (rg x3) <|
  bd (F_X10_isIn G x3 0 4 V6) fun V15 v16 =>
  gd (rg v16) <|
  if v16 = 0 then (some (V15, (-1))) else (bd (F_X10_putsAside G r0 V15) fun V20 v21 =>
  bd (lp (fun (s : Int × Int) V => B_X10_odds_45 G r0 x1 x2 x3 s.1 s.2 V) FU (0, 0) V20) fun V55 u56 =>
  bd (F_X10_takesBack G r0 V55) fun V59 v60 =>
  bd (lp (fun (s : Int × Int × Int) V => B_X10_odds_117 G r0 x1 x2 x3 u56.2.1 s.1 s.2.1 s.2.2 V) FU (1, 1, 0) V59) fun V76 u77 =>
  gd (rl (1000 * (u77.2.1 - u77.2.2.1))) <|
  gd (rl u77.2.1) <|
  gd (u77.2.1 ≠ 0) <|
  some (V76, (1000 * (u77.2.1 - u77.2.2.1)).tdiv u77.2.1)))))
noncomputable def B_X10_keeps_15 (G : mG) (r0 : Nat) (x1 : Int) (V : mV) : Option (mV × Nat × Int) :=
  gd (rg x1) <|
  if 282 ≤ x1 then (some (V, 1, x1)) else (gd (0 ≤ x1 ∧ x1 < (282 : Int) ∧ x1 ≤ 2147483647) <|
  gd (0 ≤ ((282 * (gI V r0 70)) + x1) ∧ ((282 * (gI V r0 70)) + x1) < (5640 : Int) ∧ ((282 * (gI V r0 70)) + x1) ≤ 2147483647) <|
  lt (sA V (r0 + 44) ((282 * (gI V r0 70)) + x1).toNat (gA V (r0 + 37) x1.toNat)) fun V7 =>
  lt (x1 + 1) fun y8 =>
  some (V7, 0, y8))
noncomputable def F_X10_keeps (G : mG) (r0 : Nat) (V : mV) : Option (mV × Int) :=
  gd (rg ((gI V r0 70) + 1)) <|
  lt (sI V r0 70 (((gI V r0 70) + 1).tmod 20)) fun V2 =>
  bd (lp (fun (s : Int) V => B_X10_keeps_15 G r0 s V) FU 0 V2) fun V9 u10 =>
  gd (rg (gI V9 r0 69)) <|
  if 20 ≤ (gI V9 r0 69) then (some (V9, 0)) else (lt (sI V9 r0 69 ((gI V9 r0 69) + 1)) fun V15 =>
  some (V15, 0))
noncomputable def B_X10_undo_21 (G : mG) (r0 : Nat) (x1 : Int) (V : mV) : Option (mV × Nat × Int) :=
  gd (rg x1) <|
  if 282 ≤ x1 then (some (V, 1, x1)) else (gd (0 ≤ ((282 * (gI V r0 70)) + x1) ∧ ((282 * (gI V r0 70)) + x1) < (5640 : Int) ∧ ((282 * (gI V r0 70)) + x1) ≤ 2147483647) <|
  gd (0 ≤ x1 ∧ x1 < (282 : Int) ∧ x1 ≤ 2147483647) <|
  lt (sA V (r0 + 37) x1.toNat (gA V (r0 + 44) ((282 * (gI V r0 70)) + x1).toNat)) fun V7 =>
  lt (x1 + 1) fun y8 =>
  some (V7, 0, y8))
noncomputable def F_X10_undo (G : mG) (r0 : Nat) (V : mV) : Option (mV × Int) :=
  gd (rg (gI V r0 69)) <|
  if (gI V r0 69) = 0 then (lt (sA V (r0 + 2) 4 ((gA V (r0 + 2) 4) + 1)) fun V16 =>
  some (V16, 0)) else (bd (lp (fun (s : Int) V => B_X10_undo_21 G r0 s V) FU 0 V) fun V9 u10 =>
  gd (rg (((gI V9 r0 70) + 20) - 1)) <|
  lt (sI V9 r0 70 ((((gI V9 r0 70) + 20) - 1).tmod 20)) fun V14 =>
  lt (sI V14 r0 69 ((gI V14 r0 69) - 1)) fun V15 =>
  some (V15, 1))
noncomputable def F_X10_refuses (G : mG) (r0 : Nat) (x1 : Int) (V : mV) : Option (mV × Int) :=
  gd (0 ≤ x1 ∧ x1 < (6 : Int) ∧ x1 ≤ 2147483647) <|
  lt (sA V (r0 + 2) x1.toNat ((gA V (r0 + 2) x1.toNat) + 1)) fun V2 =>
  some (V2, (-1))
noncomputable def F_X10_go_J26 (G : mG) (r0 : Nat) (x1 : Int) (V : mV) : Option (mV × Int) :=
  bd (F_X10_refuses G r0 2 V) fun V7 v8 =>
  some (V7, v8)
noncomputable def F_X10_go (G : mG) (r0 : Nat) (x1 : Int) (V : mV) : Option (mV × Int) :=
  gd (rg x1) <|
  bd (F_X10_isIn G x1 1 500 V) fun V2 v3 =>
  gd (rg v3) <|
  if v3 = 0 then (F_X10_go_J26 G r0 x1 V2) else (gd (rg ((gA V2 (r0 + 37) 0) + x1)) <|
  if ((gA V2 (r0 + 37) 0) + x1) ≤ 9999 then (bd (F_X10_keeps G r0 V2) fun V12 v13 =>
  bd (F_X10_hoursCome G r0 x1 V12) fun V15 v16 =>
  some (V15, gA V15 (r0 + 37) 0)) else (F_X10_go_J26 G r0 x1 V2))
noncomputable def F_X10_call (G : mG) (r0 : Nat) (x1 : Int) (V : mV) : Option (mV × Int) :=
  bd (F_X10_isHere0 G r0 x1 V) fun V1 v2 =>
  gd (rg v2) <|
  if v2 = 0 then (bd (F_X10_refuses G r0 2 V1) fun V12 v13 =>
  some (V12, v13)) else (bd (F_X10_keeps G r0 V1) fun V6 v7 =>
  bd (F_X10_isCalled G r0 x1 V6) fun V9 v10 =>
  some (V9, gI V9 r0 64))
noncomputable def F_X10_watch_J35 (G : mG) (r0 : Nat) (x1 : Int) (x2 : Int) (V : mV) : Option (mV × Int) :=
  lt (sA V (r0 + 2) 3 ((gA V (r0 + 2) 3) + 1)) fun V6 =>
  some (V6, 0)
noncomputable def F_X10_watch_J21 (G : mG) (r0 : Nat) (x1 : Int) (x2 : Int) (V : mV) : Option (mV × Int) :=
  gd (rg x1) <|
  gd (rg x2) <|
  if x1 = x2 then (F_X10_watch_J35 G r0 x1 x2 V) else (bd (F_X10_watches G r0 x1 V) fun V12 v13 =>
  gd (rg v13) <|
  if v13 = x2 then (F_X10_watch_J35 G r0 x1 x2 V12) else (bd (F_X10_keeps G r0 V12) fun V17 v18 =>
  gd (0 ≤ (2 + (12 * x1)) ∧ (2 + (12 * x1)) < (282 : Int) ∧ (2 + (12 * x1)) ≤ 2147483647) <|
  lt (sA V17 (r0 + 37) (2 + (12 * x1)).toNat x2) fun V21 =>
  some (V21, 1)))
noncomputable def F_X10_watch (G : mG) (r0 : Nat) (x1 : Int) (x2 : Int) (V : mV) : Option (mV × Int) :=
  bd (F_X10_isPerson G r0 x1 V) fun V1 v2 =>
  gd (rg v2) <|
  if v2 = 0 then (F_X10_watch_J35 G r0 x1 x2 V1) else (gd (rg x2) <|
  if x2 = (-1) then (F_X10_watch_J21 G r0 x1 x2 V1) else (bd (F_X10_isPerson G r0 x2 V1) fun V22 v23 =>
  gd (rg v23) <|
  if v23 = 0 then (F_X10_watch_J35 G r0 x1 x2 V22) else (F_X10_watch_J21 G r0 x1 x2 V22)))
noncomputable def F_X10_teach_J33 (G : mG) (r0 : Nat) (x1 : Int) (x2 : Int) (x3 : Int) (V : mV) : Option (mV × Int) :=
  bd (F_X10_refuses G r0 3 V) fun V6 v7 =>
  some (V6, v7)
noncomputable def F_X10_teach (G : mG) (r0 : Nat) (x1 : Int) (x2 : Int) (x3 : Int) (V : mV) : Option (mV × Int) :=
  bd (F_X10_isPerson G r0 x1 V) fun V1 v2 =>
  gd (rg v2) <|
  if v2 = 0 then (F_X10_teach_J33 G r0 x1 x2 x3 V1) else (bd (F_X10_isPerson G r0 x2 V1) fun V9 v10 =>
  gd (rg v10) <|
  if v10 = 0 then (F_X10_teach_J33 G r0 x1 x2 x3 V9) else (gd (rg x1) <|
  gd (rg x2) <|
  if x1 = x2 then (F_X10_teach_J33 G r0 x1 x2 x3 V9) else (gd (rg x3) <|
  bd (F_X10_isIn G x3 0 99 V9) fun V18 v19 =>
  gd (rg v19) <|
  if v19 = 0 then (F_X10_teach_J33 G r0 x1 x2 x3 V18) else (bd (F_X10_keeps G r0 V18) fun V23 v24 =>
  bd (F_X10_pointsOf G r0 x1 x2 V23) fun V26 v27 =>
  bd (F_X10_knowsNow G r0 x1 x2 x3 V26) fun V29 v30 =>
  some (V29, v27)))))
noncomputable def F_X10_seed (G : mG) (r0 : Nat) (x1 : Int) (V : mV) : Option (mV × Int) :=
  gd (rg x1) <|
  if 0 ≤ x1 then (lt (sJ V r0 71 x1) fun V3 =>
  some (V3, 1)) else (lt (sA V (r0 + 2) 5 ((gA V (r0 + 2) 5) + 1)) fun V4 =>
  some (V4, 0))
noncomputable def F_X10_drawOf (G : mG) (r0 : Nat) (x1 : Int) (V : mV) : Option (mV × Int) :=
  gd (rl ((1103515245 * (gJ V r0 71)) + 12345)) <|
  lt (sJ V r0 71 (((1103515245 * (gJ V r0 71)) + 12345).tmod 2147483648)) fun V2 =>
  gd (rl (gJ V2 r0 71)) <|
  gd (rg x1) <|
  gd (rl ((gJ V2 r0 71).tdiv 64)) <|
  gd (rl x1) <|
  gd (x1 ≠ 0) <|
  some (V2, ((gJ V2 r0 71).tdiv 64).tmod x1)
noncomputable def F_X10_bellRings (G : mG) (r0 : Nat) (V : mV) : Option (mV × Int) :=
  bd (F_X10_peopleMany G r0 V) fun V1 v2 =>
  gd (rg v2) <|
  if v2 = 0 then (some (V1, 0)) else (bd (F_X10_peopleMany G r0 V1) fun V6 v7 =>
  bd (F_X10_drawOf G r0 v7 V6) fun V9 v10 =>
  bd (F_X10_livesNow G r0 v10 V9) fun V12 v13 =>
  gd (rg v13) <|
  if v13 = (-1) then (some (V12, 0)) else (bd (F_X10_isCalled G r0 v10 V12) fun V17 v18 =>
  some (V17, 0)))
noncomputable def F_X10_tillNoon (G : mG) (r0 : Nat) (V : mV) : Option (mV × Int) :=
  gd (rg (gA V (r0 + 37) 0)) <|
  gd (rg ((12 - ((gA V (r0 + 37) 0).tmod 24)) + 23)) <|
  some (V, (((12 - ((gA V (r0 + 37) 0).tmod 24)) + 23).tmod 24) + 1)
noncomputable def F_X10_bells_J37 (G : mG) (r0 : Nat) (x1 : Int) (V : mV) : Option (mV × Int) :=
  bd (F_X10_refuses G r0 2 V) fun V7 v8 =>
  some (V7, v8)
noncomputable def B_X10_bells_49 (G : mG) (r0 : Nat) (x1 : Int) (x2 : Int) (V : mV) : Option (mV × Nat × Int) :=
  gd (rg x2) <|
  gd (rg x1) <|
  if x1 ≤ x2 then (some (V, 1, x2)) else (bd (F_X10_tillNoon G r0 V) fun V21 v22 =>
  bd (F_X10_hoursCome G r0 v22 V21) fun V24 v25 =>
  bd (F_X10_bellRings G r0 V24) fun V27 v28 =>
  bd (F_X10_hoursCome G r0 12 V27) fun V30 v31 =>
  lt (x2 + 1) fun y33 =>
  some (V30, 0, y33))
noncomputable def F_X10_bells (G : mG) (r0 : Nat) (x1 : Int) (V : mV) : Option (mV × Int) :=
  gd (rg x1) <|
  bd (F_X10_isIn G x1 1 20 V) fun V2 v3 =>
  gd (rg v3) <|
  if v3 = 0 then (F_X10_bells_J37 G r0 x1 V2) else (bd (F_X10_tillNoon G r0 V2) fun V10 v11 =>
  gd (rg ((((gA V2 (r0 + 37) 0) + v11) + (24 * x1)) - 12)) <|
  if ((((gA V2 (r0 + 37) 0) + v11) + (24 * x1)) - 12) ≤ 9999 then (bd (F_X10_keeps G r0 V10) fun V15 v16 =>
  bd (lp (fun (s : Int) V => B_X10_bells_49 G r0 x1 s V) FU 0 V15) fun V34 u35 =>
  some (V34, gA V34 (r0 + 37) 0)) else (F_X10_bells_J37 G r0 x1 V10))
noncomputable def B_X10_slips_45 (G : mG) (r0 : Nat) (x1 : Int) (x2 : Int) (x3 : Int) (x4 : Int) (V : mV) : Option (mV × Nat × Int × Int) :=
  gd (rg x4) <|
  gd (rg x2) <|
  if x2 ≤ x4 then (some (V, 1, (x3, x4))) else (gd (rg x3) <|
  if x3 = 0 then (some (V, 1, (x3, x4))) else (gd (0 ≤ x4 ∧ x4 < (1600 : Int) ∧ x4 ≤ 2147483647) <|
  gd (rg (gA V (r0 + 1) x4.toNat)) <|
  if 24 ≤ (gA V (r0 + 1) x4.toNat) then (lt (x4 + 3) fun y16 =>
  some (V, 0, (0, y16))) else (gd (0 ≤ (x4 + 1) ∧ (x4 + 1) < (1600 : Int) ∧ (x4 + 1) ≤ 2147483647) <|
  bd (F_X10_isTask G r0 (gA V (r0 + 1) (x4 + 1).toNat) V) fun V18 v19 =>
  gd (rg v19) <|
  if v19 = 0 then (lt (x4 + 3) fun y23 =>
  some (V18, 0, (0, y23))) else (gd (0 ≤ (x4 + 2) ∧ (x4 + 2) < (1600 : Int) ∧ (x4 + 2) ≤ 2147483647) <|
  gd (rg (gA V18 (r0 + 1) (x4 + 2).toNat)) <|
  if 2 ≤ (gA V18 (r0 + 1) (x4 + 2).toNat) then (lt (x4 + 3) fun y27 =>
  some (V18, 0, (0, y27))) else (lt (x4 + 3) fun y28 =>
  some (V18, 0, (1, y28)))))))
noncomputable def B_X10_slips_121 (G : mG) (r0 : Nat) (x1 : Int) (x2 : Int) (x4 : Int) (V : mV) : Option (mV × Nat × Int) :=
  gd (rg x4) <|
  gd (rg x2) <|
  if x2 ≤ x4 then (some (V, 1, x4)) else (gd (0 ≤ x4 ∧ x4 < (1600 : Int) ∧ x4 ≤ 2147483647) <|
  gd (0 ≤ x4 ∧ x4 < (60 : Int) ∧ x4 ≤ 2147483647) <|
  lt (sA V (r0 + 45) x4.toNat (gA V (r0 + 1) x4.toNat)) fun V40 =>
  lt (x4 + 1) fun y41 =>
  some (V40, 0, y41))
noncomputable def F_X10_slips_J108 (G : mG) (r0 : Nat) (x1 : Int) (x2 : Int) (x3 : Int) (V : mV) : Option (mV × Int) :=
  gd (rg x3) <|
  if x3 = 0 then (bd (F_X10_refuses G r0 1 V) fun V49 v50 =>
  some (V49, v50)) else (bd (lp (fun (s : Int) V => B_X10_slips_121 G r0 x1 x2 s V) FU 0 V) fun V42 u43 =>
  gd (rg x2) <|
  lt (sI V42 r0 72 (x2.tdiv 3)) fun V47 =>
  lt (sI V47 r0 73 x1) fun V48 =>
  some (V48, gI V48 r0 72))
noncomputable def F_X10_slips_J41 (G : mG) (r0 : Nat) (x1 : Int) (x2 : Int) (s0 : Int) (V : mV) : Option (mV × Int) :=
  bd (lp (fun (s : Int × Int) V => B_X10_slips_45 G r0 x1 x2 s.1 s.2 V) FU (s0, 0) V) fun V29 u30 =>
  F_X10_slips_J108 G r0 x1 x2 u30.2.1 V29
noncomputable def F_X10_slips_J40 (G : mG) (r0 : Nat) (x1 : Int) (x2 : Int) (V : mV) : Option (mV × Int) :=
  F_X10_slips_J41 G r0 x1 x2 0 V
noncomputable def F_X10_slips (G : mG) (r0 : Nat) (x1 : Int) (V : mV) : Option (mV × Int) :=
  lt (gI V r0 1) fun y1 =>
  lt (sI V r0 1 0) fun V2 =>
  bd (F_X10_isPerson G r0 x1 V2) fun V3 v4 =>
  gd (rg v4) <|
  if v4 = 0 then (F_X10_slips_J40 G r0 x1 y1 V3) else (gd (rg y1) <|
  if y1 ≤ 0 then (F_X10_slips_J40 G r0 x1 y1 V3) else (gd (rg (y1.tmod 3)) <|
  if (y1.tmod 3) = 0 then (gd (rg (y1.tdiv 3)) <|
  if 20 < (y1.tdiv 3) then (F_X10_slips_J40 G r0 x1 y1 V3) else (F_X10_slips_J41 G r0 x1 y1 1 V3)) else (F_X10_slips_J40 G r0 x1 y1 V3)))
noncomputable def F_X10_isAsSlips_J52_2 (G : mG) (r0 : Nat) (x1 : Int) (x2 : Int) (s0 : Int) (s1 : Int) (V : mV) : Option (mV × Nat × Int) :=
  gd (rg s0) <|
  gd (rg s1) <|
  if s0 = s1 then (lt (x2 + 3) fun y15 =>
  some (V, 0, y15)) else (some (V, 1, x2))
noncomputable def B_X10_isAsSlips_2 (G : mG) (r0 : Nat) (x1 : Int) (x2 : Int) (V : mV) : Option (mV × Nat × Int) :=
  gd (rg x2) <|
  gd (rg (3 * (gI V r0 72))) <|
  if (3 * (gI V r0 72)) ≤ x2 then (some (V, 2, x2)) else (gd (0 ≤ (x2 + 1) ∧ (x2 + 1) < (60 : Int) ∧ (x2 + 1) ≤ 2147483647) <|
  gd (0 ≤ x2 ∧ x2 < (60 : Int) ∧ x2 ≤ 2147483647) <|
  bd (F_X10_canDo G r0 x1 (gI V r0 73) (gA V (r0 + 45) (x2 + 1).toNat) (gA V (r0 + 45) x2.toNat) V) fun V6 v7 =>
  gd (0 ≤ (x2 + 2) ∧ (x2 + 2) < (60 : Int) ∧ (x2 + 2) ≤ 2147483647) <|
  gd (rg (gA V6 (r0 + 45) (x2 + 2).toNat)) <|
  if (gA V6 (r0 + 45) (x2 + 2).toNat) = 1 then (F_X10_isAsSlips_J52_2 G r0 x1 x2 v7 1 V6) else (F_X10_isAsSlips_J52_2 G r0 x1 x2 v7 0 V6))
noncomputable def F_X10_isAsSlips (G : mG) (r0 : Nat) (x1 : Int) (V : mV) : Option (mV × Int) :=
  bd (lp (fun (s : Int) V => B_X10_isAsSlips_2 G r0 x1 s V) FU 0 V) fun V16 u17 =>
  if u17.1 = 1 then (some (V16, 0)) else (some (V16, 1))
noncomputable def B_X10_who_13 (G : mG) (r0 : Nat) (x1 : Int) (x2 : Int) (V : mV) : Option (mV × Nat × Int × Int) :=
  bd (F_X10_peopleMany G r0 V) fun V3 v4 =>
  gd (rg x2) <|
  gd (rg v4) <|
  if v4 ≤ x2 then (some (V3, 1, (x1, x2))) else (bd (F_X10_isAsSlips G r0 x2 V3) fun V9 v10 =>
  gd (rg v10) <|
  if v10 = 0 then (lt (x2 + 1) fun y14 =>
  some (V9, 0, (x1, y14))) else (gd (0 ≤ x2 ∧ x2 < 32) <|
  gd (0 ≤ x1 ∧ 0 ≤ (shl 1 x2)) <|
  lt (bor x1 (shl 1 x2)) fun y17 =>
  lt (x2 + 1) fun y18 =>
  some (V9, 0, (y17, y18))))
noncomputable def F_X10_who (G : mG) (r0 : Nat) (V : mV) : Option (mV × Int) :=
  gd (rg (gI V r0 72)) <|
  if (gI V r0 72) = 0 then (some (V, (-1))) else (bd (lp (fun (s : Int × Int) V => B_X10_who_13 G r0 s.1 s.2 V) FU (0, 0) V) fun V19 u20 =>
  some (V19, u20.2.1))
noncomputable def F_X10_qOf (G : mG) (r0 : Nat) (x1 : Int) (x2 : Int) (x4 : Int) (V : mV) : Option (mV × Int) :=
  gd (rg x1) <|
  bd (F_X10_peopleMany G r0 V) fun V2 v3 =>
  gd (rg (v3 - 1)) <|
  bd (F_X10_isIn G x2 0 (v3 - 1) V2) fun V6 v7 =>
  gd (rg v7) <|
  if v7 = 0 then (some (V6, 0)) else (bd (F_X10_pointsOf G r0 (gI V6 r0 58) x2 V6) fun V11 v12 =>
  gd (rg v12) <|
  some (V11, v12))
noncomputable def B_X10_qTold_7 (G : mG) (r0 : Nat) (x1 : Int) (x2 : Int) (V : mV) : Option (mV × Nat × Int) :=
  gd (rg x2) <|
  gd (rg (gI V r0 98)) <|
  if (gI V r0 98) ≤ x2 then (some (V, 1, x2)) else (gd (0 ≤ x2 ∧ x2 < (1700 : Int) ∧ x2 ≤ 2147483647) <|
  lt (gA V (r0 + 68) x2.toNat) fun y6 =>
  gd (rg y6) <|
  if y6 < 1000 then (if y6 < 60 then (if y6 < 40 then (if y6 = 13 then (bd (F_X10_qPuts G r0 1 V) fun V20 v21 =>
  lt (x2 + 1) fun y23 =>
  some (V20, 0, y23)) else (if y6 = 12 then (gd (0 ≤ ((gI V r0 104) - 1) ∧ ((gI V r0 104) - 1) < (1700 : Int) ∧ ((gI V r0 104) - 1) ≤ 2147483647) <|
  lt (sL V (r0 + 70) ((gI V r0 104) - 1).toNat (1 - (gL V (r0 + 70) ((gI V r0 104) - 1).toNat))) fun V18 =>
  lt (x2 + 1) fun y19 =>
  some (V18, 0, y19)) else (bd (F_X10_qJoins G r0 y6 V) fun V13 v14 =>
  lt (x2 + 1) fun y16 =>
  some (V13, 0, y16)))) else (bd (F_X10_qPartOf G r0 (y6 - 40) x1 V) fun V24 v25 =>
  bd (F_X10_qClip G v25 V24) fun V27 v28 =>
  bd (F_X10_qPuts G r0 v28 V27) fun V30 v31 =>
  lt (x2 + 1) fun y33 =>
  some (V30, 0, y33))) else (gd (0 ≤ ((gI V r0 104) - 1) ∧ ((gI V r0 104) - 1) < (1700 : Int) ∧ ((gI V r0 104) - 1) ≤ 2147483647) <|
  bd (F_X10_qOf G r0 (y6 - 60) (gL V (r0 + 70) ((gI V r0 104) - 1).toNat) x1 V) fun V35 v36 =>
  bd (F_X10_qClip G v36 V35) fun V38 v39 =>
  lt (sL V38 (r0 + 70) ((gI V r0 104) - 1).toNat v39) fun V41 =>
  lt (x2 + 1) fun y42 =>
  some (V41, 0, y42))) else (gd (rg (y6 - 1000)) <|
  bd (F_X10_qPuts G r0 (y6 - 1000) V) fun V44 v45 =>
  lt (x2 + 1) fun y47 =>
  some (V44, 0, y47)))
noncomputable def F_X10_qTold (G : mG) (r0 : Nat) (x1 : Int) (V : mV) : Option (mV × Int) :=
  lt (sI V r0 104 0) fun V1 =>
  bd (lp (fun (s : Int) V => B_X10_qTold_7 G r0 x1 s V) FU 0 V1) fun V48 u49 =>
  some (V48, gL V48 (r0 + 70) 0)
noncomputable def F_X10_qKind_J76 (G : mG) (r0 : Nat) (s0 : Int) (V : mV) : Option (mV × Int) :=
  gd (rg s0) <|
  if s0 = 5 then (bd (F_X10_asks G r0 (r0 + 51) V) fun V28 v29 =>
  some (V28, s0)) else (some (V, s0))
noncomputable def F_X10_qKind (G : mG) (r0 : Nat) (V : mV) : Option (mV × Int) :=
  bd (F_X10_takes G r0 (r0 + 46) V) fun V1 v2 =>
  gd (rg v2) <|
  if v2 = 0 then (bd (F_X10_takes G r0 (r0 + 47) V1) fun V6 v7 =>
  gd (rg v7) <|
  if v7 = 0 then (bd (F_X10_takes G r0 (r0 + 48) V6) fun V11 v12 =>
  gd (rg v12) <|
  if v12 = 0 then (bd (F_X10_takes G r0 (r0 + 49) V11) fun V16 v17 =>
  gd (rg v17) <|
  if v17 = 0 then (bd (F_X10_takes G r0 (r0 + 50) V16) fun V21 v22 =>
  gd (rg v22) <|
  if v22 = 0 then (F_X10_qKind_J76 G r0 5 V21) else (F_X10_qKind_J76 G r0 4 V21)) else (F_X10_qKind_J76 G r0 3 V16)) else (F_X10_qKind_J76 G r0 2 V11)) else (F_X10_qKind_J76 G r0 1 V6)) else (F_X10_qKind_J76 G r0 0 V1)
noncomputable def F_X10_qTakes_J128 (G : mG) (r0 : Nat) (x1 : Int) (x2 : Int) (x4 : Int) (V : mV) : Option (mV × Int) :=
  lt (sJ V r0 105 x2) fun V16 =>
  lt (sI V16 r0 106 0) fun V17 =>
  some (V17, 0)
noncomputable def F_X10_qTakes_J90 (G : mG) (r0 : Nat) (x1 : Int) (x2 : Int) (x4 : Int) (V : mV) : Option (mV × Int) :=
  gd (rg x1) <|
  if x1 ≤ 3 then (lt (sI V r0 106 0) fun V13 =>
  some (V13, 0)) else (gd (rg (gI V r0 106)) <|
  if (gI V r0 106) = 0 then (if x1 = 4 then (gd (rl x2) <|
  gd (rl (gJ V r0 105)) <|
  if x2 ≤ (gJ V r0 105) then (lt (sI V r0 106 0) fun V26 =>
  some (V26, 0)) else (F_X10_qTakes_J128 G r0 x1 x2 x4 V)) else (gd (rl x2) <|
  gd (rl (gJ V r0 105)) <|
  if (gJ V r0 105) ≤ x2 then (lt (sI V r0 106 0) fun V22 =>
  some (V22, 0)) else (F_X10_qTakes_J128 G r0 x1 x2 x4 V))) else (F_X10_qTakes_J128 G r0 x1 x2 x4 V))
noncomputable def F_X10_qTakes_J75 (G : mG) (r0 : Nat) (x1 : Int) (x2 : Int) (x4 : Int) (V : mV) : Option (mV × Int) :=
  gd (rg x1) <|
  if x1 = 3 then (lt (sJ V r0 105 ((gJ V r0 105) + x2)) fun V27 =>
  F_X10_qTakes_J90 G r0 x1 x2 x4 V27) else (F_X10_qTakes_J90 G r0 x1 x2 x4 V)
noncomputable def F_X10_qTakes_J55 (G : mG) (r0 : Nat) (x1 : Int) (x2 : Int) (x4 : Int) (x5 : Int) (V : mV) : Option (mV × Int) :=
  gd (rg x1) <|
  if x1 = 2 then (gd (rg x5) <|
  if x5 = 0 then (F_X10_qTakes_J75 G r0 x1 x2 x4 V) else (lt (sJ V r0 105 ((gJ V r0 105) + 1)) fun V30 =>
  F_X10_qTakes_J75 G r0 x1 x2 x4 V30)) else (F_X10_qTakes_J75 G r0 x1 x2 x4 V)
noncomputable def F_X10_qTakes_J48 (G : mG) (r0 : Nat) (x1 : Int) (x2 : Int) (x4 : Int) (x5 : Int) (V : mV) : Option (mV × Int) :=
  gd (rg x4) <|
  lt (sJ V r0 105 x4) fun V34 =>
  F_X10_qTakes_J55 G r0 x1 x2 x4 x5 V34
noncomputable def F_X10_qTakes_J38 (G : mG) (r0 : Nat) (x1 : Int) (x2 : Int) (x4 : Int) (x5 : Int) (V : mV) : Option (mV × Int) :=
  gd (rg x1) <|
  if x1 = 1 then (gd (rg x5) <|
  if x5 = 0 then (F_X10_qTakes_J55 G r0 x1 x2 x4 x5 V) else (F_X10_qTakes_J48 G r0 x1 x2 x4 x5 V)) else (F_X10_qTakes_J55 G r0 x1 x2 x4 x5 V)
noncomputable def F_X10_qTakes_J16 (G : mG) (r0 : Nat) (x1 : Int) (x2 : Int) (x4 : Int) (s0 : Int) (V : mV) : Option (mV × Int) :=
  gd (rg x1) <|
  if x1 = 0 then (gd (rg s0) <|
  if s0 = 0 then (F_X10_qTakes_J38 G r0 x1 x2 x4 s0 V) else (gd (rl (gJ V r0 105)) <|
  if (gJ V r0 105) = (-1) then (F_X10_qTakes_J48 G r0 x1 x2 x4 s0 V) else (F_X10_qTakes_J38 G r0 x1 x2 x4 s0 V))) else (F_X10_qTakes_J38 G r0 x1 x2 x4 s0 V)
noncomputable def F_X10_qTakes_J15 (G : mG) (r0 : Nat) (x1 : Int) (x2 : Int) (x4 : Int) (V : mV) : Option (mV × Int) :=
  F_X10_qTakes_J16 G r0 x1 x2 x4 0 V
noncomputable def F_X10_qTakes (G : mG) (r0 : Nat) (x1 : Int) (x2 : Int) (x4 : Int) (V : mV) : Option (mV × Int) :=
  gd (rg x1) <|
  if 3 ≤ x1 then (F_X10_qTakes_J15 G r0 x1 x2 x4 V) else (gd (rl x2) <|
  if x2 = 1 then (F_X10_qTakes_J16 G r0 x1 x2 x4 1 V) else (F_X10_qTakes_J15 G r0 x1 x2 x4 V))
noncomputable def F_X10_ask_J220_188 (G : mG) (r0 : Nat) (x1 : Int) (x2 : Int) (x3 : Int) (V : mV) : Option (mV × Nat × Int) :=
  lt (sI V r0 58 x1) fun V45 =>
  gd (rg (gA V45 (r0 + 37) 0)) <|
  gd (rg ((gA V45 (r0 + 37) 0).tmod 24)) <|
  lt (sJ V45 r0 51 ((gA V45 (r0 + 37) 0).tmod 24)) fun V48 =>
  gd (rg (gA V48 (r0 + 37) 0)) <|
  gd (rg ((gA V48 (r0 + 37) 0).tdiv 24)) <|
  lt (sJ V48 r0 52 ((gA V48 (r0 + 37) 0).tdiv 24)) fun V51 =>
  bd (F_X10_qTold G r0 x3 V51) fun V52 v53 =>
  bd (F_X10_qTakes G r0 x2 v53 (gA V52 (r0 + 37) 0) V52) fun V55 v56 =>
  lt (x3 + 1) fun y58 =>
  some (V55, 0, y58)
noncomputable def B_X10_ask_188 (G : mG) (r0 : Nat) (x1 : Int) (x2 : Int) (x3 : Int) (V : mV) : Option (mV × Nat × Int) :=
  gd (rg x3) <|
  if 48 ≤ x3 then (some (V, 1, x3)) else (gd (rg ((gA V (r0 + 38) 0) + x3)) <|
  if 9999 < ((gA V (r0 + 38) 0) + x3) then (some (V, 1, x3)) else (bd (F_X10_clearsDried G r0 V) fun V41 v42 =>
  if x3 ≤ 0 then (F_X10_ask_J220_188 G r0 x1 x2 x3 V41) else (bd (F_X10_hourComes G r0 V41) fun V59 v60 =>
  F_X10_ask_J220_188 G r0 x1 x2 x3 V59)))
noncomputable def F_X10_ask_J275 (G : mG) (r0 : Nat) (x1 : Int) (V : mV) : Option (mV × Int) :=
  bd (F_X10_takesBack G r0 V) fun V66 v67 =>
  some (V66, gJ V66 r0 105)
noncomputable def F_X10_ask_J174 (G : mG) (r0 : Nat) (x1 : Int) (x2 : Int) (s1 : Int) (V : mV) : Option (mV × Int) :=
  lt (sJ V r0 105 s1) fun V32 =>
  lt (sI V32 r0 106 1) fun V33 =>
  bd (F_X10_putsAside G r0 V33) fun V34 v35 =>
  bd (lp (fun (s : Int) V => B_X10_ask_188 G r0 x1 x2 s V) FU 0 V34) fun V62 u63 =>
  F_X10_ask_J275 G r0 x1 V62
noncomputable def F_X10_ask_J134 (G : mG) (r0 : Nat) (x1 : Int) (x2 : Int) (V : mV) : Option (mV × Int) :=
  lt (sI V r0 7 (gI V r0 5)) fun V26 =>
  lt (sI V26 r0 8 (gI V26 r0 6)) fun V27 =>
  gd (rg (gI V27 r0 5)) <|
  if (gI V27 r0 5) = 0 then (gd (rg x2) <|
  if 2 ≤ x2 then (F_X10_ask_J174 G r0 x1 x2 0 V27) else (F_X10_ask_J174 G r0 x1 x2 (-1) V27)) else (some (V27, (-1000000000000000)))
noncomputable def F_X10_ask_J110 (G : mG) (r0 : Nat) (x1 : Int) (x2 : Int) (V : mV) : Option (mV × Int) :=
  gd (rg (gI V r0 5)) <|
  if (gI V r0 5) = 0 then (bd (F_X10_look G r0 V) fun V69 v70 =>
  gd (rg v70) <|
  if v70 = (-1) then (F_X10_ask_J134 G r0 x1 x2 V69) else (bd (F_X10_fail G r0 1 (gI V69 r0 2) V69) fun V74 v75 =>
  F_X10_ask_J134 G r0 x1 x2 V74)) else (F_X10_ask_J134 G r0 x1 x2 V)
noncomputable def F_X10_ask_J99 (G : mG) (r0 : Nat) (x1 : Int) (x2 : Int) (V : mV) : Option (mV × Int) :=
  gd (rg (gI V r0 5)) <|
  if (gI V r0 5) = 0 then (bd (F_X10_qSums G r0 V) fun V77 v78 =>
  F_X10_ask_J110 G r0 x1 x2 V77) else (F_X10_ask_J110 G r0 x1 x2 V)
noncomputable def F_X10_ask (G : mG) (r0 : Nat) (x1 : Int) (V : mV) : Option (mV × Int) :=
  bd (F_X10_isPerson G r0 x1 V) fun V1 v2 =>
  gd (rg v2) <|
  if v2 = 0 then (lt (sI V1 r0 1 0) fun V85 =>
  some (V85, (-1000000000000000))) else (lt (sI V1 r0 3 (gI V1 r0 1)) fun V6 =>
  lt (sI V6 r0 1 0) fun V7 =>
  lt (sI V7 r0 2 0) fun V8 =>
  lt (sI V8 r0 4 (-1)) fun V9 =>
  lt (sI V9 r0 5 0) fun V10 =>
  lt (sI V10 r0 6 (-1)) fun V11 =>
  lt (sI V11 r0 48 3) fun V12 =>
  lt (sI V12 r0 98 0) fun V13 =>
  lt (sI V13 r0 100 0) fun V14 =>
  lt (sI V14 r0 101 0) fun V15 =>
  lt (sI V15 r0 102 0) fun V16 =>
  bd (F_X10_qKind G r0 V16) fun V17 v18 =>
  gd (rg (gI V17 r0 5)) <|
  if (gI V17 r0 5) = 0 then (gd (rg v18) <|
  if 3 ≤ v18 then (F_X10_ask_J99 G r0 x1 v18 V17) else (bd (F_X10_qTest G r0 V17) fun V82 v83 =>
  F_X10_ask_J110 G r0 x1 v18 V82)) else (F_X10_ask_J99 G r0 x1 v18 V17))
noncomputable def B_X10_checked_6 (G : mG) (r0 : Nat) (x1 : Int) (x2 : Int) (x3 : Int) (V : mV) : Option (mV × Nat × Int × Int) :=
  gd (rg x3) <|
  gd (rg x1) <|
  if x1 ≤ x3 then (some (V, 1, (x2, x3))) else (gd (0 ≤ x3 ∧ x3 < ((qG G r0) : Int) ∧ x3 ≤ 2147483647) <|
  gd (rg ((3 * x2) + (gA V r0 x3.toNat))) <|
  lt (((3 * x2) + (gA V r0 x3.toNat)).tmod 251) fun y6 =>
  lt (x3 + 1) fun y7 =>
  some (V, 0, (y6, y7)))
noncomputable def F_X10_checked (G : mG) (r0 : Nat) (x1 : Int) (V : mV) : Option (mV × Int) :=
  bd (lp (fun (s : Int × Int) V => B_X10_checked_6 G r0 x1 s.1 s.2 V) FU (197, 0) V) fun V8 u9 =>
  some (V8, u9.2.1)
noncomputable def F_X10_writes (G : mG) (r0 : Nat) (x1 : Int) (V : mV) : Option (mV × Int) :=
  gd (0 ≤ (gI V r0 108) ∧ (gI V r0 108) < (123 : Int) ∧ (gI V r0 108) ≤ 2147483647) <|
  lt (sA V (r0 + 71) (gI V r0 108).toNat x1) fun V2 =>
  lt (sI V2 r0 108 ((gI V2 r0 108) + 1)) fun V3 =>
  some (V3, 0)
noncomputable def B_X10_image_67 (G : mG) (r0 : Nat) (x1 : Int) (x2 : Int) (V : mV) : Option (mV × Nat × Int) :=
  bd (F_X10_peopleMany G r0 V) fun V28 v29 =>
  gd (rg x2) <|
  gd (rg v29) <|
  if v29 ≤ x2 then (some (V28, 1, x2)) else (bd (F_X10_pointsOf G r0 x1 x2 V28) fun V34 v35 =>
  bd (F_X10_writes G r0 v35 V34) fun V37 v38 =>
  lt (x2 + 1) fun y40 =>
  some (V37, 0, y40))
noncomputable def B_X10_image_35 (G : mG) (r0 : Nat) (x1 : Int) (V : mV) : Option (mV × Nat × Int) :=
  bd (F_X10_peopleMany G r0 V) fun V10 v11 =>
  gd (rg x1) <|
  gd (rg v11) <|
  if v11 ≤ x1 then (some (V10, 1, x1)) else (bd (F_X10_livesNow G r0 x1 V10) fun V16 v17 =>
  bd (F_X10_writes G r0 (v17 + 1) V16) fun V19 v20 =>
  bd (F_X10_watches G r0 x1 V19) fun V22 v23 =>
  bd (F_X10_writes G r0 (v23 + 1) V22) fun V25 v26 =>
  bd (lp (fun (s : Int) V => B_X10_image_67 G r0 x1 s V) FU 0 V25) fun V41 u42 =>
  lt (x1 + 1) fun y45 =>
  some (V41, 0, y45))
noncomputable def F_X10_image (G : mG) (r0 : Nat) (V : mV) : Option (mV × Int) :=
  lt (sI V r0 108 0) fun V1 =>
  gd (rg (gA V1 (r0 + 37) 0)) <|
  bd (F_X10_writes G r0 ((gA V1 (r0 + 37) 0).tdiv 256) V1) fun V3 v4 =>
  gd (rg (gA V3 (r0 + 37) 0)) <|
  bd (F_X10_writes G r0 ((gA V3 (r0 + 37) 0).tmod 256) V3) fun V7 v8 =>
  bd (lp (fun (s : Int) V => B_X10_image_35 G r0 s V) FU 0 V7) fun V46 u47 =>
  bd (F_X10_checked G (r0 + 71) (gI V46 r0 108) V46) fun V50 v51 =>
  bd (F_X10_writes G r0 v51 V50) fun V53 v54 =>
  some (V53, gI V53 r0 108)
noncomputable def F_X10_octet (G : mG) (r0 : Nat) (x1 : Int) (V : mV) : Option (mV × Int) :=
  gd (rg x1) <|
  if x1 < 0 then (some (V, (-1))) else (gd (rg (gI V r0 108)) <|
  if (gI V r0 108) ≤ x1 then (some (V, (-1))) else (gd (0 ≤ x1 ∧ x1 < (123 : Int) ∧ x1 ≤ 2147483647) <|
  some (V, gA V (r0 + 71) x1.toNat)))
noncomputable def B_X10_isPersonTold_75 (G : mG) (r0 : Nat) (x1 : Int) (x2 : Int) (x3 : Int) (x4 : Int) (V : mV) : Option (mV × Nat × Int) :=
  gd (rg x4) <|
  gd (rg x1) <|
  if x1 ≤ x4 then (some (V, 2, x4)) else (gd (0 ≤ x3 ∧ x3 < (1600 : Int) ∧ x3 ≤ 2147483647) <|
  gd (rg (gA V (r0 + 1) x3.toNat)) <|
  if (gA V (r0 + 1) x3.toNat) ≤ 0 then (lt (x4 + 1) fun y32 =>
  some (V, 0, y32)) else (gd (0 ≤ (2 + (x2 * x4)) ∧ (2 + (x2 * x4)) < (1600 : Int) ∧ (2 + (x2 * x4)) ≤ 2147483647) <|
  gd (rg (gA V (r0 + 1) (2 + (x2 * x4)).toNat)) <|
  if (gA V (r0 + 1) (2 + (x2 * x4)).toNat) = (gA V (r0 + 1) x3.toNat) then (some (V, 1, x4)) else (lt (x4 + 1) fun y36 =>
  some (V, 0, y36))))
noncomputable def B_X10_isPersonTold_121 (G : mG) (r0 : Nat) (x1 : Int) (x3 : Int) (x4 : Int) (V : mV) : Option (mV × Nat × Int) :=
  bd (F_X10_peopleMany G r0 V) fun V41 v42 =>
  gd (rg x4) <|
  gd (rg v42) <|
  if v42 ≤ x4 then (some (V41, 2, x4)) else (gd (0 ≤ ((x3 + 2) + x4) ∧ ((x3 + 2) + x4) < (1600 : Int) ∧ ((x3 + 2) + x4) ≤ 2147483647) <|
  gd (rg (gA V41 (r0 + 1) ((x3 + 2) + x4).toNat)) <|
  if (gA V41 (r0 + 1) ((x3 + 2) + x4).toNat) ≤ 99 then (lt (x4 + 1) fun y50 =>
  some (V41, 0, y50)) else (some (V41, 1, x4)))
noncomputable def F_X10_isPersonTold (G : mG) (r0 : Nat) (x1 : Int) (V : mV) : Option (mV × Int) :=
  bd (F_X10_peopleMany G r0 V) fun V1 v2 =>
  lt (2 + v2) fun y4 =>
  lt (2 + (y4 * x1)) fun y5 =>
  gd (0 ≤ y5 ∧ y5 < (1600 : Int) ∧ y5 ≤ 2147483647) <|
  bd (F_X10_peopleMany G r0 V1) fun V7 v8 =>
  gd (rg (gA V1 (r0 + 1) y5.toNat)) <|
  gd (rg v8) <|
  if v8 < (gA V1 (r0 + 1) y5.toNat) then (some (V7, 0)) else (gd (0 ≤ (y5 + 1) ∧ (y5 + 1) < (1600 : Int) ∧ (y5 + 1) ≤ 2147483647) <|
  bd (F_X10_peopleMany G r0 V7) fun V14 v15 =>
  gd (rg (gA V7 (r0 + 1) (y5 + 1).toNat)) <|
  gd (rg v15) <|
  if v15 < (gA V7 (r0 + 1) (y5 + 1).toNat) then (some (V14, 0)) else (gd (rg (gA V14 (r0 + 1) (y5 + 1).toNat)) <|
  gd (rg (x1 + 1)) <|
  if (gA V14 (r0 + 1) (y5 + 1).toNat) = (x1 + 1) then (some (V14, 0)) else (gd (0 ≤ ((y5 + 2) + x1) ∧ ((y5 + 2) + x1) < (1600 : Int) ∧ ((y5 + 2) + x1) ≤ 2147483647) <|
  gd (rg (gA V14 (r0 + 1) ((y5 + 2) + x1).toNat)) <|
  if (gA V14 (r0 + 1) ((y5 + 2) + x1).toNat) = 99 then (bd (lp (fun (s : Int) V => B_X10_isPersonTold_75 G r0 x1 y4 y5 s V) FU 0 V14) fun V37 u38 =>
  if u38.1 = 1 then (some (V37, 0)) else (bd (lp (fun (s : Int) V => B_X10_isPersonTold_121 G r0 x1 y5 s V) FU 0 V37) fun V51 u52 =>
  if u52.1 = 1 then (some (V51, 0)) else (some (V51, 1)))) else (some (V14, 0)))))
noncomputable def B_X10_isTold_67 (G : mG) (r0 : Nat) (x1 : Int) (x3 : Int) (V : mV) : Option (mV × Nat × Int) :=
  bd (F_X10_peopleMany G r0 V) fun V20 v21 =>
  gd (rg x3) <|
  gd (rg v21) <|
  if v21 ≤ x3 then (some (V20, 2, x3)) else (bd (F_X10_isPersonTold G r0 x3 V20) fun V26 v27 =>
  gd (rg v27) <|
  if v27 = 0 then (some (V26, 1, x3)) else (lt (x3 + 1) fun y31 =>
  some (V26, 0, y31)))
noncomputable def F_X10_isTold (G : mG) (r0 : Nat) (x1 : Int) (V : mV) : Option (mV × Int) :=
  bd (F_X10_peopleMany G r0 V) fun V1 v2 =>
  lt (2 + v2) fun y4 =>
  bd (F_X10_peopleMany G r0 V1) fun V5 v6 =>
  gd (rg x1) <|
  gd (rg (3 + (y4 * v6))) <|
  if x1 = (3 + (y4 * v6)) then (gd (0 ≤ (x1 - 1) ∧ (x1 - 1) < (1600 : Int) ∧ (x1 - 1) ≤ 2147483647) <|
  bd (F_X10_checked G (r0 + 1) (x1 - 1) V5) fun V12 v13 =>
  gd (rg (gA V5 (r0 + 1) (x1 - 1).toNat)) <|
  gd (rg v13) <|
  if (gA V5 (r0 + 1) (x1 - 1).toNat) = v13 then (gd (rg ((256 * (gA V12 (r0 + 1) 0)) + (gA V12 (r0 + 1) 1))) <|
  if ((256 * (gA V12 (r0 + 1) 0)) + (gA V12 (r0 + 1) 1)) ≤ 9999 then (bd (lp (fun (s : Int) V => B_X10_isTold_67 G r0 x1 s V) FU 0 V12) fun V32 u33 =>
  if u33.1 = 1 then (some (V32, 0)) else (some (V32, 1))) else (some (V12, 0))) else (some (V12, 0))) else (some (V5, 0))
noncomputable def B_X10_on_111 (G : mG) (r0 : Nat) (x2 : Int) (x3 : Int) (x4 : Int) (V : mV) : Option (mV × Nat × Int) :=
  bd (F_X10_peopleMany G r0 V) fun V26 v27 =>
  gd (rg x4) <|
  gd (rg v27) <|
  if v27 ≤ x4 then (some (V26, 1, x4)) else (gd (0 ≤ ((x3 + 2) + x4) ∧ ((x3 + 2) + x4) < (1600 : Int) ∧ ((x3 + 2) + x4) ≤ 2147483647) <|
  bd (F_X10_knowsNow G r0 x2 x4 (gA V26 (r0 + 1) ((x3 + 2) + x4).toNat) V26) fun V33 v34 =>
  lt (x4 + 1) fun y36 =>
  some (V33, 0, y36))
noncomputable def B_X10_on_55 (G : mG) (r0 : Nat) (x2 : Int) (V : mV) : Option (mV × Nat × Int) :=
  bd (F_X10_peopleMany G r0 V) fun V9 v10 =>
  gd (rg x2) <|
  gd (rg v10) <|
  if v10 ≤ x2 then (some (V9, 1, x2)) else (bd (F_X10_peopleMany G r0 V9) fun V15 v16 =>
  lt (2 + ((2 + v16) * x2)) fun y18 =>
  gd (0 ≤ y18 ∧ y18 < (1600 : Int) ∧ y18 ≤ 2147483647) <|
  bd (F_X10_liveNow G r0 x2 ((gA V15 (r0 + 1) y18.toNat) - 1) V15) fun V20 v21 =>
  gd (0 ≤ (y18 + 1) ∧ (y18 + 1) < (1600 : Int) ∧ (y18 + 1) ≤ 2147483647) <|
  gd (0 ≤ (2 + (12 * x2)) ∧ (2 + (12 * x2)) < (282 : Int) ∧ (2 + (12 * x2)) ≤ 2147483647) <|
  lt (sA V20 (r0 + 37) (2 + (12 * x2)).toNat ((gA V20 (r0 + 1) (y18 + 1).toNat) - 1)) fun V25 =>
  bd (lp (fun (s : Int) V => B_X10_on_111 G r0 x2 y18 s V) FU 0 V25) fun V37 u38 =>
  lt (x2 + 1) fun y41 =>
  some (V37, 0, y41))
noncomputable def F_X10_on (G : mG) (r0 : Nat) (V : mV) : Option (mV × Int) :=
  lt (gI V r0 1) fun y1 =>
  lt (sI V r0 1 0) fun V2 =>
  bd (F_X10_isTold G r0 y1 V2) fun V3 v4 =>
  gd (rg v4) <|
  if v4 = 0 then (lt (sA V3 (r0 + 2) 5 ((gA V3 (r0 + 2) 5) + 1)) fun V48 =>
  some (V48, 0)) else (lt (sA V3 (r0 + 37) 0 ((256 * (gA V3 (r0 + 1) 0)) + (gA V3 (r0 + 1) 1))) fun V8 =>
  bd (lp (fun (s : Int) V => B_X10_on_55 G r0 s V) FU 0 V8) fun V42 u43 =>
  lt (sA V42 (r0 + 37) 121 0) fun V46 =>
  lt (sI V46 r0 69 0) fun V47 =>
  some (V47, 1))
noncomputable def F_X10_status (G : mG) (r0 : Nat) (x1 : Int) (V : mV) : Option (mV × Int) :=
  gd (rg x1) <|
  bd (F_X10_isIn G x1 0 5 V) fun V2 v3 =>
  gd (rg v3) <|
  if v3 = 0 then (some (V2, (-1))) else (gd (0 ≤ x1 ∧ x1 < (6 : Int) ∧ x1 ≤ 2147483647) <|
  some (V2, gA V2 (r0 + 2) x1.toNat))

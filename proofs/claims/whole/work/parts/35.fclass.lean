noncomputable def F_X7_cut (G : mG) (r0 : Nat) (x1 : Int) (V : mV) : Option (mV × Int) :=
  gd (rg x1) <|
  if x1 < 0 then (some (V, 0)) else (gd (rg (gI V r0 1)) <|
  if (gI V r0 1) ≤ x1 then (some (V, 0)) else (lt (sI V r0 1 x1) fun V5 =>
  some (V5, 0)))
noncomputable def F_X7_put (G : mG) (r0 : Nat) (x1 : Int) (x2 : Int) (V : mV) : Option (mV × Int) :=
  gd (rg x1) <|
  if x1 < 0 then (some (V, 0)) else (gd (rg (gI V r0 1)) <|
  if (gI V r0 1) ≤ x1 then (some (V, 0)) else (gd (rg ((qG G (r0 + 1)) : Int)) <|
  if ((qG G (r0 + 1)) : Int) ≤ x1 then (some (V, 0)) else (gd (0 ≤ x1 ∧ x1 < ((qG G (r0 + 1)) : Int) ∧ x1 ≤ 2147483647) <|
  lt (sA V (r0 + 1) x1.toNat x2) fun V8 =>
  some (V8, 0))))
noncomputable def B_X7_fill_19 (G : mG) (r0 : Nat) (x1 : Int) (x2 : Int) (x3 : Int) (V : mV) : Option (mV × Nat × Int) :=
  gd (rg x3) <|
  gd (rg (gI V r0 1)) <|
  if (gI V r0 1) ≤ x3 then (some (V, 1, x3)) else (bd (F_X7_put G r0 x3 x2 V) fun V8 v9 =>
  lt (x3 + 1) fun y11 =>
  some (V8, 0, y11))
noncomputable def F_X7_fill (G : mG) (r0 : Nat) (x1 : Int) (x2 : Int) (V : mV) : Option (mV × Int) :=
  gd (rg x1) <|
  gd (rg (max x1 0)) <|
  gd (rg ((qG G (r0 + 1)) : Int)) <|
  lt (sI V r0 1 (min (max x1 0) ((qG G (r0 + 1)) : Int))) fun V4 =>
  bd (lp (fun (s : Int) V => B_X7_fill_19 G r0 x1 x2 s V) FU 0 V4) fun V12 u13 =>
  some (V12, 0)
noncomputable def F_X0_begin (G : mG) (r0 : Nat) (x1 : Int) (V : mV) : Option (mV × Int) :=
  lt (sI V r0 3 x1) fun V1 =>
  bd (F_X7_fill G (r0 + 1) 100 1000 V1) fun V2 v3 =>
  bd (F_X7_fill G (r0 + 3) 1024 1000 V2) fun V5 v6 =>
  bd (F_X7_cut G (r0 + 5) 0 V5) fun V8 v9 =>
  some (V8, 0)
noncomputable def F_X0_setCost (G : mG) (r0 : Nat) (x1 : Int) (x2 : Int) (x3 : Int) (V : mV) : Option (mV × Int) :=
  bd (F_X7_put G (r0 + 1) ((x1 * 10) + x2) x3 V) fun V1 v2 =>
  some (V1, 0)
noncomputable def F_X7_get (G : mG) (r0 : Nat) (x1 : Int) (V : mV) : Option (mV × Int) :=
  gd (rg x1) <|
  if x1 < 0 then (some (V, (-1))) else (gd (rg (gI V r0 1)) <|
  if (gI V r0 1) ≤ x1 then (some (V, (-1))) else (gd (rg ((qG G (r0 + 1)) : Int)) <|
  if ((qG G (r0 + 1)) : Int) ≤ x1 then (some (V, (-1))) else (gd (0 ≤ x1 ∧ x1 < ((qG G (r0 + 1)) : Int) ∧ x1 ≤ 2147483647) <|
  some (V, gA V (r0 + 1) x1.toNat))))
noncomputable def F_X0_costBy (G : mG) (r0 : Nat) (x1 : Int) (x2 : Int) (x3 : Int) (V : mV) : Option (mV × Int) :=
  bd (F_X7_get G (r0 + 1) ((x2 * 10) + x3) V) fun V1 v2 =>
  gd (0 ≤ x3 ∧ x3 < 32) <|
  gd (0 ≤ x1 ∧ 0 ≤ (shl 1 x3)) <|
  bd (F_X7_get G (r0 + 3) (bor x1 (shl 1 x3)) V1) fun V6 v7 =>
  some (V6, v2 + v7)
noncomputable def B_X0_cheapest_8 (G : mG) (r0 : Nat) (x1 : Int) (x2 : Int) (x3 : Int) (x4 : Int) (x5 : Int) (V : mV) : Option (mV × Nat × Int × Int × Int) :=
  gd (rg x5) <|
  gd (rg (gI V r0 3)) <|
  if (gI V r0 3) ≤ x5 then (some (V, 1, (x3, x4, x5))) else (bd (F_X0_costBy G r0 x1 x2 x5 V) fun V4 v5 =>
  gd (rg x1) <|
  gd (0 ≤ x5 ∧ x5 < 32) <|
  gd (rg ((shr x1 x5) % 2)) <|
  if ((shr x1 x5) % 2) = 0 then (gd (rg x3) <|
  if x3 = (-1) then (lt (x5 + 1) fun y14 =>
  some (V4, 0, (x5, v5, y14))) else (gd (rg v5) <|
  gd (rg x4) <|
  if x4 ≤ v5 then (lt (x5 + 1) fun y18 =>
  some (V4, 0, (x3, x4, y18))) else (lt (x5 + 1) fun y19 =>
  some (V4, 0, (x5, v5, y19))))) else (lt (x5 + 1) fun y11 =>
  some (V4, 0, (x3, x4, y11))))
noncomputable def F_X0_cheapest (G : mG) (r0 : Nat) (x1 : Int) (x2 : Int) (V : mV) : Option (mV × Int) :=
  bd (lp (fun (s : Int × Int × Int) V => B_X0_cheapest_8 G r0 x1 x2 s.1 s.2.1 s.2.2 V) FU ((-1), (-1), 0) V) fun V20 u21 =>
  some (V20, u21.2.1)
noncomputable def F_X7_add (G : mG) (r0 : Nat) (x1 : Int) (V : mV) : Option (mV × Int) :=
  gd (rg (gI V r0 1)) <|
  if (gI V r0 1) < 0 then (some (V, 0)) else (gd (rg ((qG G (r0 + 1)) : Int)) <|
  if ((qG G (r0 + 1)) : Int) ≤ (gI V r0 1) then (some (V, 0)) else (gd (0 ≤ (gI V r0 1) ∧ (gI V r0 1) < ((qG G (r0 + 1)) : Int) ∧ (gI V r0 1) ≤ 2147483647) <|
  lt (sA V (r0 + 1) (gI V r0 1).toNat x1) fun V6 =>
  lt (sI V6 r0 1 ((gI V6 r0 1) + 1)) fun V7 =>
  some (V7, 0)))
noncomputable def B_X0_work_22 (G : mG) (r0 : Nat) (x2 : Int) (V : mV) : Option (mV × Nat × Int) :=
  gd (rg x2) <|
  if x2 < 0 then (some (V, 1, x2)) else (gd (0 ≤ x2 ∧ x2 < 1024) <|
  lt (pct x2) fun y10 =>
  bd (F_X0_cheapest G r0 x2 y10 V) fun V11 v12 =>
  bd (F_X0_costBy G r0 x2 y10 v12 V11) fun V14 v15 =>
  bd (F_X7_put G (r0 + 3) x2 v15 V14) fun V17 v18 =>
  lt (x2 + (-1)) fun y20 =>
  some (V17, 0, y20))
noncomputable def B_X0_work_61 (G : mG) (r0 : Nat) (x2 : Int) (x3 : Int) (V : mV) : Option (mV × Nat × Int × Int) :=
  gd (rg x3) <|
  gd (rg (gI V r0 3)) <|
  if (gI V r0 3) ≤ x3 then (some (V, 1, (x2, x3))) else (bd (F_X0_cheapest G r0 x2 x3 V) fun V28 v29 =>
  bd (F_X7_add G (r0 + 5) v29 V28) fun V31 v32 =>
  gd (0 ≤ v29 ∧ v29 < 32) <|
  gd (0 ≤ x2 ∧ 0 ≤ (shl 1 v29)) <|
  lt (bor x2 (shl 1 v29)) fun y36 =>
  lt (x3 + 1) fun y37 =>
  some (V31, 0, (y36, y37)))
noncomputable def F_X0_work (G : mG) (r0 : Nat) (V : mV) : Option (mV × Int) :=
  gd (0 ≤ (gI V r0 3) ∧ (gI V r0 3) < 32) <|
  lt ((shl 1 (gI V r0 3)) - 1) fun y2 =>
  bd (F_X7_put G (r0 + 3) y2 0 V) fun V3 v4 =>
  lt (y2 - 1) fun y6 =>
  bd (lp (fun (s : Int) V => B_X0_work_22 G r0 s V) FU y6 V3) fun V21 u22 =>
  bd (lp (fun (s : Int × Int) V => B_X0_work_61 G r0 s.1 s.2 V) FU (0, 0) V21) fun V38 u39 =>
  some (V38, 0)
noncomputable def F_X0_cost (G : mG) (r0 : Nat) (V : mV) : Option (mV × Int) :=
  bd (F_X7_get G (r0 + 3) 0 V) fun V1 v2 =>
  some (V1, v2)
noncomputable def F_X0_whoLives (G : mG) (r0 : Nat) (x1 : Int) (V : mV) : Option (mV × Int) :=
  bd (F_X7_get G (r0 + 5) x1 V) fun V1 v2 =>
  some (V1, v2)
noncomputable def F_X3_clear (G : mG) (r0 : Nat) (V : mV) : Option (mV × Int) :=
  bd (F_X7_cut G (r0 + 1) 0 V) fun V1 v2 =>
  some (V1, 0)
noncomputable def F_X1_clear (G : mG) (r0 : Nat) (V : mV) : Option (mV × Int) :=
  bd (F_X7_cut G (r0 + 1) 0 V) fun V1 v2 =>
  bd (F_X7_cut G (r0 + 3) 0 V1) fun V4 v5 =>
  bd (F_X7_cut G (r0 + 5) 0 V4) fun V7 v8 =>
  bd (F_X7_cut G (r0 + 7) 0 V7) fun V10 v11 =>
  bd (F_X7_fill G (r0 + 9) 100 0 V10) fun V13 v14 =>
  bd (F_X7_cut G (r0 + 11) 0 V13) fun V16 v17 =>
  bd (F_X7_cut G (r0 + 13) 0 V16) fun V19 v20 =>
  bd (F_X7_cut G (r0 + 15) 0 V19) fun V22 v23 =>
  bd (F_X7_cut G (r0 + 17) 0 V22) fun V25 v26 =>
  bd (F_X7_cut G (r0 + 19) 0 V25) fun V28 v29 =>
  bd (F_X3_clear G (r0 + 21) V28) fun V31 v32 =>
  bd (F_X3_clear G (r0 + 26) V31) fun V34 v35 =>
  bd (F_X3_clear G (r0 + 31) V34) fun V37 v38 =>
  bd (F_X3_clear G (r0 + 36) V37) fun V40 v41 =>
  lt (sI V40 r0 14 0) fun V43 =>
  some (V43, 0)
noncomputable def B_X7_find_2 (G : mG) (r0 : Nat) (x1 : Int) (x2 : Int) (V : mV) : Option (mV × Nat × Int) :=
  gd (rg x2) <|
  gd (rg (gI V r0 1)) <|
  if (gI V r0 1) ≤ x2 then (some (V, 2, x2)) else (bd (F_X7_get G r0 x2 V) fun V4 v5 =>
  gd (rg v5) <|
  gd (rg x1) <|
  if v5 = x1 then (some (V4, 1, x2)) else (lt (x2 + 1) fun y10 =>
  some (V4, 0, y10)))
noncomputable def F_X7_find (G : mG) (r0 : Nat) (x1 : Int) (V : mV) : Option (mV × Int) :=
  bd (lp (fun (s : Int) V => B_X7_find_2 G r0 x1 s V) FU 0 V) fun V11 u12 =>
  if u12.1 = 1 then (some (V11, u12.2)) else (some (V11, (-1)))
noncomputable def F_X1_hasName (G : mG) (r0 : Nat) (x1 : Int) (V : mV) : Option (mV × Int) :=
  bd (F_X7_find G (r0 + 1) x1 V) fun V1 v2 =>
  gd (rg v2) <|
  if v2 = (-1) then (bd (F_X7_find G (r0 + 11) x1 V1) fun V6 v7 =>
  gd (rg v7) <|
  if v7 = (-1) then (some (V6, 0)) else (some (V6, 1))) else (some (V1, 1))
noncomputable def F_X7_size (G : mG) (r0 : Nat) (V : mV) : Option (mV × Int) :=
  some (V, gI V r0 1)
noncomputable def F_X1_addPerson (G : mG) (r0 : Nat) (x1 : Int) (x2 : Int) (V : mV) : Option (mV × Int) :=
  bd (F_X7_size G (r0 + 1) V) fun V1 v2 =>
  bd (F_X7_add G (r0 + 1) x1 V1) fun V4 v5 =>
  bd (F_X7_add G (r0 + 3) x2 V4) fun V7 v8 =>
  bd (F_X7_add G (r0 + 5) (-1) V7) fun V10 v11 =>
  bd (F_X7_add G (r0 + 7) (-1) V10) fun V13 v14 =>
  bd (F_X7_put G (r0 + 9) ((v2 * 10) + v2) 99 V13) fun V16 v17 =>
  some (V16, 0)
noncomputable def F_X1_addTask (G : mG) (r0 : Nat) (x1 : Int) (x2 : Int) (V : mV) : Option (mV × Int) :=
  bd (F_X7_add G (r0 + 11) x1 V) fun V1 v2 =>
  bd (F_X7_add G (r0 + 13) x2 V1) fun V4 v5 =>
  some (V4, 0)
noncomputable def F_X1_hasDuty_J46_3 (G : mG) (r0 : Nat) (x1 : Int) (x2 : Int) (x3 : Int) (x4 : Int) (s0 : Int) (V : mV) : Option (mV × Nat × Int) :=
  gd (rg s0) <|
  if s0 = 0 then (lt (x4 + 1) fun y15 =>
  some (V, 0, y15)) else (bd (F_X7_get G (r0 + 19) x4 V) fun V16 v17 =>
  gd (rg v17) <|
  gd (rg x3) <|
  if v17 = x3 then (some (V16, 1, x4)) else (lt (x4 + 1) fun y22 =>
  some (V16, 0, y22)))
noncomputable def F_X1_hasDuty_J45_3 (G : mG) (r0 : Nat) (x1 : Int) (x2 : Int) (x3 : Int) (x4 : Int) (V : mV) : Option (mV × Nat × Int) :=
  F_X1_hasDuty_J46_3 G r0 x1 x2 x3 x4 0 V
noncomputable def B_X1_hasDuty_3 (G : mG) (r0 : Nat) (x1 : Int) (x2 : Int) (x3 : Int) (x4 : Int) (V : mV) : Option (mV × Nat × Int) :=
  bd (F_X7_size G (r0 + 15) V) fun V1 v2 =>
  gd (rg x4) <|
  gd (rg v2) <|
  if v2 ≤ x4 then (some (V1, 2, x4)) else (bd (F_X7_get G (r0 + 15) x4 V1) fun V7 v8 =>
  gd (rg v8) <|
  gd (rg x1) <|
  if v8 = x1 then (bd (F_X7_get G (r0 + 17) x4 V7) fun V23 v24 =>
  gd (rg v24) <|
  gd (rg x2) <|
  if v24 = x2 then (F_X1_hasDuty_J46_3 G r0 x1 x2 x3 x4 1 V23) else (F_X1_hasDuty_J45_3 G r0 x1 x2 x3 x4 V23)) else (F_X1_hasDuty_J45_3 G r0 x1 x2 x3 x4 V7))
noncomputable def F_X1_hasDuty (G : mG) (r0 : Nat) (x1 : Int) (x2 : Int) (x3 : Int) (V : mV) : Option (mV × Int) :=
  bd (lp (fun (s : Int) V => B_X1_hasDuty_3 G r0 x1 x2 x3 s V) FU 0 V) fun V29 u30 =>
  if u30.1 = 1 then (some (V29, 1)) else (some (V29, 0))
noncomputable def B_X7_insert_12 (G : mG) (r0 : Nat) (x1 : Int) (x2 : Int) (x3 : Int) (V : mV) : Option (mV × Nat × Int) :=
  gd (rg x3) <|
  gd (rg x1) <|
  if x3 ≤ x1 then (some (V, 1, x3)) else (bd (F_X7_get G r0 (x3 - 1) V) fun V8 v9 =>
  bd (F_X7_put G r0 x3 v9 V8) fun V11 v12 =>
  lt (x3 + (-1)) fun y14 =>
  some (V11, 0, y14))
noncomputable def F_X7_insert (G : mG) (r0 : Nat) (x1 : Int) (x2 : Int) (V : mV) : Option (mV × Int) :=
  bd (F_X7_add G r0 x2 V) fun V1 v2 =>
  lt ((gI V1 r0 1) - 1) fun y4 =>
  bd (lp (fun (s : Int) V => B_X7_insert_12 G r0 x1 x2 s V) FU y4 V1) fun V15 u16 =>
  bd (F_X7_put G r0 x1 x2 V15) fun V19 v20 =>
  some (V19, 0)
noncomputable def B_X1_addDuty_6 (G : mG) (r0 : Nat) (x1 : Int) (x2 : Int) (x3 : Int) (x4 : Int) (x5 : Int) (V : mV) : Option (mV × Nat × Int × Int) :=
  bd (F_X7_size G (r0 + 15) V) fun V1 v2 =>
  gd (rg x5) <|
  gd (rg v2) <|
  if v2 ≤ x5 then (some (V1, 1, (x4, x5))) else (bd (F_X7_get G (r0 + 15) x5 V1) fun V7 v8 =>
  gd (rg v8) <|
  gd (rg x1) <|
  if x1 < v8 then (lt (x5 + 1) fun y13 =>
  some (V7, 0, (x4, y13))) else (lt (x5 + 1) fun y14 =>
  lt (x5 + 1) fun y15 =>
  some (V7, 0, (y14, y15))))
noncomputable def F_X1_addDuty (G : mG) (r0 : Nat) (x1 : Int) (x2 : Int) (x3 : Int) (V : mV) : Option (mV × Int) :=
  bd (lp (fun (s : Int × Int) V => B_X1_addDuty_6 G r0 x1 x2 x3 s.1 s.2 V) FU (0, 0) V) fun V16 u17 =>
  bd (F_X7_insert G (r0 + 15) u17.2.1 x1 V16) fun V20 v21 =>
  bd (F_X7_insert G (r0 + 17) u17.2.1 x2 V20) fun V23 v24 =>
  bd (F_X7_insert G (r0 + 19) u17.2.1 x3 V23) fun V26 v27 =>
  some (V26, 0)
noncomputable def F_X1_sameWard (G : mG) (r0 : Nat) (x1 : Int) (x2 : Int) (V : mV) : Option (mV × Int) :=
  bd (F_X7_get G (r0 + 3) x1 V) fun V1 v2 =>
  bd (F_X7_get G (r0 + 3) x2 V1) fun V4 v5 =>
  gd (rg v2) <|
  gd (rg v5) <|
  if v2 = v5 then (some (V4, 1)) else (some (V4, 0))
noncomputable def F_X2_forgetFailures (G : mG) (r0 : Nat) (V : mV) : Option (mV × Int) :=
  bd (F_X7_fill G (r0 + 5) 2 0 V) fun V1 v2 =>
  bd (F_X7_cut G (r0 + 7) 0 V1) fun V4 v5 =>
  bd (F_X7_fill G (r0 + 9) 10 0 V4) fun V7 v8 =>
  some (V7, 0)
noncomputable def B_X2_sendAway_32 (G : mG) (r0 : Nat) (r1 : Nat) (r2 : Nat) (x3 : Int) (x4 : Int) (V : mV) : Option (mV × Nat × Int) :=
  gd (rg x4) <|
  if 10 ≤ x4 then (some (V, 2, x4)) else (bd (F_X7_get G (r1 + 7) (gI V r0 2) V) fun V13 v14 =>
  gd (rg v14) <|
  if v14 = (-1) then (some (V13, 1, x4)) else (bd (F_X7_get G (r2 + 1) v14 V13) fun V18 v19 =>
  gd (rg v19) <|
  if v19 = v14 then (bd (F_X7_put G (r2 + 1) v14 (gI V18 r0 2) V18) fun V23 v24 =>
  bd (F_X7_add G (r0 + 3) v14 V23) fun V26 v27 =>
  lt (sI V26 r0 2 v14) fun V29 =>
  lt (x4 + 1) fun y30 =>
  some (V29, 0, y30)) else (some (V18, 1, x4))))
noncomputable def F_X2_sendAway (G : mG) (r0 : Nat) (r1 : Nat) (r2 : Nat) (x3 : Int) (V : mV) : Option (mV × Int) :=
  bd (F_X7_cut G (r0 + 3) 0 V) fun V1 v2 =>
  bd (F_X7_get G (r2 + 1) x3 V1) fun V4 v5 =>
  lt (sI V4 r0 2 v5) fun V7 =>
  bd (F_X7_put G (r2 + 1) x3 (-1) V7) fun V8 v9 =>
  bd (lp (fun (s : Int) V => B_X2_sendAway_32 G r0 r1 r2 x3 s V) FU 0 V8) fun V31 u32 =>
  if u32.1 = 1 then (some (V31, 0)) else (some (V31, 0))
noncomputable def F_X3_isTold (G : mG) (r0 : Nat) (V : mV) : Option (mV × Int) :=
  bd (F_X7_size G (r0 + 1) V) fun V1 v2 =>
  gd (rg v2) <|
  if v2 = 0 then (some (V1, 0)) else (some (V1, 1))
noncomputable def F_X3_known (G : mG) (r0 : Nat) (x1 : Int) (V : mV) : Option (mV × Int) :=
  gd (rg x1) <|
  if x1 < 0 then (some (V, 0)) else (if 10 ≤ x1 then (some (V, 0)) else (bd (F_X7_get G r0 (33 + x1) V) fun V4 v5 =>
  some (V4, v5)))
noncomputable def F_X3_held (G : mG) (x0 : Int) (V : mV) : Option (mV × Int) :=
  gd (rl x0) <|
  if x0 ≤ 1000000 then (if (-1000000) ≤ x0 then (some (V, x0)) else (some (V, (-1000000)))) else (some (V, 1000000))
noncomputable def F_X3_worked (G : mG) (x0 : Int) (x1 : Int) (x2 : Int) (V : mV) : Option (mV × Int) :=
  gd (rg x0) <|
  if x0 = 4 then (gd (rg x1) <|
  gd (rg x2) <|
  bd (F_X3_held G (x1 + x2) V) fun V5 v6 =>
  some (V5, v6)) else if x0 = 5 then (gd (rg x1) <|
  gd (rg x2) <|
  bd (F_X3_held G (x1 - x2) V) fun V11 v12 =>
  some (V11, v12)) else if x0 = 6 then (gd (rg x1) <|
  gd (rg x2) <|
  bd (F_X3_held G (x1 * x2) V) fun V17 v18 =>
  some (V17, v18)) else if x0 = 7 then (gd (rg x2) <|
  if x2 = 0 then (some (V, 0)) else (gd (-2147483648 < x1 ∧ x1 ≤ 2147483647) <|
  gd (x2 ≠ 0) <|
  some (V, x1.fdiv x2))) else if x0 = 8 then (gd (rg x1) <|
  gd (rg x2) <|
  some (V, min x1 x2)) else if x0 = 9 then (gd (rg x1) <|
  gd (rg x2) <|
  some (V, max x1 x2)) else if x0 = 10 then (gd (rg x1) <|
  gd (rg x2) <|
  if x2 ≤ x1 then (some (V, 0)) else (some (V, 1))) else if x0 = 11 then (gd (rg x1) <|
  gd (rg x2) <|
  if x1 ≤ x2 then (some (V, 0)) else (some (V, 1))) else if x0 = 12 then (gd (rg x1) <|
  gd (rg x2) <|
  if x1 = x2 then (some (V, 1)) else (some (V, 0))) else if x0 = 13 then (gd (0 ≤ x1 ∧ 0 ≤ x2) <|
  some (V, bnd x1 x2)) else if x0 = 14 then (gd (0 ≤ x1 ∧ 0 ≤ x2) <|
  some (V, bor x1 x2)) else (some (V, 0))
noncomputable def F_X3_value_J75_4 (G : mG) (r0 : Nat) (r1 : Nat) (x2 : Int) (x3 : Int) (s1 : Int) (s2 : Int) (V : mV) : Option (mV × Nat × Int × Int) :=
  bd (F_X7_put G (r0 + 3) s1 s2 V) fun V24 v25 =>
  lt (x3 + 1) fun y27 =>
  some (V24, 0, (x2, y27))
noncomputable def F_X3_value_J51_4 (G : mG) (r0 : Nat) (r1 : Nat) (x2 : Int) (x3 : Int) (x4 : Int) (x5 : Int) (V : mV) : Option (mV × Nat × Int × Int) :=
  lt (x2 + 1) fun y18 =>
  gd (rg x4) <|
  if x4 = 0 then (F_X3_value_J75_4 G r0 r1 y18 x3 y18 x5 V) else (bd (F_X7_get G r1 x5 V) fun V21 v22 =>
  F_X3_value_J75_4 G r0 r1 y18 x3 y18 v22 V21)
noncomputable def B_X3_value_4 (G : mG) (r0 : Nat) (r1 : Nat) (x2 : Int) (x3 : Int) (V : mV) : Option (mV × Nat × Int × Int) :=
  bd (F_X7_size G (r0 + 1) V) fun V1 v2 =>
  gd (rg x3) <|
  gd (rg v2) <|
  if v2 ≤ x3 then (some (V1, 1, (x2, x3))) else (bd (F_X7_get G (r0 + 1) x3 V1) fun V7 v8 =>
  lt (v8 % 16) fun y10 =>
  bd (F_X7_get G (r0 + 1) x3 V7) fun V11 v12 =>
  gd (rg v12) <|
  lt (shr v12 4) fun y15 =>
  gd (rg y10) <|
  if y10 = 0 then (F_X3_value_J51_4 G r0 r1 x2 x3 y10 y15 V11) else (if y10 = 1 then (F_X3_value_J51_4 G r0 r1 x2 x3 y10 y15 V11) else (if y10 = 2 then (bd (F_X7_get G (r0 + 3) x2 V11) fun V52 v53 =>
  bd (F_X3_known G r1 v53 V52) fun V55 v56 =>
  bd (F_X7_put G (r0 + 3) x2 v56 V55) fun V58 v59 =>
  lt (x3 + 1) fun y61 =>
  some (V58, 0, (x2, y61))) else (if y10 = 3 then (bd (F_X7_get G (r0 + 3) x2 V11) fun V45 v46 =>
  bd (F_X7_put G (r0 + 3) x2 (1 - v46) V45) fun V48 v49 =>
  lt (x3 + 1) fun y51 =>
  some (V48, 0, (x2, y51))) else (lt (x2 + (-1)) fun y31 =>
  bd (F_X7_get G (r0 + 3) y31 V11) fun V32 v33 =>
  bd (F_X7_get G (r0 + 3) (y31 + 1) V32) fun V35 v36 =>
  bd (F_X3_worked G y10 v33 v36 V35) fun V38 v39 =>
  bd (F_X7_put G (r0 + 3) y31 v39 V38) fun V41 v42 =>
  lt (x3 + 1) fun y44 =>
  some (V41, 0, (y31, y44)))))))
noncomputable def F_X3_value (G : mG) (r0 : Nat) (r1 : Nat) (V : mV) : Option (mV × Int) :=
  bd (lp (fun (s : Int × Int) V => B_X3_value_4 G r0 r1 s.1 s.2 V) FU ((-1), 0) V) fun V62 u63 =>
  bd (F_X7_get G (r0 + 3) u63.2.1 V62) fun V66 v67 =>
  some (V66, v67)
noncomputable def F_X2_able_J56 (G : mG) (r0 : Nat) (r1 : Nat) (x2 : Int) (x3 : Int) (x4 : Int) (x5 : Int) (s1 : Int) (s2 : Int) (V : mV) : Option (mV × Int) :=
  bd (F_X7_put G (r0 + 1) s1 s2 V) fun V18 v19 =>
  bd (F_X3_value G (r1 + 31) (r0 + 1) V18) fun V21 v22 =>
  gd (rg v22) <|
  if v22 = 0 then (some (V21, 0)) else (some (V21, 1))
noncomputable def F_X2_able (G : mG) (r0 : Nat) (r1 : Nat) (x2 : Int) (x3 : Int) (x4 : Int) (x5 : Int) (V : mV) : Option (mV × Int) :=
  bd (F_X3_isTold G (r1 + 31) V) fun V1 v2 =>
  gd (rg v2) <|
  if v2 = 0 then (some (V1, 1)) else (bd (F_X7_put G (r0 + 1) 14 x5 V1) fun V6 v7 =>
  bd (F_X7_get G (r1 + 13) x4 V6) fun V9 v10 =>
  bd (F_X7_put G (r0 + 1) 3 v10 V9) fun V12 v13 =>
  gd (rg x2) <|
  gd (rg x3) <|
  if x2 = x3 then (F_X2_able_J56 G r0 r1 x2 x3 x4 x5 16 1 V12) else (F_X2_able_J56 G r0 r1 x2 x3 x4 x5 16 0 V12))
noncomputable def F_X4_keep (G : mG) (r0 : Nat) (x1 : Int) (x2 : Int) (x3 : Int) (V : mV) : Option (mV × Int) :=
  gd (rg (gI V r0 5)) <|
  lt (((gI V r0 5).tmod 40) * 4) fun y2 =>
  bd (F_X7_put G (r0 + 7) y2 (gI V r0 0) V) fun V3 v4 =>
  bd (F_X7_put G (r0 + 7) (y2 + 1) x1 V3) fun V6 v7 =>
  bd (F_X7_put G (r0 + 7) (y2 + 2) x2 V6) fun V9 v10 =>
  bd (F_X7_put G (r0 + 7) (y2 + 3) x3 V9) fun V12 v13 =>
  lt (sI V12 r0 5 ((gI V12 r0 5) + 1)) fun V15 =>
  some (V15, 0)
noncomputable def F_X2_fail (G : mG) (r0 : Nat) (r1 : Nat) (x2 : Int) (x3 : Int) (x4 : Int) (V : mV) : Option (mV × Int) :=
  bd (F_X4_keep G r1 x2 x3 x4 V) fun V1 v2 =>
  bd (F_X7_get G (r0 + 5) x2 V1) fun V4 v5 =>
  bd (F_X7_put G (r0 + 5) x2 (v5 + 1) V4) fun V7 v8 =>
  bd (F_X7_size G (r0 + 7) V7) fun V10 v11 =>
  gd (rg v11) <|
  if v11 = 0 then (bd (F_X7_add G (r0 + 7) (gI V10 r1 0) V10) fun V15 v16 =>
  bd (F_X7_add G (r0 + 7) x2 V15) fun V18 v19 =>
  bd (F_X7_add G (r0 + 7) x3 V18) fun V21 v22 =>
  some (V21, 0)) else (some (V10, 0))
noncomputable def F_X2_setKnower (G : mG) (r0 : Nat) (r1 : Nat) (x2 : Int) (x3 : Int) (x4 : Int) (V : mV) : Option (mV × Int) :=
  bd (F_X7_put G (r0 + 1) 14 x4 V) fun V1 v2 =>
  bd (F_X1_sameWard G r1 x2 x3 V1) fun V4 v5 =>
  gd (rg v5) <|
  if v5 = 0 then (bd (F_X7_put G (r0 + 1) 15 0 V4) fun V9 v10 =>
  some (V9, 0)) else (bd (F_X7_put G (r0 + 1) 15 1 V4) fun V12 v13 =>
  some (V12, 0))
noncomputable def F_X4_pointsOf (G : mG) (r0 : Nat) (x1 : Int) (x2 : Int) (V : mV) : Option (mV × Int) :=
  bd (F_X7_get G (r0 + 5) ((x1 * 10) + x2) V) fun V1 v2 =>
  some (V1, v2)
noncomputable def B_X2_noticeAll_3 (G : mG) (r0 : Nat) (r1 : Nat) (r2 : Nat) (x3 : Int) (x4 : Int) (x5 : Int) (V : mV) : Option (mV × Nat × Int) :=
  bd (F_X7_size G (r1 + 1) V) fun V1 v2 =>
  gd (rg x5) <|
  gd (rg v2) <|
  if v2 ≤ x5 then (some (V1, 1, x5)) else (gd (rg x4) <|
  if x5 = x4 then (lt (x5 + 1) fun y9 =>
  some (V1, 0, y9)) else (gd (rg x3) <|
  if x5 = x3 then (lt (x5 + 1) fun y12 =>
  some (V1, 0, y12)) else (bd (F_X7_get G (r2 + 1) x5 V1) fun V13 v14 =>
  gd (rg v14) <|
  if v14 = (-1) then (lt (x5 + 1) fun y18 =>
  some (V13, 0, y18)) else (bd (F_X4_pointsOf G r2 x4 x3 V13) fun V19 v20 =>
  bd (F_X2_setKnower G r0 r1 x5 x3 v20 V19) fun V22 v23 =>
  bd (F_X4_pointsOf G r2 x5 x3 V22) fun V25 v26 =>
  bd (F_X7_put G (r0 + 1) 17 v26 V25) fun V28 v29 =>
  bd (F_X3_value G (r1 + 36) (r0 + 1) V28) fun V31 v32 =>
  gd (rg v32) <|
  if v32 = 0 then (lt (x5 + 1) fun y36 =>
  some (V31, 0, y36)) else (bd (F_X4_keep G r2 2 x3 x5 V31) fun V37 v38 =>
  lt (x5 + 1) fun y40 =>
  some (V37, 0, y40))))))
noncomputable def F_X2_noticeAll (G : mG) (r0 : Nat) (r1 : Nat) (r2 : Nat) (x3 : Int) (x4 : Int) (V : mV) : Option (mV × Int) :=
  bd (lp (fun (s : Int) V => B_X2_noticeAll_3 G r0 r1 r2 x3 x4 s V) FU 0 V) fun V41 u42 =>
  some (V41, 0)
noncomputable def F_X2_meetDuty (G : mG) (r0 : Nat) (r1 : Nat) (r2 : Nat) (x3 : Int) (x4 : Int) (V : mV) : Option (mV × Int) :=
  bd (F_X7_find G (r2 + 1) x3 V) fun V1 v2 =>
  gd (rg v2) <|
  if v2 = (-1) then (bd (F_X2_fail G r0 r2 0 x3 (-1) V1) fun V33 v34 =>
  some (V33, 0)) else (bd (F_X4_pointsOf G r2 v2 x3 V1) fun V6 v7 =>
  bd (F_X2_able G r0 r1 v2 x3 x4 v7 V6) fun V9 v10 =>
  gd (rg v10) <|
  if v10 = 0 then (bd (F_X7_get G (r0 + 9) v2 V9) fun V24 v25 =>
  bd (F_X7_put G (r0 + 9) v2 (v25 + 1) V24) fun V27 v28 =>
  bd (F_X2_fail G r0 r2 1 x3 v2 V27) fun V30 v31 =>
  some (V30, 0)) else (gd (rg x3) <|
  if v2 = x3 then (some (V9, 0)) else (bd (F_X3_isTold G (r1 + 36) V9) fun V16 v17 =>
  gd (rg v17) <|
  if v17 = 0 then (some (V16, 0)) else (bd (F_X2_noticeAll G r0 r1 r2 x3 v2 V16) fun V21 v22 =>
  some (V21, 0)))))
noncomputable def B_X4_goHome_11 (G : mG) (r0 : Nat) (x1 : Int) (x2 : Int) (V : mV) : Option (mV × Nat × Int) :=
  gd (rg x2) <|
  gd (rg x1) <|
  if x1 ≤ x2 then (some (V, 1, x2)) else (bd (F_X7_put G (r0 + 1) x2 x2 V) fun V7 v8 =>
  lt (x2 + 1) fun y10 =>
  some (V7, 0, y10))
noncomputable def F_X4_goHome (G : mG) (r0 : Nat) (x1 : Int) (V : mV) : Option (mV × Int) :=
  bd (F_X7_fill G (r0 + 1) x1 0 V) fun V1 v2 =>
  bd (lp (fun (s : Int) V => B_X4_goHome_11 G r0 x1 s V) FU 0 V1) fun V11 u12 =>
  some (V11, 0)
noncomputable def F_X4_setPoints (G : mG) (r0 : Nat) (x1 : Int) (x2 : Int) (x3 : Int) (V : mV) : Option (mV × Int) :=
  gd (rg x3) <|
  gd (rg (min 99 x3)) <|
  bd (F_X7_put G (r0 + 5) ((x1 * 10) + x2) (max 0 (min 99 x3)) V) fun V3 v4 =>
  some (V3, 0)
noncomputable def B_X2_passNight_36 (G : mG) (r0 : Nat) (r1 : Nat) (r2 : Nat) (x3 : Int) (x4 : Int) (x5 : Int) (V : mV) : Option (mV × Nat × Int) :=
  gd (rg x5) <|
  gd (rg x3) <|
  if x3 ≤ x5 then (some (V, 1, x5)) else (gd (rg x4) <|
  if x5 = x4 then (lt (x5 + 1) fun y20 =>
  some (V, 0, y20)) else (bd (F_X4_pointsOf G r2 x4 x5 V) fun V21 v22 =>
  bd (F_X2_setKnower G r0 r1 x4 x5 v22 V21) fun V24 v25 =>
  bd (F_X3_value G (r1 + 26) (r0 + 1) V24) fun V27 v28 =>
  bd (F_X4_setPoints G r2 x4 x5 v28 V27) fun V30 v31 =>
  lt (x5 + 1) fun y33 =>
  some (V30, 0, y33)))
noncomputable def B_X2_passNight_27 (G : mG) (r0 : Nat) (r1 : Nat) (r2 : Nat) (x3 : Int) (x4 : Int) (V : mV) : Option (mV × Nat × Int) :=
  gd (rg x4) <|
  gd (rg x3) <|
  if x3 ≤ x4 then (some (V, 1, x4)) else (bd (lp (fun (s : Int) V => B_X2_passNight_36 G r0 r1 r2 x3 x4 s V) FU 0 V) fun V34 u35 =>
  lt (x4 + 1) fun y38 =>
  some (V34, 0, y38))
noncomputable def F_X2_passNight (G : mG) (r0 : Nat) (r1 : Nat) (r2 : Nat) (V : mV) : Option (mV × Int) :=
  bd (F_X7_size G (r1 + 1) V) fun V1 v2 =>
  bd (F_X4_goHome G r2 v2 V1) fun V4 v5 =>
  bd (F_X3_isTold G (r1 + 26) V4) fun V7 v8 =>
  gd (rg v8) <|
  if v8 = 0 then (some (V7, 0)) else (bd (lp (fun (s : Int) V => B_X2_passNight_27 G r0 r1 r2 v2 s V) FU 0 V7) fun V39 u40 =>
  some (V39, 0))
noncomputable def F_X2_setTime (G : mG) (r0 : Nat) (x1 : Int) (x2 : Int) (V : mV) : Option (mV × Int) :=
  bd (F_X7_put G (r0 + 1) 12 x1 V) fun V1 v2 =>
  bd (F_X7_put G (r0 + 1) 13 x2 V1) fun V4 v5 =>
  some (V4, 0)
noncomputable def F_X2_learned (G : mG) (r0 : Nat) (r1 : Nat) (x2 : Int) (x3 : Int) (x4 : Int) (x5 : Int) (V : mV) : Option (mV × Int) :=
  bd (F_X3_isTold G (r1 + 21) V) fun V1 v2 =>
  gd (rg v2) <|
  if v2 = 0 then (some (V1, x5)) else (gd (rg x2) <|
  bd (F_X2_setTime G r0 (x2.tmod 24) (x2.tdiv 24) V1) fun V7 v8 =>
  bd (F_X2_setKnower G r0 r1 x3 x4 x5 V7) fun V10 v11 =>
  bd (F_X3_value G (r1 + 21) (r0 + 1) V10) fun V13 v14 =>
  gd (rg v14) <|
  gd (rg (min 99 v14)) <|
  some (V13, max 0 (min 99 v14)))
noncomputable def B_X2_watchAll_3 (G : mG) (r0 : Nat) (r1 : Nat) (r2 : Nat) (x3 : Int) (x4 : Int) (V : mV) : Option (mV × Nat × Int) :=
  bd (F_X7_size G (r1 + 1) V) fun V1 v2 =>
  gd (rg x4) <|
  gd (rg v2) <|
  if v2 ≤ x4 then (some (V1, 1, x4)) else (bd (F_X7_get G (r2 + 1) x4 V1) fun V7 v8 =>
  bd (F_X7_get G (r2 + 3) x4 V7) fun V10 v11 =>
  gd (rg v11) <|
  if v11 = (-1) then (lt (x4 + 1) fun y15 =>
  some (V10, 0, y15)) else (gd (rg v8) <|
  if v8 = (-1) then (lt (x4 + 1) fun y18 =>
  some (V10, 0, y18)) else (gd (rg x3) <|
  gd (0 ≤ v8 ∧ v8 < 32) <|
  gd (rg ((shr x3 v8) % 2)) <|
  if ((shr x3 v8) % 2) = 0 then (bd (F_X4_pointsOf G r2 x4 v11 V10) fun V24 v25 =>
  bd (F_X2_learned G r0 r1 (gI V24 r2 0) x4 v11 v25 V24) fun V27 v28 =>
  bd (F_X4_setPoints G r2 x4 v11 v28 V27) fun V30 v31 =>
  lt (x4 + 1) fun y33 =>
  some (V30, 0, y33)) else (lt (x4 + 1) fun y23 =>
  some (V10, 0, y23)))))
noncomputable def F_X2_watchAll (G : mG) (r0 : Nat) (r1 : Nat) (r2 : Nat) (x3 : Int) (V : mV) : Option (mV × Int) :=
  bd (lp (fun (s : Int) V => B_X2_watchAll_3 G r0 r1 r2 x3 s V) FU 0 V) fun V34 u35 =>
  some (V34, 0)
noncomputable def B_X2_comes_56 (G : mG) (r0 : Nat) (r1 : Nat) (r2 : Nat) (x3 : Int) (x4 : Int) (x5 : Int) (V : mV) : Option (mV × Nat × Int × Int) :=
  bd (F_X7_size G (r1 + 19) V) fun V12 v13 =>
  gd (rg x5) <|
  gd (rg v13) <|
  if v13 ≤ x5 then (some (V12, 1, (x4, x5))) else (bd (F_X7_get G (r1 + 19) x5 V12) fun V18 v19 =>
  gd (rg v19) <|
  gd (rg x3) <|
  if v19 = x3 then (bd (F_X7_get G (r1 + 15) x5 V18) fun V25 v26 =>
  gd (0 ≤ v26 ∧ v26 < 32) <|
  gd (0 ≤ x4 ∧ 0 ≤ (shl 1 v26)) <|
  lt (bor x4 (shl 1 v26)) fun y30 =>
  bd (F_X7_get G (r1 + 15) x5 V25) fun V31 v32 =>
  bd (F_X7_get G (r1 + 17) x5 V31) fun V34 v35 =>
  bd (F_X2_meetDuty G r0 r1 r2 v32 v35 V34) fun V37 v38 =>
  lt (x5 + 1) fun y40 =>
  some (V37, 0, (y30, y40))) else (lt (x5 + 1) fun y24 =>
  some (V18, 0, (x4, y24))))
noncomputable def F_X2_comes_J50 (G : mG) (r0 : Nat) (r1 : Nat) (r2 : Nat) (x3 : Int) (V : mV) : Option (mV × Int) :=
  bd (lp (fun (s : Int × Int) V => B_X2_comes_56 G r0 r1 r2 x3 s.1 s.2 V) FU (0, 0) V) fun V41 u42 =>
  bd (F_X3_isTold G (r1 + 21) V41) fun V45 v46 =>
  gd (rg v46) <|
  if v46 = 0 then (some (V45, 0)) else (bd (F_X2_watchAll G r0 r1 r2 u42.2.1 V45) fun V50 v51 =>
  some (V50, 0))
noncomputable def F_X2_comes (G : mG) (r0 : Nat) (r1 : Nat) (r2 : Nat) (V : mV) : Option (mV × Int) :=
  lt (sI V r2 0 ((gI V r2 0) + 1)) fun V1 =>
  gd (rg (gI V1 r2 0)) <|
  lt ((gI V1 r2 0).tmod 24) fun y3 =>
  bd (F_X2_setTime G r0 y3 ((gI V1 r2 0).tdiv 24) V1) fun V4 v5 =>
  bd (F_X7_fill G (r0 + 9) 10 0 V4) fun V7 v8 =>
  gd (rg y3) <|
  if y3 = 0 then (bd (F_X2_passNight G r0 r1 r2 V7) fun V53 v54 =>
  F_X2_comes_J50 G r0 r1 r2 y3 V53) else (F_X2_comes_J50 G r0 r1 r2 y3 V7)
noncomputable def F_X2_ableNow (G : mG) (r0 : Nat) (r1 : Nat) (r2 : Nat) (x3 : Int) (x4 : Int) (x5 : Int) (x6 : Int) (V : mV) : Option (mV × Int) :=
  gd (rg (gI V r2 0)) <|
  bd (F_X2_setTime G r0 x6 ((gI V r2 0).tdiv 24) V) fun V2 v3 =>
  bd (F_X4_pointsOf G r2 x3 x4 V2) fun V5 v6 =>
  bd (F_X2_able G r0 r1 x3 x4 x5 v6 V5) fun V8 v9 =>
  gd (v9 = 0 ∨ v9 = 1) <|
  some (V8, v9)
noncomputable def B_X2_ableInAll_3 (G : mG) (r0 : Nat) (r1 : Nat) (x2 : Int) (x3 : Int) (x4 : Int) (x5 : Int) (x6 : Int) (V : mV) : Option (mV × Nat × Int) :=
  bd (F_X7_size G (r1 + 15) V) fun V1 v2 =>
  gd (rg x6) <|
  gd (rg v2) <|
  if v2 ≤ x6 then (some (V1, 2, x6)) else (bd (F_X7_get G (r1 + 15) x6 V1) fun V7 v8 =>
  gd (rg v8) <|
  gd (rg x4) <|
  if v8 = x4 then (bd (F_X7_get G (r1 + 19) x6 V7) fun V14 v15 =>
  gd (rg x2) <|
  bd (F_X2_setTime G r0 v15 (x2.tdiv 24) V14) fun V18 v19 =>
  bd (F_X7_get G (r1 + 17) x6 V18) fun V21 v22 =>
  bd (F_X2_able G r0 r1 x3 x4 v22 x5 V21) fun V24 v25 =>
  gd (rg v25) <|
  if v25 = 0 then (some (V24, 1, x6)) else (lt (x6 + 1) fun y29 =>
  some (V24, 0, y29))) else (lt (x6 + 1) fun y13 =>
  some (V7, 0, y13)))
noncomputable def F_X2_ableInAll (G : mG) (r0 : Nat) (r1 : Nat) (x2 : Int) (x3 : Int) (x4 : Int) (x5 : Int) (V : mV) : Option (mV × Int) :=
  bd (lp (fun (s : Int) V => B_X2_ableInAll_3 G r0 r1 x2 x3 x4 x5 s V) FU 0 V) fun V30 u31 =>
  if u31.1 = 1 then (some (V30, 0)) else (some (V30, 1))
noncomputable def B_X2_countAble_6 (G : mG) (r0 : Nat) (r1 : Nat) (r2 : Nat) (x3 : Int) (x4 : Int) (x5 : Int) (x6 : Int) (V : mV) : Option (mV × Nat × Int × Int) :=
  bd (F_X7_size G (r1 + 15) V) fun V1 v2 =>
  gd (rg x6) <|
  gd (rg v2) <|
  if v2 ≤ x6 then (some (V1, 1, (x5, x6))) else (bd (F_X7_get G (r1 + 15) x6 V1) fun V7 v8 =>
  gd (rg v8) <|
  gd (rg x4) <|
  if v8 = x4 then (bd (F_X7_get G (r1 + 17) x6 V7) fun V14 v15 =>
  bd (F_X7_get G (r1 + 19) x6 V14) fun V17 v18 =>
  bd (F_X2_ableNow G r0 r1 r2 x3 x4 v15 v18 V17) fun V20 v21 =>
  gd (rg v21) <|
  if v21 = 0 then (lt (x6 + 1) fun y25 =>
  some (V20, 0, (x5, y25))) else (lt (x5 + 1) fun y26 =>
  lt (x6 + 1) fun y27 =>
  some (V20, 0, (y26, y27)))) else (lt (x6 + 1) fun y13 =>
  some (V7, 0, (x5, y13))))
noncomputable def F_X2_countAble (G : mG) (r0 : Nat) (r1 : Nat) (r2 : Nat) (x3 : Int) (x4 : Int) (V : mV) : Option (mV × Int) :=
  bd (lp (fun (s : Int × Int) V => B_X2_countAble_6 G r0 r1 r2 x3 x4 s.1 s.2 V) FU (0, 0) V) fun V28 u29 =>
  some (V28, u29.2.1)
noncomputable def B_X2_setAskFacts_92 (G : mG) (r0 : Nat) (r1 : Nat) (r2 : Nat) (x3 : Int) (x4 : Int) (x6 : Int) (V : mV) : Option (mV × Nat × Int) :=
  gd (rg x6) <|
  if 10 ≤ x6 then (some (V, 1, x6)) else (gd (rg x4) <|
  if x4 ≤ x6 then (bd (F_X7_put G (r0 + 1) (33 + x6) 0 V) fun V29 v30 =>
  lt (x6 + 1) fun y32 =>
  some (V29, 0, y32)) else (bd (F_X4_pointsOf G r2 x3 x6 V) fun V33 v34 =>
  bd (F_X7_put G (r0 + 1) (33 + x6) v34 V33) fun V36 v37 =>
  lt (x6 + 1) fun y39 =>
  some (V36, 0, y39)))
noncomputable def F_X2_setAskFacts_J69 (G : mG) (r0 : Nat) (r1 : Nat) (r2 : Nat) (x3 : Int) (x4 : Int) (s1 : Int) (s2 : Int) (V : mV) : Option (mV × Int) :=
  bd (F_X7_put G (r0 + 1) s1 s2 V) fun V16 v17 =>
  bd (F_X7_get G (r0 + 9) x3 V16) fun V19 v20 =>
  bd (F_X7_put G (r0 + 1) 32 v20 V19) fun V22 v23 =>
  bd (lp (fun (s : Int) V => B_X2_setAskFacts_92 G r0 r1 r2 x3 x4 s V) FU 0 V22) fun V40 u41 =>
  some (V40, 0)
noncomputable def F_X2_setAskFacts (G : mG) (r0 : Nat) (r1 : Nat) (r2 : Nat) (x3 : Int) (V : mV) : Option (mV × Int) :=
  bd (F_X7_size G (r1 + 1) V) fun V1 v2 =>
  bd (F_X7_get G (r2 + 1) x3 V1) fun V4 v5 =>
  gd (rg (gI V4 r2 0)) <|
  bd (F_X2_setTime G r0 ((gI V4 r2 0).tmod 24) ((gI V4 r2 0).tdiv 24) V4) fun V8 v9 =>
  bd (F_X7_put G (r0 + 1) 30 (gI V8 r2 0) V8) fun V11 v12 =>
  gd (rg v5) <|
  if v5 = (-1) then (F_X2_setAskFacts_J69 G r0 r1 r2 x3 v2 31 99 V11) else (F_X2_setAskFacts_J69 G r0 r1 r2 x3 v2 31 v5 V11)
noncomputable def F_X3_write (G : mG) (r0 : Nat) (x1 : Int) (x2 : Int) (V : mV) : Option (mV × Int) :=
  gd ((0 ≤ (shl x2 4) ∧ 0 ≤ x1) ∨ x1 = -1) <|
  bd (F_X7_add G (r0 + 1) (bo2 (shl x2 4) x1) V) fun V2 v3 =>
  some (V2, 0)
noncomputable def B_X7_copy_18 (G : mG) (r0 : Nat) (r1 : Nat) (x2 : Int) (V : mV) : Option (mV × Nat × Int) :=
  gd (rg x2) <|
  gd (rg (gI V r0 1)) <|
  if (gI V r0 1) ≤ x2 then (some (V, 1, x2)) else (bd (F_X7_get G r1 x2 V) fun V7 v8 =>
  bd (F_X7_put G r0 x2 v8 V7) fun V10 v11 =>
  lt (x2 + 1) fun y13 =>
  some (V10, 0, y13))
noncomputable def F_X7_copy (G : mG) (r0 : Nat) (r1 : Nat) (V : mV) : Option (mV × Int) :=
  gd (rg (gI V r1 1)) <|
  gd (rg ((qG G (r0 + 1)) : Int)) <|
  lt (sI V r0 1 (min (gI V r1 1) ((qG G (r0 + 1)) : Int))) fun V3 =>
  bd (lp (fun (s : Int) V => B_X7_copy_18 G r0 r1 s V) FU 0 V3) fun V14 u15 =>
  some (V14, 0)
noncomputable def F_X4_begin (G : mG) (r0 : Nat) (r1 : Nat) (V : mV) : Option (mV × Int) :=
  bd (F_X7_size G (r1 + 1) V) fun V1 v2 =>
  lt (sI V1 r0 0 0) fun V4 =>
  bd (F_X4_goHome G r0 v2 V4) fun V5 v6 =>
  bd (F_X7_fill G (r0 + 3) v2 (-1) V5) fun V8 v9 =>
  bd (F_X7_copy G (r0 + 5) (r1 + 9) V8) fun V11 v12 =>
  bd (F_X7_fill G (r0 + 7) 160 (-1) V11) fun V14 v15 =>
  lt (sI V14 r0 5 0) fun V17 =>
  some (V17, 0)
noncomputable def F_X4_copy (G : mG) (r0 : Nat) (r1 : Nat) (V : mV) : Option (mV × Int) :=
  lt (sI V r0 0 (gI V r1 0)) fun V1 =>
  bd (F_X7_copy G (r0 + 1) (r1 + 1) V1) fun V2 v3 =>
  bd (F_X7_copy G (r0 + 3) (r1 + 3) V2) fun V5 v6 =>
  bd (F_X7_copy G (r0 + 5) (r1 + 5) V5) fun V8 v9 =>
  bd (F_X7_copy G (r0 + 7) (r1 + 7) V8) fun V11 v12 =>
  lt (sI V11 r0 5 (gI V11 r1 5)) fun V14 =>
  some (V14, 0)
noncomputable def F_X4_keptCount (G : mG) (r0 : Nat) (V : mV) : Option (mV × Int) :=
  gd (rg (gI V r0 5)) <|
  some (V, min (gI V r0 5) 40)
noncomputable def F_X4_keptPart (G : mG) (r0 : Nat) (x1 : Int) (x2 : Int) (V : mV) : Option (mV × Int) :=
  gd (rg x1) <|
  if x1 < 0 then (some (V, (-1))) else (bd (F_X4_keptCount G r0 V) fun V3 v4 =>
  gd (rg v4) <|
  if v4 ≤ x1 then (some (V3, (-1))) else (gd (rg x2) <|
  if x2 < 0 then (some (V3, (-1))) else (if x2 < 4 then (bd (F_X4_keptCount G r0 V3) fun V11 v12 =>
  lt ((gI V3 r0 5) - v12) fun y14 =>
  gd (rg (y14 + x1)) <|
  bd (F_X7_get G (r0 + 7) ((((y14 + x1).tmod 40) * 4) + x2) V11) fun V16 v17 =>
  some (V16, v17)) else (some (V3, (-1))))))
noncomputable def F_X5_size (G : mG) (r0 : Nat) (V : mV) : Option (mV × Int) :=
  some (V, gI V r0 1)
noncomputable def F_X5_clear (G : mG) (r0 : Nat) (V : mV) : Option (mV × Int) :=
  lt (sI V r0 1 0) fun V1 =>
  some (V1, 0)
noncomputable def F_X5_remember (G : mG) (r0 : Nat) (r1 : Nat) (V : mV) : Option (mV × Int) :=
  gd (0 ≤ (gI V r0 2) ∧ (gI V r0 2) < 20) <|
  bd (F_X4_copy G (r0 + 2 + 9 * (gI V r0 2).toNat) r1 V) fun V2 v3 =>
  gd (rg ((gI V2 r0 2) + 1)) <|
  lt (sI V2 r0 2 (((gI V2 r0 2) + 1).tmod 20)) fun V6 =>
  gd (rg ((gI V6 r0 1) + 1)) <|
  lt (sI V6 r0 1 (min ((gI V6 r0 1) + 1) 20)) fun V8 =>
  some (V8, 0)
noncomputable def F_X5_recall (G : mG) (r0 : Nat) (r1 : Nat) (V : mV) : Option (mV × Int) :=
  gd (rg ((gI V r0 2) - 1)) <|
  gd (0 ≤ (((gI V r0 2) - 1) % 20) ∧ (((gI V r0 2) - 1) % 20) < 20) <|
  gd (rg (gI V r0 1)) <|
  if (gI V r0 1) = 0 then (some (V, 0)) else (bd (F_X4_copy G r1 (r0 + 2 + 9 * (((gI V r0 2) - 1) % 20).toNat) V) fun V5 v6 =>
  gd (rg ((gI V5 r0 2) - 1)) <|
  lt (sI V5 r0 2 (((gI V5 r0 2) - 1) % 20)) fun V9 =>
  lt (sI V9 r0 1 ((gI V9 r0 1) - 1)) fun V10 =>
  some (V10, 1))
noncomputable def B_X6_addWords_7 (G : mG) (r0 : Nat) (t1 : Nat) (x2 : Int) (x3 : Int) (x4 : Int) (V : mV) : Option (mV × Nat × Int × Int × Int) :=
  gd (rg x4) <|
  gd (rg (slen t1)) <|
  if (slen t1) ≤ x4 then (some (V, 1, (x2, x3, x4))) else (gd (0 ≤ x4 ∧ x4 < slen t1) <|
  gd (rg (stx t1 x4)) <|
  if (stx t1 x4) = 32 then (bd (F_X7_add G (r0 + 11) x2 V) fun V12 v13 =>
  lt (x4 + 1) fun y15 =>
  some (V12, 0, (0, 0, y15))) else (gd (0 ≤ (5 * x3) ∧ (5 * x3) < 32) <|
  gd (0 ≤ x2 ∧ 0 ≤ (shl (((stx t1 x4) - 97) + 1) (5 * x3))) <|
  lt (bor x2 (shl (((stx t1 x4) - 97) + 1) (5 * x3))) fun y9 =>
  lt (x3 + 1) fun y10 =>
  lt (x4 + 1) fun y11 =>
  some (V, 0, (y9, y10, y11))))
noncomputable def F_X6_addWords (G : mG) (r0 : Nat) (t1 : Nat) (V : mV) : Option (mV × Int) :=
  bd (lp (fun (s : Int × Int × Int) V => B_X6_addWords_7 G r0 t1 s.1 s.2.1 s.2.2 V) FU (0, 0, 0) V) fun V16 u17 =>
  some (V16, 0)
noncomputable def F_X6_put_J15 (G : mG) (r0 : Nat) (x1 : Int) (x2 : Int) (x3 : Int) (x4 : Int) (s0 : Int) (V : mV) : Option (mV × Int) :=
  bd (F_X7_add G (r0 + 1) x1 V) fun V3 v4 =>
  bd (F_X7_add G (r0 + 3) x2 V3) fun V6 v7 =>
  bd (F_X7_add G (r0 + 5) x3 V6) fun V9 v10 =>
  bd (F_X7_add G (r0 + 7) x4 V9) fun V12 v13 =>
  gd (rg s0) <|
  if s0 = 0 then (bd (F_X7_add G (r0 + 9) (-1) V12) fun V17 v18 =>
  some (V17, 0)) else (bd (F_X7_find G (r0 + 11) x4 V12) fun V20 v21 =>
  bd (F_X7_add G (r0 + 9) v21 V20) fun V23 v24 =>
  some (V23, 0))
noncomputable def F_X6_put_J14 (G : mG) (r0 : Nat) (x1 : Int) (x2 : Int) (x3 : Int) (x4 : Int) (V : mV) : Option (mV × Int) :=
  F_X6_put_J15 G r0 x1 x2 x3 x4 0 V
noncomputable def F_X6_put (G : mG) (r0 : Nat) (x1 : Int) (x2 : Int) (x3 : Int) (x4 : Int) (V : mV) : Option (mV × Int) :=
  gd (rg x1) <|
  if x1 = 0 then (gd (rg x3) <|
  if 6 < x3 then (F_X6_put_J14 G r0 x1 x2 x3 x4 V) else (F_X6_put_J15 G r0 x1 x2 x3 x4 1 V)) else (F_X6_put_J14 G r0 x1 x2 x3 x4 V)
noncomputable def F_X6_isDigit (G : mG) (x0 : Int) (V : mV) : Option (mV × Int) :=
  gd (rg x0) <|
  if x0 < 48 then (some (V, 0)) else (if 57 < x0 then (some (V, 0)) else (some (V, 1)))
noncomputable def F_X6_isLetter (G : mG) (x0 : Int) (V : mV) : Option (mV × Int) :=
  gd (rg x0) <|
  if x0 < 97 then (some (V, 0)) else (if 122 < x0 then (some (V, 0)) else (some (V, 1)))
noncomputable def B_X6_scanNumber_5 (G : mG) (r0 : Nat) (r1 : Nat) (x2 : Int) (x3 : Int) (x4 : Int) (V : mV) : Option (mV × Nat × Int × Int) :=
  bd (F_X7_size G r1 V) fun V1 v2 =>
  gd (rg x4) <|
  gd (rg v2) <|
  if v2 ≤ x4 then (some (V1, 1, (x3, x4))) else (bd (F_X7_get G r1 x4 V1) fun V7 v8 =>
  bd (F_X6_isDigit G v8 V7) fun V10 v11 =>
  gd (rg v11) <|
  if v11 = 0 then (some (V10, 1, (x3, x4))) else (gd (rg (x4 - x2)) <|
  if 4 ≤ (x4 - x2) then (lt (x4 + 1) fun y17 =>
  some (V10, 0, (x3, y17))) else (bd (F_X7_get G r1 x4 V10) fun V18 v19 =>
  lt (((10 * x3) + v19) - 48) fun y21 =>
  lt (x4 + 1) fun y22 =>
  some (V18, 0, (y21, y22)))))
noncomputable def F_X6_scanNumber_J74 (G : mG) (r0 : Nat) (r1 : Nat) (x2 : Int) (x3 : Int) (x4 : Int) (s1 : Int) (V : mV) : Option (mV × Int) :=
  bd (F_X6_put G r0 s1 x2 (x4 - x2) x3 V) fun V35 v36 =>
  some (V35, x4)
noncomputable def F_X6_scanNumber_J55 (G : mG) (r0 : Nat) (r1 : Nat) (x2 : Int) (x3 : Int) (x4 : Int) (V : mV) : Option (mV × Int) :=
  bd (F_X7_get G r1 (x2 - 1) V) fun V27 v28 =>
  bd (F_X6_isLetter G v28 V27) fun V30 v31 =>
  gd (rg v31) <|
  if v31 = 0 then (F_X6_scanNumber_J74 G r0 r1 x2 x3 x4 1 V30) else (F_X6_scanNumber_J74 G r0 r1 x2 x3 x4 4 V30)
noncomputable def F_X6_scanNumber (G : mG) (r0 : Nat) (r1 : Nat) (x2 : Int) (V : mV) : Option (mV × Int) :=
  bd (lp (fun (s : Int × Int) V => B_X6_scanNumber_5 G r0 r1 x2 s.1 s.2 V) FU (0, x2) V) fun V23 u24 =>
  F_X6_scanNumber_J55 G r0 r1 x2 u24.2.1 u24.2.2 V23
noncomputable def B_X6_scanWord_5 (G : mG) (r0 : Nat) (r1 : Nat) (x2 : Int) (x3 : Int) (x4 : Int) (V : mV) : Option (mV × Nat × Int × Int) :=
  bd (F_X7_size G r1 V) fun V1 v2 =>
  gd (rg x4) <|
  gd (rg v2) <|
  if v2 ≤ x4 then (some (V1, 1, (x3, x4))) else (bd (F_X7_get G r1 x4 V1) fun V7 v8 =>
  bd (F_X6_isLetter G v8 V7) fun V10 v11 =>
  gd (rg v11) <|
  if v11 = 0 then (some (V10, 1, (x3, x4))) else (gd (rg (x4 - x2)) <|
  if 6 ≤ (x4 - x2) then (lt (x4 + 1) fun y17 =>
  some (V10, 0, (x3, y17))) else (bd (F_X7_get G r1 x4 V10) fun V18 v19 =>
  gd (0 ≤ (5 * (x4 - x2)) ∧ (5 * (x4 - x2)) < 32) <|
  gd (0 ≤ x3 ∧ 0 ≤ (shl ((v19 - 97) + 1) (5 * (x4 - x2)))) <|
  lt (bor x3 (shl ((v19 - 97) + 1) (5 * (x4 - x2)))) fun y23 =>
  lt (x4 + 1) fun y24 =>
  some (V18, 0, (y23, y24)))))
noncomputable def F_X6_scanWord_J81 (G : mG) (r0 : Nat) (r1 : Nat) (x2 : Int) (x3 : Int) (x4 : Int) (s1 : Int) (V : mV) : Option (mV × Int) :=
  bd (F_X6_put G r0 s1 x2 (x4 - x2) x3 V) fun V37 v38 =>
  some (V37, x4)
noncomputable def F_X6_scanWord_J62 (G : mG) (r0 : Nat) (r1 : Nat) (x2 : Int) (x3 : Int) (x4 : Int) (V : mV) : Option (mV × Int) :=
  bd (F_X7_get G r1 (x2 - 1) V) fun V29 v30 =>
  bd (F_X6_isDigit G v30 V29) fun V32 v33 =>
  gd (rg v33) <|
  if v33 = 0 then (F_X6_scanWord_J81 G r0 r1 x2 x3 x4 0 V32) else (F_X6_scanWord_J81 G r0 r1 x2 x3 x4 4 V32)
noncomputable def F_X6_scanWord (G : mG) (r0 : Nat) (r1 : Nat) (x2 : Int) (V : mV) : Option (mV × Int) :=
  bd (lp (fun (s : Int × Int) V => B_X6_scanWord_5 G r0 r1 x2 s.1 s.2 V) FU (0, x2) V) fun V25 u26 =>
  F_X6_scanWord_J62 G r0 r1 x2 u26.2.1 u26.2.2 V25
noncomputable def F_X6_scan (G : mG) (r0 : Nat) (r1 : Nat) (x2 : Int) (V : mV) : Option (mV × Int) :=
  bd (F_X7_get G r1 x2 V) fun V1 v2 =>
  gd (rg v2) <|
  if v2 = 32 then (some (V1, x2 + 1)) else (if v2 = 10 then (some (V1, x2 + 1)) else (bd (F_X6_isLetter G v2 V1) fun V7 v8 =>
  gd (rg v8) <|
  if v8 = 0 then (bd (F_X6_isDigit G v2 V7) fun V12 v13 =>
  gd (rg v13) <|
  if v13 = 0 then (bd (F_X6_put G r0 2 x2 1 v2 V12) fun V17 v18 =>
  some (V17, x2 + 1)) else (bd (F_X6_scanNumber G r0 r1 x2 V12) fun V20 v21 =>
  some (V20, v21))) else (bd (F_X6_scanWord G r0 r1 x2 V7) fun V23 v24 =>
  some (V23, v24))))
noncomputable def B_X6_start_59 (G : mG) (r0 : Nat) (r1 : Nat) (x2 : Int) (x3 : Int) (V : mV) : Option (mV × Nat × Int × Int) :=
  gd (rg x3) <|
  if 1600 ≤ x3 then (some (V, 1, (x2, x3))) else (bd (F_X7_size G r1 V) fun V21 v22 =>
  gd (rg x2) <|
  gd (rg v22) <|
  if v22 ≤ x2 then (some (V21, 1, (x2, x3))) else (bd (F_X6_scan G r0 r1 x2 V21) fun V27 v28 =>
  lt (x3 + 1) fun y30 =>
  some (V27, 0, (v28, y30))))
noncomputable def F_X6_start_J87 (G : mG) (r0 : Nat) (r1 : Nat) (V : mV) : Option (mV × Int) :=
  bd (F_X7_size G r1 V) fun V35 v36 =>
  bd (F_X6_put G r0 3 v36 0 0 V35) fun V38 v39 =>
  some (V38, 0)
noncomputable def F_X6_start (G : mG) (r0 : Nat) (r1 : Nat) (V : mV) : Option (mV × Int) :=
  bd (F_X7_cut G (r0 + 1) 0 V) fun V1 v2 =>
  bd (F_X7_cut G (r0 + 3) 0 V1) fun V4 v5 =>
  bd (F_X7_cut G (r0 + 5) 0 V4) fun V7 v8 =>
  bd (F_X7_cut G (r0 + 7) 0 V7) fun V10 v11 =>
  bd (F_X7_cut G (r0 + 9) 0 V10) fun V13 v14 =>
  lt (sI V13 r0 6 0) fun V16 =>
  lt (sI V16 r0 11 0) fun V17 =>
  lt (sI V17 r0 12 (-1)) fun V18 =>
  bd (lp (fun (s : Int × Int) V => B_X6_start_59 G r0 r1 s.1 s.2 V) FU (0, 0) V18) fun V31 u32 =>
  F_X6_start_J87 G r0 r1 V31
noncomputable def F_X6_fine (G : mG) (r0 : Nat) (V : mV) : Option (mV × Int) :=
  gd (rg (gI V r0 11)) <|
  if (gI V r0 11) = 0 then (some (V, 1)) else (some (V, 0))
noncomputable def F_X6_fail (G : mG) (r0 : Nat) (x1 : Int) (x2 : Int) (V : mV) : Option (mV × Int) :=
  gd (rg (gI V r0 11)) <|
  if (gI V r0 11) = 0 then (lt (sI V r0 11 x1) fun V3 =>
  lt (sI V3 r0 12 x2) fun V4 =>
  some (V4, 0)) else (some (V, 0))
noncomputable def F_X6_here (G : mG) (r0 : Nat) (V : mV) : Option (mV × Int) :=
  bd (F_X7_get G (r0 + 3) (gI V r0 6) V) fun V1 v2 =>
  some (V1, v2)
noncomputable def F_X6_word (G : mG) (r0 : Nat) (V : mV) : Option (mV × Int) :=
  bd (F_X7_get G (r0 + 9) (gI V r0 6) V) fun V1 v2 =>
  some (V1, v2)
noncomputable def F_X6_isSign (G : mG) (r0 : Nat) (x1 : Int) (V : mV) : Option (mV × Int) :=
  bd (F_X6_fine G r0 V) fun V1 v2 =>
  gd (rg v2) <|
  if v2 = 0 then (some (V1, 0)) else (bd (F_X7_get G (r0 + 1) (gI V1 r0 6) V1) fun V6 v7 =>
  gd (rg v7) <|
  if v7 = 2 then (bd (F_X7_get G (r0 + 7) (gI V6 r0 6) V6) fun V11 v12 =>
  gd (rg v12) <|
  gd (rg x1) <|
  if v12 = x1 then (some (V11, 1)) else (some (V11, 0))) else (some (V6, 0)))
noncomputable def F_X6_isWord (G : mG) (r0 : Nat) (x1 : Int) (V : mV) : Option (mV × Int) :=
  bd (F_X6_fine G r0 V) fun V1 v2 =>
  gd (rg v2) <|
  if v2 = 0 then (some (V1, 0)) else (bd (F_X6_word G r0 V1) fun V6 v7 =>
  gd (rg v7) <|
  gd (rg x1) <|
  if v7 = x1 then (some (V6, 1)) else (some (V6, 0)))
noncomputable def F_X6_take (G : mG) (r0 : Nat) (V : mV) : Option (mV × Int) :=
  bd (F_X6_fine G r0 V) fun V1 v2 =>
  gd (rg v2) <|
  if v2 = 0 then (some (V1, 0)) else (bd (F_X7_get G (r0 + 1) (gI V1 r0 6) V1) fun V6 v7 =>
  gd (rg v7) <|
  if v7 = 3 then (some (V6, 0)) else (lt (sI V6 r0 6 ((gI V6 r0 6) + 1)) fun V11 =>
  some (V11, 0)))
noncomputable def F_X6_takeSign (G : mG) (r0 : Nat) (x1 : Int) (V : mV) : Option (mV × Int) :=
  bd (F_X6_isSign G r0 x1 V) fun V1 v2 =>
  gd (rg v2) <|
  if v2 = 0 then (bd (F_X6_here G r0 V1) fun V6 v7 =>
  bd (F_X6_fail G r0 1 v7 V6) fun V9 v10 =>
  some (V9, 0)) else (bd (F_X6_take G r0 V1) fun V12 v13 =>
  some (V12, 0))
noncomputable def F_X6_takeWord (G : mG) (r0 : Nat) (x1 : Int) (V : mV) : Option (mV × Int) :=
  bd (F_X6_isWord G r0 x1 V) fun V1 v2 =>
  gd (rg v2) <|
  if v2 = 0 then (bd (F_X6_here G r0 V1) fun V6 v7 =>
  bd (F_X6_fail G r0 1 v7 V6) fun V9 v10 =>
  some (V9, 0)) else (bd (F_X6_take G r0 V1) fun V12 v13 =>
  some (V12, 0))
noncomputable def F_X6_takeName_J70 (G : mG) (r0 : Nat) (V : mV) : Option (mV × Int) :=
  bd (F_X7_get G (r0 + 7) (gI V r0 6) V) fun V15 v16 =>
  bd (F_X6_take G r0 V15) fun V18 v19 =>
  some (V18, v16)
noncomputable def F_X6_takeName_J30 (G : mG) (r0 : Nat) (V : mV) : Option (mV × Int) :=
  bd (F_X6_here G r0 V) fun V9 v10 =>
  bd (F_X6_fail G r0 1 v10 V9) fun V12 v13 =>
  F_X6_takeName_J70 G r0 V12
noncomputable def F_X6_takeName_J42 (G : mG) (r0 : Nat) (V : mV) : Option (mV × Int) :=
  bd (F_X7_get G (r0 + 5) (gI V r0 6) V) fun V23 v24 =>
  gd (rg v24) <|
  if v24 ≤ 6 then (F_X6_takeName_J70 G r0 V23) else (bd (F_X6_here G r0 V23) fun V28 v29 =>
  bd (F_X6_fail G r0 1 (v29 + 6) V28) fun V31 v32 =>
  F_X6_takeName_J70 G r0 V31)
noncomputable def F_X6_takeName (G : mG) (r0 : Nat) (V : mV) : Option (mV × Int) :=
  bd (F_X6_word G r0 V) fun V1 v2 =>
  bd (F_X7_get G (r0 + 1) (gI V1 r0 6) V1) fun V4 v5 =>
  gd (rg v5) <|
  if v5 = 0 then (gd (rg v2) <|
  if v2 = (-1) then (F_X6_takeName_J42 G r0 V4) else (if 24 ≤ v2 then (F_X6_takeName_J42 G r0 V4) else (F_X6_takeName_J30 G r0 V4))) else (F_X6_takeName_J30 G r0 V4)
noncomputable def F_X6_takeNumber_J80 (G : mG) (r0 : Nat) (x1 : Int) (V : mV) : Option (mV × Int) :=
  bd (F_X7_get G (r0 + 7) (gI V r0 6) V) fun V17 v18 =>
  bd (F_X6_take G r0 V17) fun V20 v21 =>
  some (V20, v18)
noncomputable def F_X6_takeNumber (G : mG) (r0 : Nat) (x1 : Int) (V : mV) : Option (mV × Int) :=
  bd (F_X7_get G (r0 + 1) (gI V r0 6) V) fun V1 v2 =>
  gd (rg v2) <|
  if v2 = 1 then (bd (F_X7_get G (r0 + 5) (gI V1 r0 6) V1) fun V6 v7 =>
  gd (rg v7) <|
  if v7 ≤ 4 then (bd (F_X7_get G (r0 + 7) (gI V6 r0 6) V6) fun V11 v12 =>
  gd (rg v12) <|
  gd (rg x1) <|
  if v12 ≤ x1 then (F_X6_takeNumber_J80 G r0 x1 V11) else (bd (F_X6_here G r0 V11) fun V23 v24 =>
  bd (F_X6_fail G r0 2 v24 V23) fun V26 v27 =>
  F_X6_takeNumber_J80 G r0 x1 V26)) else (bd (F_X6_here G r0 V6) fun V29 v30 =>
  bd (F_X6_fail G r0 1 (v30 + 4) V29) fun V32 v33 =>
  F_X6_takeNumber_J80 G r0 x1 V32)) else (bd (F_X6_here G r0 V1) fun V35 v36 =>
  bd (F_X6_fail G r0 1 v36 V35) fun V38 v39 =>
  F_X6_takeNumber_J80 G r0 x1 V38)
noncomputable def F_X6_takeOpening (G : mG) (r0 : Nat) (x1 : Int) (V : mV) : Option (mV × Int) :=
  gd (rg x1) <|
  if x1 < 6 then (bd (F_X6_take G r0 V) fun V3 v4 =>
  some (V3, 0)) else (bd (F_X6_here G r0 V) fun V6 v7 =>
  bd (F_X6_fail G r0 4 v7 V6) fun V9 v10 =>
  bd (F_X6_take G r0 V9) fun V12 v13 =>
  some (V12, 0))
noncomputable def F_X6_isTooMany (G : mG) (r0 : Nat) (x1 : Int) (V : mV) : Option (mV × Int) :=
  gd (rg x1) <|
  if x1 = 0 then (bd (F_X7_size G (r0 + 1) V) fun V3 v4 =>
  gd (rg v4) <|
  if v4 < 10 then (some (V3, 0)) else (some (V3, 1))) else if x1 = 2 then (bd (F_X7_size G (r0 + 11) V) fun V9 v10 =>
  gd (rg v10) <|
  if v10 < 8 then (some (V9, 0)) else (some (V9, 1))) else if x1 = 4 then (bd (F_X7_size G (r0 + 15) V) fun V15 v16 =>
  gd (rg v16) <|
  if v16 < 24 then (some (V15, 0)) else (some (V15, 1))) else if x1 = 8 then (bd (F_X3_isTold G (r0 + 21) V) fun V21 v22 =>
  gd (v22 = 0 ∨ v22 = 1) <|
  some (V21, v22)) else if x1 = 9 then (bd (F_X3_isTold G (r0 + 26) V) fun V26 v27 =>
  gd (v27 = 0 ∨ v27 = 1) <|
  some (V26, v27)) else if x1 = 10 then (bd (F_X3_isTold G (r0 + 31) V) fun V31 v32 =>
  gd (v32 = 0 ∨ v32 = 1) <|
  some (V31, v32)) else if x1 = 11 then (bd (F_X3_isTold G (r0 + 36) V) fun V36 v37 =>
  gd (v37 = 0 ∨ v37 = 1) <|
  some (V36, v37)) else (some (V, 0))
noncomputable def F_X6_readGiven_J55 (G : mG) (r0 : Nat) (r1 : Nat) (x2 : Int) (x4 : Int) (s1 : Int) (V : mV) : Option (mV × Int) :=
  bd (F_X6_takeNumber G r0 s1 V) fun V22 v23 =>
  bd (F_X6_fine G r0 V22) fun V25 v26 =>
  gd (rg v26) <|
  if v26 = 0 then (some (V25, 0)) else (gd (rg x2) <|
  if x2 = 0 then (bd (F_X1_addPerson G r1 x4 v23 V25) fun V35 v36 =>
  some (V35, 0)) else (bd (F_X1_addTask G r1 x4 v23 V25) fun V32 v33 =>
  some (V32, 0)))
noncomputable def F_X6_readGiven_J40 (G : mG) (r0 : Nat) (r1 : Nat) (x2 : Int) (x4 : Int) (s1 : Int) (V : mV) : Option (mV × Int) :=
  bd (F_X6_takeWord G r0 s1 V) fun V17 v18 =>
  gd (rg x2) <|
  if x2 = 0 then (F_X6_readGiven_J55 G r0 r1 x2 x4 9 V17) else (F_X6_readGiven_J55 G r0 r1 x2 x4 99 V17)
noncomputable def F_X6_readGiven_J30 (G : mG) (r0 : Nat) (r1 : Nat) (x2 : Int) (x4 : Int) (V : mV) : Option (mV × Int) :=
  gd (rg x2) <|
  if x2 = 0 then (F_X6_readGiven_J40 G r0 r1 x2 x4 1 V) else (F_X6_readGiven_J40 G r0 r1 x2 x4 3 V)
noncomputable def F_X6_readGiven (G : mG) (r0 : Nat) (r1 : Nat) (x2 : Int) (V : mV) : Option (mV × Int) :=
  bd (F_X6_take G r0 V) fun V1 v2 =>
  bd (F_X6_here G r0 V1) fun V4 v5 =>
  bd (F_X6_takeName G r0 V4) fun V7 v8 =>
  bd (F_X1_hasName G r1 v8 V7) fun V10 v11 =>
  gd (rg v11) <|
  if v11 = 0 then (F_X6_readGiven_J30 G r0 r1 x2 v8 V10) else (bd (F_X6_fail G r0 3 v5 V10) fun V38 v39 =>
  F_X6_readGiven_J30 G r0 r1 x2 v8 V38)
noncomputable def F_X6_takeKnown (G : mG) (r0 : Nat) (r1 : Nat) (V : mV) : Option (mV × Int) :=
  bd (F_X6_here G r0 V) fun V1 v2 =>
  bd (F_X6_takeName G r0 V1) fun V4 v5 =>
  bd (F_X7_find G r1 v5 V4) fun V7 v8 =>
  gd (rg v8) <|
  if v8 = (-1) then (bd (F_X6_fail G r0 3 v2 V7) fun V12 v13 =>
  some (V12, v8)) else (some (V7, v8))
noncomputable def F_X6_readDuty_J59 (G : mG) (r0 : Nat) (r1 : Nat) (x2 : Int) (x3 : Int) (x5 : Int) (V : mV) : Option (mV × Int) :=
  bd (F_X6_fine G r0 V) fun V24 v25 =>
  gd (rg v25) <|
  if v25 = 0 then (some (V24, 0)) else (bd (F_X1_addDuty G r1 x2 x3 x5 V24) fun V29 v30 =>
  some (V29, 0))
noncomputable def F_X6_readDuty (G : mG) (r0 : Nat) (r1 : Nat) (V : mV) : Option (mV × Int) :=
  bd (F_X6_take G r0 V) fun V1 v2 =>
  bd (F_X6_takeKnown G r0 (r1 + 1) V1) fun V4 v5 =>
  bd (F_X6_takeKnown G r0 (r1 + 11) V4) fun V7 v8 =>
  bd (F_X6_takeWord G r0 5 V7) fun V10 v11 =>
  bd (F_X6_here G r0 V10) fun V13 v14 =>
  bd (F_X6_takeNumber G r0 23 V13) fun V16 v17 =>
  bd (F_X1_hasDuty G r1 v5 v8 v17 V16) fun V19 v20 =>
  gd (rg v20) <|
  if v20 = 0 then (F_X6_readDuty_J59 G r0 r1 v5 v8 v17 V19) else (bd (F_X6_fail G r0 2 v14 V19) fun V32 v33 =>
  F_X6_readDuty_J59 G r0 r1 v5 v8 v17 V32)
noncomputable def F_X6_readCover_J76 (G : mG) (r0 : Nat) (r1 : Nat) (x3 : Int) (x4 : Int) (V : mV) : Option (mV × Int) :=
  bd (F_X6_fine G r0 V) fun V27 v28 =>
  gd (rg v28) <|
  if v28 = 0 then (some (V27, 0)) else (bd (F_X7_put G (r1 + 5) x3 x4 V27) fun V32 v33 =>
  bd (F_X7_put G (r1 + 7) x4 x3 V32) fun V35 v36 =>
  some (V35, 0))
noncomputable def F_X6_readCover_J70 (G : mG) (r0 : Nat) (r1 : Nat) (x2 : Int) (x3 : Int) (x4 : Int) (V : mV) : Option (mV × Int) :=
  bd (F_X6_fail G r0 3 x2 V) fun V24 v25 =>
  F_X6_readCover_J76 G r0 r1 x3 x4 V24
noncomputable def F_X6_readCover_J36 (G : mG) (r0 : Nat) (r1 : Nat) (x3 : Int) (V : mV) : Option (mV × Int) :=
  bd (F_X6_here G r0 V) fun V15 v16 =>
  bd (F_X6_takeKnown G r0 (r1 + 1) V15) fun V18 v19 =>
  gd (rg v19) <|
  gd (rg x3) <|
  if v19 = x3 then (F_X6_readCover_J70 G r0 r1 v16 x3 v19 V18) else (bd (F_X7_get G (r1 + 7) v19 V18) fun V38 v39 =>
  gd (rg v39) <|
  if v39 = (-1) then (F_X6_readCover_J76 G r0 r1 x3 v19 V38) else (F_X6_readCover_J70 G r0 r1 v16 x3 v19 V38))
noncomputable def F_X6_readCover (G : mG) (r0 : Nat) (r1 : Nat) (V : mV) : Option (mV × Int) :=
  bd (F_X6_take G r0 V) fun V1 v2 =>
  bd (F_X6_here G r0 V1) fun V4 v5 =>
  bd (F_X6_takeKnown G r0 (r1 + 1) V4) fun V7 v8 =>
  bd (F_X7_get G (r1 + 5) v8 V7) fun V10 v11 =>
  gd (rg v11) <|
  if v11 = (-1) then (F_X6_readCover_J36 G r0 r1 v8 V10) else (bd (F_X6_fail G r0 3 v5 V10) fun V43 v44 =>
  F_X6_readCover_J36 G r0 r1 v8 V43)
noncomputable def F_X6_readKnowing_J40 (G : mG) (r0 : Nat) (r1 : Nat) (x2 : Int) (x4 : Int) (V : mV) : Option (mV × Int) :=
  bd (F_X6_takeNumber G r0 99 V) fun V16 v17 =>
  bd (F_X6_fine G r0 V16) fun V19 v20 =>
  gd (rg v20) <|
  if v20 = 0 then (some (V19, 0)) else (bd (F_X7_put G (r1 + 9) ((x2 * 10) + x4) v17 V19) fun V24 v25 =>
  some (V24, 0))
noncomputable def F_X6_readKnowing (G : mG) (r0 : Nat) (r1 : Nat) (V : mV) : Option (mV × Int) :=
  bd (F_X6_take G r0 V) fun V1 v2 =>
  bd (F_X6_takeKnown G r0 (r1 + 1) V1) fun V4 v5 =>
  bd (F_X6_here G r0 V4) fun V7 v8 =>
  bd (F_X6_takeKnown G r0 (r1 + 1) V7) fun V10 v11 =>
  gd (rg v11) <|
  gd (rg v5) <|
  if v11 = v5 then (bd (F_X6_fail G r0 3 v8 V10) fun V27 v28 =>
  F_X6_readKnowing_J40 G r0 r1 v5 v11 V27) else (F_X6_readKnowing_J40 G r0 r1 v5 v11 V10)
noncomputable def F_X6_comparison (G : mG) (r0 : Nat) (V : mV) : Option (mV × Int) :=
  bd (F_X6_isSign G r0 60 V) fun V1 v2 =>
  gd (rg v2) <|
  if v2 = 0 then (bd (F_X6_isSign G r0 62 V1) fun V6 v7 =>
  gd (rg v7) <|
  if v7 = 0 then (bd (F_X6_isSign G r0 61 V6) fun V11 v12 =>
  gd (rg v12) <|
  if v12 = 0 then (some (V11, (-1))) else (some (V11, 12))) else (some (V6, 11))) else (some (V1, 10))
noncomputable def B_X7_count_4 (G : mG) (r0 : Nat) (x1 : Int) (x2 : Int) (x3 : Int) (V : mV) : Option (mV × Nat × Int × Int) :=
  gd (rg x3) <|
  gd (rg (gI V r0 1)) <|
  if (gI V r0 1) ≤ x3 then (some (V, 1, (x2, x3))) else (bd (F_X7_get G r0 x3 V) fun V4 v5 =>
  gd (rg v5) <|
  gd (rg x1) <|
  if v5 = x1 then (lt (x2 + 1) fun y11 =>
  lt (x3 + 1) fun y12 =>
  some (V4, 0, (y11, y12))) else (lt (x3 + 1) fun y10 =>
  some (V4, 0, (x2, y10))))
noncomputable def F_X7_count (G : mG) (r0 : Nat) (x1 : Int) (V : mV) : Option (mV × Int) :=
  bd (lp (fun (s : Int × Int) V => B_X7_count_4 G r0 x1 s.1 s.2 V) FU (0, 0) V) fun V13 u14 =>
  some (V13, u14.2.1)
noncomputable def F_X8_init (G : mG) (r0 : Nat) (V : mV) : Option (mV × Int) :=
  lt (sI V r0 1 (-1)) fun V1 =>
  lt (sI V1 r0 2 (-1)) fun V2 =>
  some (V2, 0)
noncomputable def F_X8_count_J86 (G : mG) (r0 : Nat) (x1 : Int) (x2 : Int) (s1 : Int) (V : mV) : Option (mV × Int) :=
  lt (sI V r0 6 s1) fun V13 =>
  lt (sI V13 r0 0 ((gI V13 r0 0) + 1)) fun V14 =>
  some (V14, 0)
noncomputable def F_X8_count_J63 (G : mG) (r0 : Nat) (x1 : Int) (x2 : Int) (s1 : Int) (V : mV) : Option (mV × Int) :=
  lt (sI V r0 5 s1) fun V8 =>
  gd (rg (gI V8 r0 0)) <|
  if (gI V8 r0 0) = 0 then (F_X8_count_J86 G r0 x1 x2 x2 V8) else (gd (rg (gI V8 r0 6)) <|
  gd (rg x2) <|
  F_X8_count_J86 G r0 x1 x2 (min (gI V8 r0 6) x2) V8)
noncomputable def F_X8_count_J32 (G : mG) (r0 : Nat) (x1 : Int) (x2 : Int) (V : mV) : Option (mV × Int) :=
  gd (rg x2) <|
  lt (sJ V r0 4 ((gJ V r0 4) + x2)) fun V4 =>
  gd (rg (gI V4 r0 0)) <|
  if (gI V4 r0 0) = 0 then (F_X8_count_J63 G r0 x1 x2 x2 V4) else (gd (rg (gI V4 r0 5)) <|
  F_X8_count_J63 G r0 x1 x2 (max (gI V4 r0 5) x2) V4)
noncomputable def F_X8_count_J17 (G : mG) (r0 : Nat) (x1 : Int) (x2 : Int) (V : mV) : Option (mV × Int) :=
  lt (sI V r0 2 x1) fun V17 =>
  lt (sI V17 r0 3 ((gI V17 r0 3) + 1)) fun V18 =>
  F_X8_count_J32 G r0 x1 x2 V18
noncomputable def F_X8_count (G : mG) (r0 : Nat) (x1 : Int) (x2 : Int) (V : mV) : Option (mV × Int) :=
  gd (rg x2) <|
  if x2 = 0 then (F_X8_count_J32 G r0 x1 x2 V) else (gd (rg (gI V r0 1)) <|
  if (gI V r0 1) = (-1) then (lt (sI V r0 1 x1) fun V19 =>
  F_X8_count_J17 G r0 x1 x2 V19) else (F_X8_count_J17 G r0 x1 x2 V))
noncomputable def F_X8_answer (G : mG) (r0 : Nat) (x1 : Int) (V : mV) : Option (mV × Int) :=
  gd (rg x1) <|
  if x1 = 24 then (gd (rg (gI V r0 1)) <|
  some (V, gI V r0 1)) else if x1 = 25 then (gd (rg (gI V r0 2)) <|
  some (V, gI V r0 2)) else if x1 = 26 then (gd (rg (gI V r0 3)) <|
  some (V, gI V r0 3)) else if x1 = 27 then (some (V, gJ V r0 4)) else if x1 = 28 then (gd (rg (gI V r0 5)) <|
  some (V, gI V r0 5)) else if x1 = 29 then (gd (rg (gI V r0 6)) <|
  some (V, gI V r0 6)) else (some (V, (-1000000000000000)))
noncomputable def B_X9_feedNumber_3 (G : mG) (r0 : Nat) (x1 : Int) (x2 : Int) (V : mV) : Option (mV × Nat × Int) :=
  gd (rg x2) <|
  if x2 < 0 then (some (V, 1, x2)) else (gd (rg x1) <|
  gd (0 ≤ x2 ∧ x2 < 32) <|
  bd (F_X7_add G (r0 + 1) ((shr x1 x2) % 256) V) fun V5 v6 =>
  lt (x2 + (-8)) fun y8 =>
  some (V5, 0, y8))
noncomputable def F_X9_feedNumber (G : mG) (r0 : Nat) (x1 : Int) (V : mV) : Option (mV × Int) :=
  bd (lp (fun (s : Int) V => B_X9_feedNumber_3 G r0 x1 s V) FU 24 V) fun V9 u10 =>
  some (V9, 0)
noncomputable def F_X9_refuse (G : mG) (r0 : Nat) (x1 : Int) (V : mV) : Option (mV × Int) :=
  bd (F_X7_get G (r0 + 5) x1 V) fun V1 v2 =>
  bd (F_X7_put G (r0 + 5) x1 (v2 + 1) V1) fun V4 v5 =>
  some (V4, (-1))
noncomputable def F_X9_feed (G : mG) (r0 : Nat) (x1 : Int) (x2 : Int) (x3 : Int) (x4 : Int) (x5 : Int) (V : mV) : Option (mV × Int) :=
  bd (F_X7_size G (r0 + 1) V) fun V1 v2 =>
  gd (rg (v2 + 20)) <|
  if (v2 + 20) ≤ 1600 then (bd (F_X9_feedNumber G r0 x1 V1) fun V6 v7 =>
  bd (F_X9_feedNumber G r0 x2 V6) fun V9 v10 =>
  bd (F_X9_feedNumber G r0 x3 V9) fun V12 v13 =>
  bd (F_X9_feedNumber G r0 x4 V12) fun V15 v16 =>
  bd (F_X9_feedNumber G r0 x5 V15) fun V18 v19 =>
  bd (F_X7_size G (r0 + 1) V18) fun V21 v22 =>
  some (V21, v22)) else (bd (F_X9_refuse G r0 0 V1) fun V24 v25 =>
  some (V24, v25))
noncomputable def F_X9_end_J15 (G : mG) (r0 : Nat) (x1 : Int) (V : mV) : Option (mV × Int) :=
  bd (F_X9_refuse G r0 0 V) fun V3 v4 =>
  some (V3, 0)
noncomputable def F_X9_end (G : mG) (r0 : Nat) (x1 : Int) (V : mV) : Option (mV × Int) :=
  gd (rg x1) <|
  if x1 < 0 then (F_X9_end_J15 G r0 x1 V) else (bd (F_X7_size G (r0 + 1) V) fun V6 v7 =>
  gd (rg v7) <|
  if x1 ≤ v7 then (bd (F_X7_cut G (r0 + 1) x1 V6) fun V11 v12 =>
  some (V11, 1)) else (F_X9_end_J15 G r0 x1 V6))
noncomputable def F_X9_fault (G : mG) (r0 : Nat) (x1 : Int) (V : mV) : Option (mV × Int) :=
  gd (rg x1) <|
  if x1 = 0 then (some (V, gI V (r0 + 9) 11)) else (if x1 = 1 then (some (V, gI V (r0 + 9) 12)) else (some (V, (-1))))
noncomputable def F_X9_countAway (G : mG) (r0 : Nat) (V : mV) : Option (mV × Int) :=
  bd (F_X7_count G (r0 + 228) (-1) V) fun V1 v2 =>
  some (V1, v2)
noncomputable def B_X9_countElsewhere_4 (G : mG) (r0 : Nat) (x1 : Int) (x2 : Int) (V : mV) : Option (mV × Nat × Int × Int) :=
  bd (F_X7_size G ((gR G r0 10) + 1) V) fun V1 v2 =>
  gd (rg x2) <|
  gd (rg v2) <|
  if v2 ≤ x2 then (some (V1, 1, (x1, x2))) else (bd (F_X7_get G (r0 + 228) x2 V1) fun V7 v8 =>
  gd (rg v8) <|
  if v8 = (-1) then (lt (x2 + 1) fun y12 =>
  some (V7, 0, (x1, y12))) else (if v8 = x2 then (lt (x2 + 1) fun y14 =>
  some (V7, 0, (x1, y14))) else (lt (x1 + 1) fun y15 =>
  lt (x2 + 1) fun y16 =>
  some (V7, 0, (y15, y16)))))
noncomputable def F_X9_countElsewhere (G : mG) (r0 : Nat) (V : mV) : Option (mV × Int) :=
  bd (lp (fun (s : Int × Int) V => B_X9_countElsewhere_4 G r0 s.1 s.2 V) FU (0, 0) V) fun V17 u18 =>
  some (V17, u18.2.1)
noncomputable def F_X9_has (G : mG) (r0 : Nat) (x1 : Int) (V : mV) : Option (mV × Int) :=
  gd (rg x1) <|
  if x1 = 0 then (bd (F_X7_size G ((gR G r0 10) + 1) V) fun V3 v4 =>
  some (V3, v4)) else if x1 = 1 then (bd (F_X7_size G ((gR G r0 10) + 11) V) fun V7 v8 =>
  some (V7, v8)) else if x1 = 2 then (bd (F_X7_size G ((gR G r0 10) + 15) V) fun V11 v12 =>
  some (V11, v12)) else if x1 = 3 then (some (V, gI V (r0 + 227) 0)) else if x1 = 4 then (bd (F_X9_countAway G r0 V) fun V16 v17 =>
  some (V16, v17)) else if x1 = 5 then (bd (F_X9_countAway G r0 V) fun V20 v21 =>
  some (V20, v21)) else if x1 = 6 then (bd (F_X9_countElsewhere G r0 V) fun V24 v25 =>
  some (V24, v25)) else if x1 = 7 then (bd (F_X4_keptCount G (r0 + 227) V) fun V28 v29 =>
  some (V28, v29)) else if x1 = 8 then (bd (F_X5_size G (r0 + 45) V) fun V32 v33 =>
  some (V32, v33)) else (some (V, (-1)))
noncomputable def F_X9_letter_J11 (G : mG) (r0 : Nat) (x1 : Int) (x2 : Int) (x3 : Int) (V : mV) : Option (mV × Int) :=
  gd (rg x1) <|
  if x1 = 0 then (gd (rg x2) <|
  if x2 < 0 then (some (V, (-1))) else (bd (F_X7_size G ((gR G r0 10) + 1) V) fun V22 v23 =>
  gd (rg v23) <|
  if v23 ≤ x2 then (some (V22, (-1))) else (gd (rg x3) <|
  if x3 < 0 then (some (V22, (-1))) else (if x3 < 6 then (bd (F_X7_get G ((gR G r0 10) + 1) x2 V22) fun V30 v31 =>
  gd (rg v31) <|
  gd (0 ≤ (5 * x3) ∧ (5 * x3) < 32) <|
  some (V30, (shr v31 (5 * x3)) % 32)) else (some (V22, (-1))))))) else (gd (rg x2) <|
  if x2 < 0 then (some (V, (-1))) else (bd (F_X7_size G ((gR G r0 10) + 11) V) fun V7 v8 =>
  gd (rg v8) <|
  if v8 ≤ x2 then (some (V7, (-1))) else (gd (rg x3) <|
  if x3 < 0 then (some (V7, (-1))) else (if x3 < 6 then (bd (F_X7_get G ((gR G r0 10) + 11) x2 V7) fun V15 v16 =>
  gd (rg v16) <|
  gd (0 ≤ (5 * x3) ∧ (5 * x3) < 32) <|
  some (V15, (shr v16 (5 * x3)) % 32)) else (some (V7, (-1)))))))
noncomputable def F_X9_letter (G : mG) (r0 : Nat) (x1 : Int) (x2 : Int) (x3 : Int) (V : mV) : Option (mV × Int) :=
  gd (rg x1) <|
  if x1 = 0 then (F_X9_letter_J11 G r0 x1 x2 x3 V) else (if x1 = 1 then (F_X9_letter_J11 G r0 x1 x2 x3 V) else (some (V, (-1))))
noncomputable def F_X9_isPerson (G : mG) (r0 : Nat) (x1 : Int) (V : mV) : Option (mV × Int) :=
  gd (rg x1) <|
  if x1 < 0 then (some (V, 0)) else (bd (F_X7_size G ((gR G r0 10) + 1) V) fun V3 v4 =>
  gd (rg v4) <|
  if v4 ≤ x1 then (some (V3, 0)) else (some (V3, 1)))
noncomputable def F_X9_person (G : mG) (r0 : Nat) (x1 : Int) (x2 : Int) (V : mV) : Option (mV × Int) :=
  bd (F_X9_isPerson G r0 x1 V) fun V1 v2 =>
  gd (rg v2) <|
  if v2 = 0 then (some (V1, (-1))) else (gd (rg x2) <|
  if x2 = 0 then (bd (F_X7_get G ((gR G r0 10) + 3) x1 V1) fun V8 v9 =>
  some (V8, v9)) else if x2 = 1 then (bd (F_X7_get G (r0 + 228) x1 V1) fun V12 v13 =>
  some (V12, v13)) else if x2 = 2 then (bd (F_X7_get G (r0 + 230) x1 V1) fun V16 v17 =>
  some (V16, v17)) else if x2 = 3 then (bd (F_X7_get G ((gR G r0 10) + 5) x1 V1) fun V20 v21 =>
  some (V20, v21)) else if x2 = 4 then (bd (F_X7_get G ((gR G r0 10) + 7) x1 V1) fun V24 v25 =>
  some (V24, v25)) else if x2 = 5 then (bd (F_X7_count G ((gR G r0 10) + 15) x1 V1) fun V28 v29 =>
  some (V28, v29)) else if x2 = 6 then (bd (F_X7_find G (r0 + 228) x1 V1) fun V32 v33 =>
  some (V32, v33)) else (some (V1, (-1))))
noncomputable def F_X9_points (G : mG) (r0 : Nat) (x1 : Int) (x2 : Int) (V : mV) : Option (mV × Int) :=
  bd (F_X9_isPerson G r0 x1 V) fun V1 v2 =>
  gd (rg v2) <|
  if v2 = 0 then (some (V1, (-1))) else (bd (F_X9_isPerson G r0 x2 V1) fun V6 v7 =>
  gd (rg v7) <|
  if v7 = 0 then (some (V6, (-1))) else (bd (F_X4_pointsOf G (r0 + 227) x1 x2 V6) fun V11 v12 =>
  some (V11, v12)))
noncomputable def F_X9_isClock (G : mG) (r0 : Nat) (x1 : Int) (V : mV) : Option (mV × Int) :=
  gd (rg x1) <|
  if x1 < 0 then (some (V, 0)) else (if 24 ≤ x1 then (some (V, 0)) else (some (V, 1)))
noncomputable def F_X9_isTask (G : mG) (r0 : Nat) (x1 : Int) (V : mV) : Option (mV × Int) :=
  gd (rg x1) <|
  if x1 < 0 then (some (V, 0)) else (bd (F_X7_size G ((gR G r0 10) + 11) V) fun V3 v4 =>
  gd (rg v4) <|
  if v4 ≤ x1 then (some (V3, 0)) else (some (V3, 1)))
noncomputable def F_X9_could (G : mG) (r0 : Nat) (x1 : Int) (x2 : Int) (x3 : Int) (x4 : Int) (V : mV) : Option (mV × Int) :=
  bd (F_X9_isPerson G r0 x1 V) fun V1 v2 =>
  gd (rg v2) <|
  if v2 = 0 then (some (V1, (-1))) else (bd (F_X9_isPerson G r0 x2 V1) fun V6 v7 =>
  gd (rg v7) <|
  if v7 = 0 then (some (V6, (-1))) else (bd (F_X9_isTask G r0 x3 V6) fun V11 v12 =>
  gd (rg v12) <|
  if v12 = 0 then (some (V11, (-1))) else (bd (F_X9_isClock G r0 x4 V11) fun V16 v17 =>
  gd (rg v17) <|
  if v17 = 0 then (some (V16, (-1))) else (bd (F_X2_ableNow G (r0 + 27) (gR G r0 10) (r0 + 227) x1 x2 x3 x4 V16) fun V21 v22 =>
  gd (rg v22) <|
  if v22 = 0 then (some (V21, 0)) else (some (V21, 1))))))
noncomputable def F_X9_kept (G : mG) (r0 : Nat) (x1 : Int) (x2 : Int) (V : mV) : Option (mV × Int) :=
  bd (F_X4_keptPart G (r0 + 227) x1 x2 V) fun V1 v2 =>
  some (V1, v2)
noncomputable def F_X9_isHere (G : mG) (r0 : Nat) (x1 : Int) (V : mV) : Option (mV × Int) :=
  bd (F_X9_isPerson G r0 x1 V) fun V1 v2 =>
  gd (rg v2) <|
  if v2 = 0 then (some (V1, 0)) else (bd (F_X7_get G (r0 + 228) x1 V1) fun V6 v7 =>
  gd (rg v7) <|
  if v7 = (-1) then (some (V6, 0)) else (some (V6, 1)))
noncomputable def F_X9_wave (G : mG) (r0 : Nat) (x1 : Int) (x2 : Int) (V : mV) : Option (mV × Int) :=
  bd (F_X9_isHere G r0 x1 V) fun V1 v2 =>
  gd (rg v2) <|
  if v2 = 0 then (some (V1, (-1))) else (bd (F_X4_copy G (r0 + 236) (r0 + 227) V1) fun V6 v7 =>
  bd (F_X2_sendAway G (r0 + 27) (gR G r0 10) (r0 + 236) x1 V6) fun V9 v10 =>
  gd (rg x2) <|
  if x2 = (-1) then (bd (F_X7_size G (r0 + 30) V9) fun V18 v19 =>
  some (V18, v19)) else (if x2 = 20 then (some (V9, gI V9 (r0 + 27) 2)) else (bd (F_X7_get G (r0 + 30) x2 V9) fun V15 v16 =>
  some (V15, v16))))
noncomputable def B_X9_bring_2 (G : mG) (r0 : Nat) (r1 : Nat) (x2 : Int) (x3 : Int) (V : mV) : Option (mV × Nat × Int) :=
  gd (rg x3) <|
  gd (rg x2) <|
  if x2 ≤ x3 then (some (V, 1, x3)) else (bd (F_X2_comes G (r0 + 27) (gR G r0 10) r1 V) fun V4 v5 =>
  lt (x3 + 1) fun y7 =>
  some (V4, 0, y7))
noncomputable def F_X9_bring (G : mG) (r0 : Nat) (r1 : Nat) (x2 : Int) (V : mV) : Option (mV × Int) :=
  bd (lp (fun (s : Int) V => B_X9_bring_2 G r0 r1 x2 s V) FU 0 V) fun V8 u9 =>
  some (V8, 0)
noncomputable def F_X9_would_J19 (G : mG) (r0 : Nat) (x1 : Int) (x2 : Int) (V : mV) : Option (mV × Int) :=
  bd (F_X4_copy G (r0 + 236) (r0 + 227) V) fun V8 v9 =>
  bd (F_X2_forgetFailures G (r0 + 27) V8) fun V11 v12 =>
  bd (F_X2_sendAway G (r0 + 27) (gR G r0 10) (r0 + 236) x1 V11) fun V14 v15 =>
  gd (rg (gI V14 (r0 + 227) 0)) <|
  gd (rg (23 - ((gI V14 (r0 + 227) 0).tmod 24))) <|
  gd (rg (9999 - (gI V14 (r0 + 227) 0))) <|
  lt (min (23 - ((gI V14 (r0 + 227) 0).tmod 24)) (9999 - (gI V14 (r0 + 227) 0))) fun y20 =>
  bd (F_X9_bring G r0 (r0 + 236) y20 V14) fun V21 v22 =>
  bd (F_X7_get G (r0 + 32) x2 V21) fun V24 v25 =>
  some (V24, v25)
noncomputable def F_X9_would (G : mG) (r0 : Nat) (x1 : Int) (x2 : Int) (V : mV) : Option (mV × Int) :=
  bd (F_X9_isHere G r0 x1 V) fun V1 v2 =>
  gd (rg v2) <|
  if v2 = 0 then (some (V1, (-1))) else (gd (rg x2) <|
  if x2 = 0 then (F_X9_would_J19 G r0 x1 x2 V1) else (if x2 = 1 then (F_X9_would_J19 G r0 x1 x2 V1) else (some (V1, (-1)))))
noncomputable def B_X9_first_31 (G : mG) (r0 : Nat) (x1 : Int) (x2 : Int) (V : mV) : Option (mV × Nat × Int) :=
  gd (rg x2) <|
  if 72 < x2 then (some (V, 2, x2)) else (gd (rg (gI V (r0 + 236) 0)) <|
  if 9999 ≤ (gI V (r0 + 236) 0) then (some (V, 2, x2)) else (bd (F_X2_comes G (r0 + 27) (gR G r0 10) (r0 + 236) V) fun V14 v15 =>
  bd (F_X7_size G (r0 + 34) V14) fun V17 v18 =>
  gd (rg v18) <|
  if v18 = 0 then (lt (x2 + 1) fun y22 =>
  some (V17, 0, y22)) else (some (V17, 1, x2))))
noncomputable def F_X9_first (G : mG) (r0 : Nat) (x1 : Int) (V : mV) : Option (mV × Int) :=
  gd (rg x1) <|
  if x1 < 0 then (some (V, (-1))) else (if x1 ≤ 2 then (bd (F_X4_copy G (r0 + 236) (r0 + 227) V) fun V4 v5 =>
  bd (F_X2_forgetFailures G (r0 + 27) V4) fun V7 v8 =>
  bd (lp (fun (s : Int) V => B_X9_first_31 G r0 x1 s V) FU 1 V7) fun V23 u24 =>
  if u24.1 = 1 then (bd (F_X7_get G (r0 + 34) x1 V23) fun V27 v28 =>
  some (V27, v28)) else (some (V23, (-1)))) else (some (V, (-1))))
noncomputable def F_X9_best_J70_27 (G : mG) (r0 : Nat) (x1 : Int) (x2 : Int) (x3 : Int) (x4 : Int) (x5 : Int) (s0 : Int) (V : mV) : Option (mV × Nat × Int × Int × Int) :=
  gd (rg s0) <|
  gd (rg x4) <|
  if s0 ≤ x4 then (lt (x5 + 1) fun y22 =>
  some (V, 0, (x3, x4, y22))) else (lt (x5 + 1) fun y23 =>
  some (V, 0, (x5, s0, y23)))
noncomputable def B_X9_best_27 (G : mG) (r0 : Nat) (x1 : Int) (x2 : Int) (x3 : Int) (x4 : Int) (x5 : Int) (V : mV) : Option (mV × Nat × Int × Int × Int) :=
  bd (F_X7_size G ((gR G r0 10) + 1) V) fun V8 v9 =>
  gd (rg x5) <|
  gd (rg v9) <|
  if v9 ≤ x5 then (some (V8, 1, (x3, x4, x5))) else (gd (rg x1) <|
  if x5 = x1 then (F_X9_best_J70_27 G r0 x1 x2 x3 x4 x5 (-1) V8) else (bd (F_X2_countAble G (r0 + 27) (gR G r0 10) (r0 + 227) x5 x1 V8) fun V16 v17 =>
  F_X9_best_J70_27 G r0 x1 x2 x3 x4 x5 v17 V16))
noncomputable def F_X9_best_J19 (G : mG) (r0 : Nat) (x1 : Int) (x2 : Int) (V : mV) : Option (mV × Int) :=
  bd (lp (fun (s : Int × Int × Int) V => B_X9_best_27 G r0 x1 x2 s.1 s.2.1 s.2.2 V) FU ((-1), (-1), 0) V) fun V24 u25 =>
  gd (rg x2) <|
  if x2 = 0 then (some (V24, u25.2.1)) else (some (V24, u25.2.2.1))
noncomputable def F_X9_best (G : mG) (r0 : Nat) (x1 : Int) (x2 : Int) (V : mV) : Option (mV × Int) :=
  bd (F_X9_isPerson G r0 x1 V) fun V1 v2 =>
  gd (rg v2) <|
  if v2 = 0 then (some (V1, (-1))) else (gd (rg x2) <|
  if x2 = 0 then (F_X9_best_J19 G r0 x1 x2 V1) else (if x2 = 1 then (F_X9_best_J19 G r0 x1 x2 V1) else (some (V1, (-1)))))
noncomputable def B_X9_study_36 (G : mG) (r0 : Nat) (x1 : Int) (x2 : Int) (x3 : Int) (x4 : Int) (V : mV) : Option (mV × Nat × Int × Int) :=
  gd (rg x4) <|
  if 99 < x4 then (some (V, 2, (x3, x4))) else (bd (F_X2_ableInAll G (r0 + 27) (gR G r0 10) (gI V (r0 + 227) 0) x1 x2 x3 V) fun V19 v20 =>
  gd (rg v20) <|
  if v20 = 0 then (bd (F_X2_learned G (r0 + 27) (gR G r0 10) (gI V19 (r0 + 227) 0) x1 x2 x3 V19) fun V24 v25 =>
  lt (x4 + 1) fun y27 =>
  some (V24, 0, (v25, y27))) else (some (V19, 1, (x3, x4))))
noncomputable def F_X9_study (G : mG) (r0 : Nat) (x1 : Int) (x2 : Int) (V : mV) : Option (mV × Int) :=
  bd (F_X9_isPerson G r0 x1 V) fun V1 v2 =>
  gd (rg v2) <|
  if v2 = 0 then (some (V1, (-1))) else (bd (F_X9_isPerson G r0 x2 V1) fun V6 v7 =>
  gd (rg v7) <|
  if v7 = 0 then (some (V6, (-1))) else (gd (rg x1) <|
  gd (rg x2) <|
  if x1 = x2 then (some (V6, (-1))) else (bd (F_X4_pointsOf G (r0 + 227) x1 x2 V6) fun V14 v15 =>
  bd (lp (fun (s : Int × Int) V => B_X9_study_36 G r0 x1 x2 s.1 s.2 V) FU (v15, 0) V14) fun V28 u29 =>
  if u29.1 = 1 then (some (V28, u29.2.2)) else (some (V28, (-1))))))
noncomputable def B_X9_change_62 (G : mG) (r0 : Nat) (x1 : Int) (x2 : Int) (x3 : Int) (x4 : Int) (x5 : Int) (V : mV) : Option (mV × Nat × Int) :=
  gd (rg x5) <|
  gd (rg x2) <|
  if x2 ≤ x5 then (some (V, 1, x5)) else (gd (rg x3) <|
  if x5 = x3 then (lt (x5 + 1) fun y22 =>
  some (V, 0, y22)) else (bd (F_X2_countAble G (r0 + 27) (gR G r0 10) (r0 + 227) x5 x3 V) fun V23 v24 =>
  bd (F_X0_setCost G (r0 + 38) x3 x5 (x4 - v24) V23) fun V26 v27 =>
  lt (x5 + 1) fun y29 =>
  some (V26, 0, y29)))
noncomputable def B_X9_change_41 (G : mG) (r0 : Nat) (x1 : Int) (x2 : Int) (x3 : Int) (V : mV) : Option (mV × Nat × Int) :=
  gd (rg x3) <|
  gd (rg x2) <|
  if x2 ≤ x3 then (some (V, 1, x3)) else (bd (F_X7_count G ((gR G r0 10) + 15) x3 V) fun V14 v15 =>
  bd (lp (fun (s : Int) V => B_X9_change_62 G r0 x1 x2 x3 v15 s V) FU 0 V14) fun V30 u31 =>
  lt (x3 + 1) fun y34 =>
  some (V30, 0, y34))
noncomputable def F_X9_change_J31 (G : mG) (r0 : Nat) (x1 : Int) (x2 : Int) (V : mV) : Option (mV × Int) :=
  bd (F_X0_begin G (r0 + 38) x2 V) fun V8 v9 =>
  bd (lp (fun (s : Int) V => B_X9_change_41 G r0 x1 x2 s V) FU 0 V8) fun V35 u36 =>
  bd (F_X0_work G (r0 + 38) V35) fun V39 v40 =>
  gd (rg x1) <|
  if x1 = (-1) then (bd (F_X0_cost G (r0 + 38) V39) fun V47 v48 =>
  some (V47, v48)) else (bd (F_X0_whoLives G (r0 + 38) x1 V39) fun V44 v45 =>
  some (V44, v45))
noncomputable def F_X9_change (G : mG) (r0 : Nat) (x1 : Int) (V : mV) : Option (mV × Int) :=
  bd (F_X7_size G ((gR G r0 10) + 1) V) fun V1 v2 =>
  gd (rg v2) <|
  if v2 < 2 then (some (V1, (-1))) else (gd (rg x1) <|
  if x1 = (-1) then (F_X9_change_J31 G r0 x1 v2 V1) else (bd (F_X9_isPerson G r0 x1 V1) fun V50 v51 =>
  gd (rg v51) <|
  if v51 = 0 then (some (V50, (-1))) else (F_X9_change_J31 G r0 x1 v2 V50)))
noncomputable def B_X9_ring_14 (G : mG) (r0 : Nat) (x1 : Int) (x2 : Int) (x3 : Int) (V : mV) : Option (mV × Nat × Int × Int) :=
  gd (rg x3) <|
  if 10 < x3 then (some (V, 2, (x2, x3))) else (gd (rg x2) <|
  if x2 = (-1) then (some (V, 2, (x2, x3))) else (bd (F_X7_get G ((gR G r0 10) + 5) x2 V) fun V10 v11 =>
  gd (rg v11) <|
  gd (rg x1) <|
  if v11 = x1 then (some (V10, 1, (v11, x3))) else (lt (x3 + 1) fun y16 =>
  some (V10, 0, (v11, y16)))))
noncomputable def F_X9_ring (G : mG) (r0 : Nat) (x1 : Int) (V : mV) : Option (mV × Int) :=
  bd (F_X9_isPerson G r0 x1 V) fun V1 v2 =>
  gd (rg v2) <|
  if v2 = 0 then (some (V1, (-1))) else (bd (lp (fun (s : Int × Int) V => B_X9_ring_14 G r0 x1 s.1 s.2 V) FU (x1, 1) V1) fun V17 u18 =>
  if u18.1 = 1 then (some (V17, u18.2.2)) else (some (V17, 0)))
noncomputable def B_X9_odds_52 (G : mG) (r0 : Nat) (x1 : Int) (x2 : Int) (x3 : Int) (x4 : Int) (x5 : Int) (x6 : Int) (V : mV) : Option (mV × Nat × Int × Int) :=
  gd (rg x6) <|
  gd (rg x4) <|
  if x4 ≤ x6 then (some (V, 1, (x5, x6))) else (bd (F_X4_goHome G (r0 + 236) x4 V) fun V23 v24 =>
  bd (F_X2_sendAway G (r0 + 27) (gR G r0 10) (r0 + 236) x6 V23) fun V26 v27 =>
  bd (F_X7_get G (r0 + 237) x1 V26) fun V29 v30 =>
  gd (rg v30) <|
  gd (rg x2) <|
  if v30 = x2 then (lt (x6 + 1) fun y35 =>
  some (V29, 0, (x5, y35))) else (lt (x5 + 1) fun y36 =>
  lt (x6 + 1) fun y37 =>
  some (V29, 0, (y36, y37))))
noncomputable def B_X9_odds_118 (G : mG) (r0 : Nat) (x1 : Int) (x2 : Int) (x3 : Int) (x4 : Int) (x5 : Int) (x6 : Int) (x7 : Int) (x8 : Int) (V : mV) : Option (mV × Nat × Int × Int × Int) :=
  gd (rg x8) <|
  gd (rg x3) <|
  if x3 ≤ x8 then (some (V, 1, (x6, x7, x8))) else (lt (x6 * x4) fun y45 =>
  lt (x7 * x5) fun y46 =>
  lt (x8 + 1) fun y47 =>
  some (V, 0, (y45, y46, y47)))
noncomputable def F_X9_odds (G : mG) (r0 : Nat) (x1 : Int) (x2 : Int) (x3 : Int) (V : mV) : Option (mV × Int) :=
  bd (F_X9_isPerson G r0 x1 V) fun V1 v2 =>
  gd (rg v2) <|
  if v2 = 0 then (some (V1, (-1))) else (bd (F_X9_isPerson G r0 x2 V1) fun V6 v7 =>
  gd (rg v7) <|
  if v7 = 0 then (some (V6, (-1))) else (gd (rg x1) <|
  gd (rg x2) <|
  if x1 = x2 then (some (V6, (-1))) else (gd (rg x3) <|
  if x3 < 0 then (some (V6, (-1))) else (if x3 ≤ 4 then (bd (F_X7_size G ((gR G r0 10) + 1) V6) fun V17 v18 =>
  bd (lp (fun (s : Int × Int) V => B_X9_odds_52 G r0 x1 x2 x3 v18 s.1 s.2 V) FU (0, 0) V17) fun V38 u39 =>
  bd (lp (fun (s : Int × Int × Int) V => B_X9_odds_118 G r0 x1 x2 x3 v18 u39.2.1 s.1 s.2.1 s.2.2 V) FU (1, 1, 0) V38) fun V48 u49 =>
  gd (rg u49.2.1) <|
  if u49.2.1 ≤ 0 then (some (V48, (-1))) else (gd (rg ((u49.2.1 - u49.2.2.1) * 1000)) <|
  gd (u49.2.1 ≠ 0) <|
  some (V48, ((u49.2.1 - u49.2.2.1) * 1000).tdiv u49.2.1))) else (some (V6, (-1)))))))
noncomputable def F_X9_go_J27 (G : mG) (r0 : Nat) (x1 : Int) (V : mV) : Option (mV × Int) :=
  bd (F_X9_refuse G r0 2 V) fun V3 v4 =>
  some (V3, v4)
noncomputable def F_X9_go (G : mG) (r0 : Nat) (x1 : Int) (V : mV) : Option (mV × Int) :=
  gd (rg x1) <|
  if x1 < 1 then (F_X9_go_J27 G r0 x1 V) else (if 500 < x1 then (F_X9_go_J27 G r0 x1 V) else (gd (rg (9999 - (gI V (r0 + 227) 0))) <|
  if x1 ≤ (9999 - (gI V (r0 + 227) 0)) then (bd (F_X5_remember G (r0 + 45) (r0 + 227) V) fun V9 v10 =>
  bd (F_X9_bring G r0 (r0 + 227) x1 V9) fun V12 v13 =>
  some (V12, gI V12 (r0 + 227) 0)) else (F_X9_go_J27 G r0 x1 V)))
noncomputable def F_X9_call (G : mG) (r0 : Nat) (x1 : Int) (V : mV) : Option (mV × Int) :=
  bd (F_X9_isHere G r0 x1 V) fun V1 v2 =>
  gd (rg v2) <|
  if v2 = 0 then (bd (F_X9_refuse G r0 2 V1) fun V15 v16 =>
  some (V15, v16)) else (bd (F_X5_remember G (r0 + 45) (r0 + 227) V1) fun V6 v7 =>
  bd (F_X2_sendAway G (r0 + 27) (gR G r0 10) (r0 + 227) x1 V6) fun V9 v10 =>
  bd (F_X7_size G (r0 + 30) V9) fun V12 v13 =>
  some (V12, v13))
noncomputable def F_X9_watch_J51 (G : mG) (r0 : Nat) (x1 : Int) (x2 : Int) (V : mV) : Option (mV × Int) :=
  bd (F_X9_refuse G r0 3 V) fun V8 v9 =>
  some (V8, 0)
noncomputable def F_X9_watch_J31 (G : mG) (r0 : Nat) (x1 : Int) (x2 : Int) (s0 : Int) (V : mV) : Option (mV × Int) :=
  gd (rg s0) <|
  if s0 = 0 then (F_X9_watch_J51 G r0 x1 x2 V) else (bd (F_X7_get G (r0 + 230) x1 V) fun V11 v12 =>
  gd (rg v12) <|
  gd (rg x2) <|
  if v12 = x2 then (F_X9_watch_J51 G r0 x1 x2 V11) else (bd (F_X5_remember G (r0 + 45) (r0 + 227) V11) fun V17 v18 =>
  bd (F_X7_put G (r0 + 230) x1 x2 V17) fun V20 v21 =>
  some (V20, 1)))
noncomputable def F_X9_watch_J30 (G : mG) (r0 : Nat) (x1 : Int) (x2 : Int) (V : mV) : Option (mV × Int) :=
  F_X9_watch_J31 G r0 x1 x2 0 V
noncomputable def F_X9_watch_J21 (G : mG) (r0 : Nat) (x1 : Int) (x2 : Int) (V : mV) : Option (mV × Int) :=
  gd (rg x2) <|
  gd (rg x1) <|
  if x2 = x1 then (F_X9_watch_J30 G r0 x1 x2 V) else (F_X9_watch_J31 G r0 x1 x2 1 V)
noncomputable def F_X9_watch (G : mG) (r0 : Nat) (x1 : Int) (x2 : Int) (V : mV) : Option (mV × Int) :=
  bd (F_X9_isPerson G r0 x1 V) fun V1 v2 =>
  gd (rg v2) <|
  if v2 = 0 then (F_X9_watch_J30 G r0 x1 x2 V1) else (gd (rg x2) <|
  if x2 = (-1) then (F_X9_watch_J21 G r0 x1 x2 V1) else (bd (F_X9_isPerson G r0 x2 V1) fun V28 v29 =>
  gd (rg v29) <|
  if v29 = 0 then (F_X9_watch_J30 G r0 x1 x2 V28) else (F_X9_watch_J21 G r0 x1 x2 V28)))
noncomputable def F_X9_teach_J43 (G : mG) (r0 : Nat) (x1 : Int) (x2 : Int) (x3 : Int) (V : mV) : Option (mV × Int) :=
  bd (F_X9_refuse G r0 3 V) fun V8 v9 =>
  some (V8, v9)
noncomputable def F_X9_teach_J26 (G : mG) (r0 : Nat) (x1 : Int) (x2 : Int) (x3 : Int) (s0 : Int) (V : mV) : Option (mV × Int) :=
  gd (rg s0) <|
  if s0 = 0 then (F_X9_teach_J43 G r0 x1 x2 x3 V) else (gd (rg x3) <|
  if x3 < 0 then (F_X9_teach_J43 G r0 x1 x2 x3 V) else (if x3 ≤ 99 then (bd (F_X4_pointsOf G (r0 + 227) x1 x2 V) fun V14 v15 =>
  bd (F_X5_remember G (r0 + 45) (r0 + 227) V14) fun V17 v18 =>
  bd (F_X4_setPoints G (r0 + 227) x1 x2 x3 V17) fun V20 v21 =>
  some (V20, v15)) else (F_X9_teach_J43 G r0 x1 x2 x3 V)))
noncomputable def F_X9_teach_J25 (G : mG) (r0 : Nat) (x1 : Int) (x2 : Int) (x3 : Int) (V : mV) : Option (mV × Int) :=
  F_X9_teach_J26 G r0 x1 x2 x3 0 V
noncomputable def F_X9_teach (G : mG) (r0 : Nat) (x1 : Int) (x2 : Int) (x3 : Int) (V : mV) : Option (mV × Int) :=
  bd (F_X9_isPerson G r0 x1 V) fun V1 v2 =>
  gd (rg v2) <|
  if v2 = 0 then (F_X9_teach_J25 G r0 x1 x2 x3 V1) else (bd (F_X9_isPerson G r0 x2 V1) fun V23 v24 =>
  gd (rg v24) <|
  if v24 = 0 then (F_X9_teach_J25 G r0 x1 x2 x3 V23) else (gd (rg x2) <|
  gd (rg x1) <|
  if x2 = x1 then (F_X9_teach_J25 G r0 x1 x2 x3 V23) else (F_X9_teach_J26 G r0 x1 x2 x3 1 V23)))
noncomputable def F_X9_hoursTillNoon (G : mG) (r0 : Nat) (V : mV) : Option (mV × Int) :=
  gd (rg (11 - (gI V (r0 + 227) 0))) <|
  some (V, ((11 - (gI V (r0 + 227) 0)) % 24) + 1)
noncomputable def F_X9_ringBell (G : mG) (r0 : Nat) (V : mV) : Option (mV × Int) :=
  bd (F_X7_size G ((gR G r0 10) + 1) V) fun V1 v2 =>
  gd (rg v2) <|
  if v2 = 0 then (some (V1, 0)) else (lt (sJ V1 r0 13 (((1103515245 * (gJ V1 r0 13)) + 12345) % 2147483648)) fun V6 =>
  gd (rl (gJ V6 r0 13)) <|
  gd (rl ((gJ V6 r0 13).tdiv 64)) <|
  gd (rl v2) <|
  gd (v2 ≠ 0) <|
  lt (((gJ V6 r0 13).tdiv 64).tmod v2) fun y11 =>
  bd (F_X9_isHere G r0 y11 V6) fun V12 v13 =>
  gd (rg v13) <|
  if v13 = 0 then (some (V12, 0)) else (bd (F_X2_sendAway G (r0 + 27) (gR G r0 10) (r0 + 227) y11 V12) fun V17 v18 =>
  some (V17, 0)))
noncomputable def F_X9_bells_J11 (G : mG) (r0 : Nat) (x1 : Int) (V : mV) : Option (mV × Int) :=
  bd (F_X9_refuse G r0 2 V) fun V3 v4 =>
  some (V3, v4)
noncomputable def B_X9_bells_69 (G : mG) (r0 : Nat) (x1 : Int) (x3 : Int) (V : mV) : Option (mV × Nat × Int) :=
  gd (rg x3) <|
  gd (rg x1) <|
  if x1 ≤ x3 then (some (V, 1, x3)) else (bd (F_X9_hoursTillNoon G r0 V) fun V19 v20 =>
  bd (F_X9_bring G r0 (r0 + 227) v20 V19) fun V22 v23 =>
  bd (F_X9_ringBell G r0 V22) fun V25 v26 =>
  bd (F_X9_bring G r0 (r0 + 227) 12 V25) fun V28 v29 =>
  lt (x3 + 1) fun y31 =>
  some (V28, 0, y31))
noncomputable def F_X9_bells (G : mG) (r0 : Nat) (x1 : Int) (V : mV) : Option (mV × Int) :=
  gd (rg x1) <|
  if x1 < 1 then (F_X9_bells_J11 G r0 x1 V) else (if x1 ≤ 20 then (bd (F_X9_hoursTillNoon G r0 V) fun V7 v8 =>
  lt (((gI V (r0 + 227) 0) + v8) + ((x1 - 1) * 24)) fun y10 =>
  gd (rg ((y10 + 24) - 12)) <|
  if ((y10 + 24) - 12) ≤ 9999 then (bd (F_X5_remember G (r0 + 45) (r0 + 227) V7) fun V13 v14 =>
  bd (lp (fun (s : Int) V => B_X9_bells_69 G r0 x1 s V) FU 0 V13) fun V32 u33 =>
  some (V32, gI V32 (r0 + 227) 0)) else (bd (F_X9_refuse G r0 2 V7) fun V36 v37 =>
  some (V36, v37))) else (F_X9_bells_J11 G r0 x1 V))
noncomputable def F_X9_undo (G : mG) (r0 : Nat) (V : mV) : Option (mV × Int) :=
  bd (F_X5_recall G (r0 + 45) (r0 + 227) V) fun V1 v2 =>
  gd (rg v2) <|
  if v2 = 0 then (bd (F_X9_refuse G r0 4 V1) fun V6 v7 =>
  some (V6, 0)) else (some (V1, 1))
noncomputable def F_X9_seed (G : mG) (r0 : Nat) (x1 : Int) (V : mV) : Option (mV × Int) :=
  gd (rg x1) <|
  if 0 ≤ x1 then (lt (sJ V r0 13 x1) fun V3 =>
  some (V3, 1)) else (bd (F_X9_refuse G r0 5 V) fun V4 v5 =>
  some (V4, 0))
noncomputable def B_X9_areSlips_28 (G : mG) (r0 : Nat) (x1 : Int) (x2 : Int) (V : mV) : Option (mV × Nat × Int) :=
  gd (rg x2) <|
  gd (rg x1) <|
  if x1 ≤ x2 then (some (V, 2, x2)) else (bd (F_X7_get G (r0 + 1) x2 V) fun V12 v13 =>
  bd (F_X9_isClock G r0 v13 V12) fun V15 v16 =>
  gd (rg v16) <|
  if v16 = 0 then (some (V15, 1, x2)) else (bd (F_X7_get G (r0 + 1) (x2 + 1) V15) fun V20 v21 =>
  bd (F_X9_isTask G r0 v21 V20) fun V23 v24 =>
  gd (rg v24) <|
  if v24 = 0 then (some (V23, 1, x2)) else (bd (F_X7_get G (r0 + 1) (x2 + 2) V23) fun V28 v29 =>
  gd (rg v29) <|
  if v29 ≤ 1 then (lt (x2 + 3) fun y33 =>
  some (V28, 0, y33)) else (some (V28, 1, x2)))))
noncomputable def F_X9_areSlips (G : mG) (r0 : Nat) (V : mV) : Option (mV × Int) :=
  bd (F_X7_size G (r0 + 1) V) fun V1 v2 =>
  gd (rg v2) <|
  if v2 = 0 then (some (V1, 0)) else (gd (rg (v2.tmod 3)) <|
  if (v2.tmod 3) = 0 then (if v2 ≤ 60 then (bd (lp (fun (s : Int) V => B_X9_areSlips_28 G r0 v2 s V) FU 0 V1) fun V34 u35 =>
  if u35.1 = 1 then (some (V34, 0)) else (some (V34, 1))) else (some (V1, 0))) else (some (V1, 0)))
noncomputable def F_X9_slips_J41 (G : mG) (r0 : Nat) (x1 : Int) (x2 : Int) (V : mV) : Option (mV × Int) :=
  bd (F_X7_cut G (r0 + 1) 0 V) fun V8 v9 =>
  gd (rg x2) <|
  if x2 = 0 then (bd (F_X9_refuse G r0 1 V8) fun V13 v14 =>
  some (V13, v14)) else (bd (F_X7_size G (r0 + 7) V8) fun V16 v17 =>
  gd (rg v17) <|
  some (V16, v17.tdiv 3))
noncomputable def F_X9_slips_J20 (G : mG) (r0 : Nat) (x1 : Int) (s0 : Int) (V : mV) : Option (mV × Int) :=
  gd (rg s0) <|
  if s0 = 0 then (F_X9_slips_J41 G r0 x1 s0 V) else (bd (F_X7_copy G (r0 + 7) (r0 + 1) V) fun V20 v21 =>
  lt (sI V20 r0 12 x1) fun V23 =>
  F_X9_slips_J41 G r0 x1 s0 V23)
noncomputable def F_X9_slips_J19 (G : mG) (r0 : Nat) (x1 : Int) (V : mV) : Option (mV × Int) :=
  F_X9_slips_J20 G r0 x1 0 V
noncomputable def F_X9_slips (G : mG) (r0 : Nat) (x1 : Int) (V : mV) : Option (mV × Int) :=
  bd (F_X9_isPerson G r0 x1 V) fun V1 v2 =>
  gd (rg v2) <|
  if v2 = 0 then (F_X9_slips_J19 G r0 x1 V1) else (bd (F_X9_areSlips G r0 V1) fun V24 v25 =>
  gd (rg v25) <|
  if v25 = 0 then (F_X9_slips_J19 G r0 x1 V24) else (F_X9_slips_J20 G r0 x1 1 V24))
noncomputable def F_X9_fitsSlips_J76_2 (G : mG) (r0 : Nat) (x1 : Int) (x2 : Int) (s0 : Int) (s1 : Int) (V : mV) : Option (mV × Nat × Int) :=
  gd (rg s0) <|
  gd (rg s1) <|
  if s0 = s1 then (lt (x2 + 3) fun y24 =>
  some (V, 0, y24)) else (some (V, 1, x2))
noncomputable def B_X9_fitsSlips_2 (G : mG) (r0 : Nat) (x1 : Int) (x2 : Int) (V : mV) : Option (mV × Nat × Int) :=
  bd (F_X7_size G (r0 + 7) V) fun V1 v2 =>
  gd (rg x2) <|
  gd (rg v2) <|
  if v2 ≤ x2 then (some (V1, 2, x2)) else (bd (F_X7_get G (r0 + 7) (x2 + 1) V1) fun V7 v8 =>
  bd (F_X7_get G (r0 + 7) x2 V7) fun V10 v11 =>
  bd (F_X2_ableNow G (r0 + 27) (gR G r0 10) (r0 + 227) x1 (gI V7 r0 12) v8 v11 V10) fun V13 v14 =>
  bd (F_X7_get G (r0 + 7) (x2 + 2) V13) fun V16 v17 =>
  gd (rg v17) <|
  if v17 = 1 then (F_X9_fitsSlips_J76_2 G r0 x1 x2 v14 1 V16) else (F_X9_fitsSlips_J76_2 G r0 x1 x2 v14 0 V16))
noncomputable def F_X9_fitsSlips (G : mG) (r0 : Nat) (x1 : Int) (V : mV) : Option (mV × Int) :=
  bd (lp (fun (s : Int) V => B_X9_fitsSlips_2 G r0 x1 s V) FU 0 V) fun V25 u26 =>
  if u26.1 = 1 then (some (V25, 0)) else (some (V25, 1))
noncomputable def B_X9_who_16 (G : mG) (r0 : Nat) (x1 : Int) (x2 : Int) (V : mV) : Option (mV × Nat × Int × Int) :=
  bd (F_X7_size G ((gR G r0 10) + 1) V) fun V6 v7 =>
  gd (rg x2) <|
  gd (rg v7) <|
  if v7 ≤ x2 then (some (V6, 1, (x1, x2))) else (bd (F_X9_fitsSlips G r0 x2 V6) fun V12 v13 =>
  gd (rg v13) <|
  if v13 = 0 then (lt (x2 + 1) fun y17 =>
  some (V12, 0, (x1, y17))) else (gd (0 ≤ x2 ∧ x2 < 32) <|
  gd (0 ≤ x1 ∧ 0 ≤ (shl 1 x2)) <|
  lt (bor x1 (shl 1 x2)) fun y20 =>
  lt (x2 + 1) fun y21 =>
  some (V12, 0, (y20, y21))))
noncomputable def F_X9_who (G : mG) (r0 : Nat) (V : mV) : Option (mV × Int) :=
  bd (F_X7_size G (r0 + 7) V) fun V1 v2 =>
  gd (rg v2) <|
  if v2 = 0 then (some (V1, (-1))) else (bd (lp (fun (s : Int × Int) V => B_X9_who_16 G r0 s.1 s.2 V) FU (0, 0) V1) fun V22 u23 =>
  some (V22, u23.2.1))
noncomputable def B_X9_checkOf_6 (G : mG) (r0 : Nat) (x1 : Int) (x2 : Int) (x3 : Int) (V : mV) : Option (mV × Nat × Int × Int) :=
  gd (rg x3) <|
  gd (rg x1) <|
  if x1 ≤ x3 then (some (V, 1, (x2, x3))) else (bd (F_X7_get G r0 x3 V) fun V4 v5 =>
  gd (rg ((3 * x2) + v5)) <|
  lt (((3 * x2) + v5).tmod 251) fun y8 =>
  lt (x3 + 1) fun y9 =>
  some (V4, 0, (y8, y9)))
noncomputable def F_X9_checkOf (G : mG) (r0 : Nat) (x1 : Int) (V : mV) : Option (mV × Int) :=
  bd (lp (fun (s : Int × Int) V => B_X9_checkOf_6 G r0 x1 s.1 s.2 V) FU (197, 0) V) fun V10 u11 =>
  some (V10, u11.2.1)
noncomputable def B_X9_image_104 (G : mG) (r0 : Nat) (x1 : Int) (x2 : Int) (x3 : Int) (V : mV) : Option (mV × Nat × Int) :=
  gd (rg x3) <|
  gd (rg x1) <|
  if x1 ≤ x3 then (some (V, 1, x3)) else (bd (F_X4_pointsOf G (r0 + 227) x2 x3 V) fun V33 v34 =>
  bd (F_X7_add G (r0 + 3) v34 V33) fun V36 v37 =>
  lt (x3 + 1) fun y39 =>
  some (V36, 0, y39))
noncomputable def B_X9_image_57 (G : mG) (r0 : Nat) (x1 : Int) (x2 : Int) (V : mV) : Option (mV × Nat × Int) :=
  gd (rg x2) <|
  gd (rg x1) <|
  if x1 ≤ x2 then (some (V, 1, x2)) else (bd (F_X7_get G (r0 + 228) x2 V) fun V18 v19 =>
  bd (F_X7_add G (r0 + 3) (v19 + 1) V18) fun V21 v22 =>
  bd (F_X7_get G (r0 + 230) x2 V21) fun V24 v25 =>
  bd (F_X7_add G (r0 + 3) (v25 + 1) V24) fun V27 v28 =>
  bd (lp (fun (s : Int) V => B_X9_image_104 G r0 x1 x2 s V) FU 0 V27) fun V40 u41 =>
  lt (x2 + 1) fun y44 =>
  some (V40, 0, y44))
noncomputable def F_X9_image (G : mG) (r0 : Nat) (V : mV) : Option (mV × Int) :=
  bd (F_X7_size G ((gR G r0 10) + 1) V) fun V1 v2 =>
  bd (F_X7_cut G (r0 + 3) 0 V1) fun V4 v5 =>
  gd (rg (gI V4 (r0 + 227) 0)) <|
  bd (F_X7_add G (r0 + 3) ((gI V4 (r0 + 227) 0).tdiv 256) V4) fun V8 v9 =>
  gd (rg (gI V8 (r0 + 227) 0)) <|
  bd (F_X7_add G (r0 + 3) ((gI V8 (r0 + 227) 0).tmod 256) V8) fun V12 v13 =>
  bd (lp (fun (s : Int) V => B_X9_image_57 G r0 v2 s V) FU 0 V12) fun V45 u46 =>
  bd (F_X7_size G (r0 + 3) V45) fun V49 v50 =>
  bd (F_X9_checkOf G (r0 + 3) v50 V49) fun V52 v53 =>
  bd (F_X7_add G (r0 + 3) v53 V52) fun V55 v56 =>
  bd (F_X7_size G (r0 + 3) V55) fun V58 v59 =>
  some (V58, v59)
noncomputable def F_X9_octet (G : mG) (r0 : Nat) (x1 : Int) (V : mV) : Option (mV × Int) :=
  bd (F_X7_get G (r0 + 3) x1 V) fun V1 v2 =>
  some (V1, v2)
noncomputable def B_X9_isImage_177 (G : mG) (r0 : Nat) (x1 : Int) (x3 : Int) (x4 : Int) (x5 : Int) (x8 : Int) (V : mV) : Option (mV × Nat × Int) :=
  gd (rg x8) <|
  gd (rg x1) <|
  if x1 ≤ x8 then (some (V, 2, x8)) else (bd (F_X7_get G (r0 + 1) ((x5 + 2) + x8) V) fun V51 v52 =>
  gd (rg v52) <|
  if 99 < v52 then (some (V51, 1, x8)) else (gd (rg x4) <|
  if x8 = x4 then (if v52 = 99 then (lt (x8 + 1) fun y60 =>
  some (V51, 0, y60)) else (some (V51, 1, x8))) else (lt (x8 + 1) fun y58 =>
  some (V51, 0, y58))))
noncomputable def F_X9_isImage_J167_87 (G : mG) (r0 : Nat) (x1 : Int) (x3 : Int) (x4 : Int) (x5 : Int) (x6 : Int) (V : mV) : Option (mV × Nat × Int × Int) :=
  gd (0 ≤ x6 ∧ x6 < 32) <|
  gd (0 ≤ x3 ∧ 0 ≤ (shl 1 x6)) <|
  lt (bor x3 (shl 1 x6)) fun y47 =>
  bd (lp (fun (s : Int) V => B_X9_isImage_177 G r0 x1 y47 x4 x5 s V) FU 0 V) fun V61 u62 =>
  if u62.1 = 1 then (some (V61, 3, (y47, x4))) else (lt (x4 + 1) fun y65 =>
  some (V61, 0, (y47, y65)))
noncomputable def B_X9_isImage_87 (G : mG) (r0 : Nat) (x1 : Int) (x3 : Int) (x4 : Int) (V : mV) : Option (mV × Nat × Int × Int) :=
  gd (rg x4) <|
  gd (rg x1) <|
  if x1 ≤ x4 then (some (V, 4, (x3, x4))) else (lt (2 + (x4 * (2 + x1))) fun y31 =>
  bd (F_X7_get G (r0 + 1) y31 V) fun V32 v33 =>
  bd (F_X7_get G (r0 + 1) (y31 + 1) V32) fun V35 v36 =>
  gd (rg v33) <|
  if x1 < v33 then (some (V35, 1, (x3, x4))) else (gd (rg v36) <|
  if x1 < v36 then (some (V35, 1, (x3, x4))) else (gd (rg (x4 + 1)) <|
  if v36 = (x4 + 1) then (some (V35, 1, (x3, x4))) else (if v33 ≤ 0 then (F_X9_isImage_J167_87 G r0 x1 x3 x4 y31 v33 V35) else (gd (rg x3) <|
  gd (0 ≤ v33 ∧ v33 < 32) <|
  gd (rg ((shr x3 v33) % 2)) <|
  if ((shr x3 v33) % 2) = 1 then (some (V35, 2, (x3, x4))) else (F_X9_isImage_J167_87 G r0 x1 x3 x4 y31 v33 V35))))))
noncomputable def F_X9_isImage (G : mG) (r0 : Nat) (V : mV) : Option (mV × Int) :=
  bd (F_X7_size G ((gR G r0 10) + 1) V) fun V1 v2 =>
  lt (2 + (v2 * (2 + v2))) fun y4 =>
  bd (F_X7_size G (r0 + 1) V1) fun V5 v6 =>
  gd (rg v6) <|
  gd (rg (y4 + 1)) <|
  if v6 = (y4 + 1) then (bd (F_X7_get G (r0 + 1) y4 V5) fun V11 v12 =>
  bd (F_X9_checkOf G (r0 + 1) y4 V11) fun V14 v15 =>
  gd (rg v12) <|
  gd (rg v15) <|
  if v12 = v15 then (bd (F_X7_get G (r0 + 1) 0 V14) fun V20 v21 =>
  bd (F_X7_get G (r0 + 1) 1 V20) fun V23 v24 =>
  gd (rg ((v21 * 256) + v24)) <|
  if ((v21 * 256) + v24) ≤ 9999 then (bd (lp (fun (s : Int × Int) V => B_X9_isImage_87 G r0 v2 s.1 s.2 V) FU (0, 0) V23) fun V70 u71 =>
  if u71.1 = 1 then (some (V70, 0)) else if u71.1 = 2 then (some (V70, 0)) else if u71.1 = 3 then (some (V70, 0)) else (some (V70, 1))) else (some (V23, 0))) else (some (V14, 0))) else (some (V5, 0))
noncomputable def B_X9_takeImage_119 (G : mG) (r0 : Nat) (x1 : Int) (x2 : Int) (x3 : Int) (x4 : Int) (V : mV) : Option (mV × Nat × Int) :=
  gd (rg x4) <|
  gd (rg x1) <|
  if x1 ≤ x4 then (some (V, 1, x4)) else (bd (F_X7_get G (r0 + 1) ((x3 + 2) + x4) V) fun V36 v37 =>
  bd (F_X4_setPoints G (r0 + 227) x2 x4 v37 V36) fun V39 v40 =>
  lt (x4 + 1) fun y42 =>
  some (V39, 0, y42))
noncomputable def B_X9_takeImage_59 (G : mG) (r0 : Nat) (x1 : Int) (x2 : Int) (V : mV) : Option (mV × Nat × Int) :=
  gd (rg x2) <|
  gd (rg x1) <|
  if x1 ≤ x2 then (some (V, 1, x2)) else (lt (2 + (x2 * (2 + x1))) fun y20 =>
  bd (F_X7_get G (r0 + 1) y20 V) fun V21 v22 =>
  bd (F_X7_put G (r0 + 228) x2 (v22 - 1) V21) fun V24 v25 =>
  bd (F_X7_get G (r0 + 1) (y20 + 1) V24) fun V27 v28 =>
  bd (F_X7_put G (r0 + 230) x2 (v28 - 1) V27) fun V30 v31 =>
  bd (lp (fun (s : Int) V => B_X9_takeImage_119 G r0 x1 x2 y20 s V) FU 0 V30) fun V43 u44 =>
  lt (x2 + 1) fun y47 =>
  some (V43, 0, y47))
noncomputable def F_X9_takeImage (G : mG) (r0 : Nat) (V : mV) : Option (mV × Int) :=
  bd (F_X7_size G ((gR G r0 10) + 1) V) fun V1 v2 =>
  bd (F_X4_begin G (r0 + 227) (gR G r0 10) V1) fun V4 v5 =>
  bd (F_X5_clear G (r0 + 45) V4) fun V7 v8 =>
  bd (F_X7_get G (r0 + 1) 0 V7) fun V10 v11 =>
  bd (F_X7_get G (r0 + 1) 1 V10) fun V13 v14 =>
  lt (sI V13 (r0 + 227) 0 ((v11 * 256) + v14)) fun V16 =>
  bd (lp (fun (s : Int) V => B_X9_takeImage_59 G r0 v2 s V) FU 0 V16) fun V48 u49 =>
  some (V48, 0)
noncomputable def F_X9_on_J13 (G : mG) (r0 : Nat) (x1 : Int) (V : mV) : Option (mV × Int) :=
  bd (F_X7_cut G (r0 + 1) 0 V) fun V6 v7 =>
  gd (rg x1) <|
  if x1 = 0 then (bd (F_X9_refuse G r0 5 V6) fun V12 v13 =>
  gd (x1 = 0 ∨ x1 = 1) <|
  some (V12, x1)) else (gd (x1 = 0 ∨ x1 = 1) <|
  some (V6, x1))
noncomputable def F_X9_on (G : mG) (r0 : Nat) (V : mV) : Option (mV × Int) :=
  bd (F_X9_isImage G r0 V) fun V1 v2 =>
  gd (rg v2) <|
  if v2 = 0 then (F_X9_on_J13 G r0 v2 V1) else (bd (F_X9_takeImage G r0 V1) fun V16 v17 =>
  F_X9_on_J13 G r0 v2 V16)
noncomputable def F_X9_status (G : mG) (r0 : Nat) (x1 : Int) (V : mV) : Option (mV × Int) :=
  bd (F_X7_get G (r0 + 5) x1 V) fun V1 v2 =>
  some (V1, v2)
noncomputable def B_X6_readTest_7 (rec : Nat → Int → Int → mV → Option (mV × Int)) (G : mG) (r0 : Nat) (x1 : Int) (x2 : Int) (V : mV) : Option (mV × Nat × Int) :=
  gd (rg x2) <|
  if 1600 ≤ x2 then (some (V, 1, x2)) else (bd (F_X6_isWord G r0 18 V) fun V6 v7 =>
  gd (rg v7) <|
  if v7 = 0 then (some (V6, 1, x2)) else (bd (F_X6_take G r0 V6) fun V11 v12 =>
  bd (rec 1 x1 0 V11) fun V14 v15 =>
  bd (F_X3_write G (gR G r0 7) 14 0 V14) fun V17 v18 =>
  lt (x2 + 1) fun y20 =>
  some (V17, 0, y20)))
noncomputable def F_X6_readTest (rec : Nat → Int → Int → mV → Option (mV × Int)) (G : mG) (r0 : Nat) (x1 : Int) (V : mV) : Option (mV × Int) :=
  bd (rec 1 x1 0 V) fun V1 v2 =>
  bd (lp (fun (s : Int) V => B_X6_readTest_7 rec G r0 x1 s V) FU 0 V1) fun V21 u22 =>
  some (V21, 0)
noncomputable def B_X6_readBoth_7 (rec : Nat → Int → Int → mV → Option (mV × Int)) (G : mG) (r0 : Nat) (x1 : Int) (x2 : Int) (V : mV) : Option (mV × Nat × Int) :=
  gd (rg x2) <|
  if 1600 ≤ x2 then (some (V, 1, x2)) else (bd (F_X6_isWord G r0 19 V) fun V6 v7 =>
  gd (rg v7) <|
  if v7 = 0 then (some (V6, 1, x2)) else (bd (F_X6_take G r0 V6) fun V11 v12 =>
  bd (rec 2 x1 0 V11) fun V14 v15 =>
  bd (F_X3_write G (gR G r0 7) 13 0 V14) fun V17 v18 =>
  lt (x2 + 1) fun y20 =>
  some (V17, 0, y20)))
noncomputable def F_X6_readBoth (rec : Nat → Int → Int → mV → Option (mV × Int)) (G : mG) (r0 : Nat) (x1 : Int) (V : mV) : Option (mV × Int) :=
  bd (rec 2 x1 0 V) fun V1 v2 =>
  bd (lp (fun (s : Int) V => B_X6_readBoth_7 rec G r0 x1 s V) FU 0 V1) fun V21 u22 =>
  some (V21, 0)
noncomputable def F_X6_readFact_J126 (rec : Nat → Int → Int → mV → Option (mV × Int)) (G : mG) (r0 : Nat) (x1 : Int) (x2 : Int) (V : mV) : Option (mV × Int) :=
  bd (F_X6_take G r0 V) fun V31 v32 =>
  bd (rec 3 x1 0 V31) fun V34 v35 =>
  bd (F_X3_write G (gR G r0 7) x2 0 V34) fun V37 v38 =>
  some (V37, 0)
noncomputable def F_X6_readFact (rec : Nat → Int → Int → mV → Option (mV × Int)) (G : mG) (r0 : Nat) (x1 : Int) (V : mV) : Option (mV × Int) :=
  bd (F_X6_fine G r0 V) fun V1 v2 =>
  gd (rg v2) <|
  if v2 = 0 then (some (V1, 0)) else (gd (rg x1) <|
  if x1 ≤ 6 then (bd (F_X6_isWord G r0 20 V1) fun V8 v9 =>
  gd (rg v9) <|
  if v9 = 0 then (bd (F_X6_isSign G r0 91 V8) fun V13 v14 =>
  gd (rg v14) <|
  if v14 = 0 then (bd (F_X6_isWord G r0 21 V13) fun V18 v19 =>
  gd (rg v19) <|
  if v19 = 0 then (bd (rec 3 x1 0 V18) fun V23 v24 =>
  bd (F_X6_comparison G r0 V23) fun V26 v27 =>
  gd (rg v27) <|
  if v27 = (-1) then (bd (F_X6_here G r0 V26) fun V40 v41 =>
  bd (F_X6_fail G r0 1 v41 V40) fun V43 v44 =>
  F_X6_readFact_J126 rec G r0 x1 v27 V43) else (F_X6_readFact_J126 rec G r0 x1 v27 V26)) else (bd (F_X6_take G r0 V18) fun V46 v47 =>
  bd (F_X3_write G (gR G r0 7) 0 1 V46) fun V49 v50 =>
  some (V49, 0))) else (bd (F_X6_takeOpening G r0 x1 V13) fun V52 v53 =>
  bd (rec 0 (x1 + 1) 0 V52) fun V55 v56 =>
  bd (F_X6_takeSign G r0 93 V55) fun V58 v59 =>
  some (V58, 0))) else (bd (F_X6_takeOpening G r0 x1 V8) fun V61 v62 =>
  bd (rec 2 (x1 + 1) 0 V61) fun V64 v65 =>
  bd (F_X3_write G (gR G r0 7) 3 0 V64) fun V67 v68 =>
  some (V67, 0))) else (some (V1, 0)))
noncomputable def F_X6_readSum_J46_7 (rec : Nat → Int → Int → mV → Option (mV × Int)) (G : mG) (r0 : Nat) (x1 : Int) (x2 : Int) (s0 : Int) (V : mV) : Option (mV × Nat × Int) :=
  bd (F_X6_take G r0 V) fun V16 v17 =>
  bd (rec 4 x1 0 V16) fun V19 v20 =>
  bd (F_X3_write G (gR G r0 7) s0 0 V19) fun V22 v23 =>
  lt (x2 + 1) fun y25 =>
  some (V22, 0, y25)
noncomputable def F_X6_readSum_J32_7 (rec : Nat → Int → Int → mV → Option (mV × Int)) (G : mG) (r0 : Nat) (x1 : Int) (x2 : Int) (V : mV) : Option (mV × Nat × Int) :=
  bd (F_X6_isSign G r0 43 V) fun V11 v12 =>
  gd (rg v12) <|
  if v12 = 0 then (F_X6_readSum_J46_7 rec G r0 x1 x2 5 V11) else (F_X6_readSum_J46_7 rec G r0 x1 x2 4 V11)
noncomputable def B_X6_readSum_7 (rec : Nat → Int → Int → mV → Option (mV × Int)) (G : mG) (r0 : Nat) (x1 : Int) (x2 : Int) (V : mV) : Option (mV × Nat × Int) :=
  gd (rg x2) <|
  if 1600 ≤ x2 then (some (V, 1, x2)) else (bd (F_X6_isSign G r0 43 V) fun V6 v7 =>
  gd (rg v7) <|
  if v7 = 0 then (bd (F_X6_isSign G r0 45 V6) fun V26 v27 =>
  gd (rg v27) <|
  if v27 = 0 then (some (V26, 1, x2)) else (F_X6_readSum_J32_7 rec G r0 x1 x2 V26)) else (F_X6_readSum_J32_7 rec G r0 x1 x2 V6))
noncomputable def F_X6_readSum (rec : Nat → Int → Int → mV → Option (mV × Int)) (G : mG) (r0 : Nat) (x1 : Int) (V : mV) : Option (mV × Int) :=
  bd (rec 4 x1 0 V) fun V1 v2 =>
  bd (lp (fun (s : Int) V => B_X6_readSum_7 rec G r0 x1 s V) FU 0 V1) fun V31 u32 =>
  some (V31, 0)
noncomputable def F_X6_readProduct_J48_7 (rec : Nat → Int → Int → mV → Option (mV × Int)) (G : mG) (r0 : Nat) (x1 : Int) (x2 : Int) (s0 : Int) (V : mV) : Option (mV × Nat × Int) :=
  bd (F_X6_take G r0 V) fun V16 v17 =>
  bd (rec 5 x1 0 V16) fun V19 v20 =>
  bd (F_X3_write G (gR G r0 7) s0 0 V19) fun V22 v23 =>
  lt (x2 + 1) fun y25 =>
  some (V22, 0, y25)
noncomputable def F_X6_readProduct_J32_7 (rec : Nat → Int → Int → mV → Option (mV × Int)) (G : mG) (r0 : Nat) (x1 : Int) (x2 : Int) (V : mV) : Option (mV × Nat × Int) :=
  bd (F_X6_isSign G r0 42 V) fun V11 v12 =>
  gd (rg v12) <|
  if v12 = 0 then (F_X6_readProduct_J48_7 rec G r0 x1 x2 7 V11) else (F_X6_readProduct_J48_7 rec G r0 x1 x2 6 V11)
noncomputable def B_X6_readProduct_7 (rec : Nat → Int → Int → mV → Option (mV × Int)) (G : mG) (r0 : Nat) (x1 : Int) (x2 : Int) (V : mV) : Option (mV × Nat × Int) :=
  gd (rg x2) <|
  if 1600 ≤ x2 then (some (V, 1, x2)) else (bd (F_X6_isSign G r0 42 V) fun V6 v7 =>
  gd (rg v7) <|
  if v7 = 0 then (bd (F_X6_isSign G r0 47 V6) fun V26 v27 =>
  gd (rg v27) <|
  if v27 = 0 then (some (V26, 1, x2)) else (F_X6_readProduct_J32_7 rec G r0 x1 x2 V26)) else (F_X6_readProduct_J32_7 rec G r0 x1 x2 V6))
noncomputable def F_X6_readProduct (rec : Nat → Int → Int → mV → Option (mV × Int)) (G : mG) (r0 : Nat) (x1 : Int) (V : mV) : Option (mV × Int) :=
  bd (rec 5 x1 0 V) fun V1 v2 =>
  bd (lp (fun (s : Int) V => B_X6_readProduct_7 rec G r0 x1 s V) FU 0 V1) fun V31 u32 =>
  some (V31, 0)
noncomputable def F_X6_readPart_J94 (rec : Nat → Int → Int → mV → Option (mV × Int)) (G : mG) (r0 : Nat) (x1 : Int) (x2 : Int) (V : mV) : Option (mV × Int) :=
  gd (rg x2) <|
  if x2 = 22 then (bd (rec 6 x1 8 V) fun V28 v29 =>
  some (V28, 0)) else (bd (rec 6 x1 9 V) fun V25 v26 =>
  some (V25, 0))
noncomputable def F_X6_readPart_J190 (rec : Nat → Int → Int → mV → Option (mV × Int)) (G : mG) (r0 : Nat) (x1 : Int) (V : mV) : Option (mV × Int) :=
  bd (F_X6_here G r0 V) fun V35 v36 =>
  bd (F_X6_fail G r0 1 v36 V35) fun V38 v39 =>
  some (V38, 0)
noncomputable def F_X6_readPart_J156 (rec : Nat → Int → Int → mV → Option (mV × Int)) (G : mG) (r0 : Nat) (x1 : Int) (x2 : Int) (V : mV) : Option (mV × Int) :=
  gd (rg x2) <|
  if x2 = (-1) then (F_X6_readPart_J190 rec G r0 x1 V) else (gd (rl (gJ V r0 8)) <|
  gd (0 ≤ x2 ∧ x2 < 64) <|
  gd (rl ((shr (gJ V r0 8) x2) % 2)) <|
  if ((shr (gJ V r0 8) x2) % 2) = 1 then (bd (F_X6_take G r0 V) fun V45 v46 =>
  bd (F_X3_write G (gR G r0 7) 1 x2 V45) fun V48 v49 =>
  some (V48, 0)) else (F_X6_readPart_J190 rec G r0 x1 V))
noncomputable def F_X6_readPart (rec : Nat → Int → Int → mV → Option (mV × Int)) (G : mG) (r0 : Nat) (x1 : Int) (V : mV) : Option (mV × Int) :=
  bd (F_X6_fine G r0 V) fun V1 v2 =>
  gd (rg v2) <|
  if v2 = 0 then (some (V1, 0)) else (gd (rg x1) <|
  if x1 ≤ 6 then (bd (F_X6_word G r0 V1) fun V8 v9 =>
  bd (F_X7_get G (r0 + 1) (gI V8 r0 6) V8) fun V11 v12 =>
  gd (rg v12) <|
  if v12 = 1 then (bd (F_X6_takeNumber G r0 9999 V11) fun V71 v72 =>
  bd (F_X3_write G (gR G r0 7) 0 v72 V71) fun V74 v75 =>
  some (V74, 0)) else (bd (F_X6_isSign G r0 40 V11) fun V16 v17 =>
  gd (rg v17) <|
  if v17 = 0 then (gd (rg v9) <|
  if v9 = 22 then (F_X6_readPart_J94 rec G r0 x1 v9 V16) else (if v9 = 23 then (F_X6_readPart_J94 rec G r0 x1 v9 V16) else (if v9 = 14 then (gd (rl (gJ V16 r0 8)) <|
  if (gJ V16 r0 8) = 7516205056 then (bd (F_X6_takeOpening G r0 x1 V16) fun V53 v54 =>
  bd (rec 5 (x1 + 1) 0 V53) fun V56 v57 =>
  bd (F_X3_write G (gR G r0 7) 2 0 V56) fun V59 v60 =>
  some (V59, 0)) else (F_X6_readPart_J156 rec G r0 x1 v9 V16)) else (F_X6_readPart_J156 rec G r0 x1 v9 V16)))) else (bd (F_X6_takeOpening G r0 x1 V16) fun V62 v63 =>
  bd (rec 3 (x1 + 1) 0 V62) fun V65 v66 =>
  bd (F_X6_takeSign G r0 41 V65) fun V68 v69 =>
  some (V68, 0)))) else (some (V1, 0)))
noncomputable def F_X6_readPair_J22 (rec : Nat → Int → Int → mV → Option (mV × Int)) (G : mG) (r0 : Nat) (x1 : Int) (x2 : Int) (V : mV) : Option (mV × Int) :=
  bd (F_X6_takeOpening G r0 x1 V) fun V9 v10 =>
  bd (rec 3 (x1 + 1) 0 V9) fun V12 v13 =>
  bd (F_X6_takeSign G r0 44 V12) fun V15 v16 =>
  bd (rec 3 (x1 + 1) 0 V15) fun V18 v19 =>
  bd (F_X6_takeSign G r0 41 V18) fun V21 v22 =>
  bd (F_X3_write G (gR G r0 7) x2 0 V21) fun V24 v25 =>
  some (V24, 0)
noncomputable def F_X6_readPair (rec : Nat → Int → Int → mV → Option (mV × Int)) (G : mG) (r0 : Nat) (x1 : Int) (x2 : Int) (V : mV) : Option (mV × Int) :=
  bd (F_X6_take G r0 V) fun V1 v2 =>
  bd (F_X6_isSign G r0 40 V1) fun V4 v5 =>
  gd (rg v5) <|
  if v5 = 0 then (bd (F_X6_here G r0 V4) fun V27 v28 =>
  bd (F_X6_fail G r0 1 v28 V27) fun V30 v31 =>
  F_X6_readPair_J22 rec G r0 x1 x2 V30) else (F_X6_readPair_J22 rec G r0 x1 x2 V4)
noncomputable def FR (G : mG) (r0 : Nat) : Nat → Nat → Int → Int → mV → Option (mV × Int)
  | 0, _, _, _, _ => none
  | f + 1, w, a, b, V => if w = 0 then F_X6_readTest (FR G r0 f) G r0 a V else if w = 1 then F_X6_readBoth (FR G r0 f) G r0 a V else if w = 2 then F_X6_readFact (FR G r0 f) G r0 a V else if w = 3 then F_X6_readSum (FR G r0 f) G r0 a V else if w = 4 then F_X6_readProduct (FR G r0 f) G r0 a V else if w = 5 then F_X6_readPart (FR G r0 f) G r0 a V else if w = 6 then F_X6_readPair (FR G r0 f) G r0 a b V else none


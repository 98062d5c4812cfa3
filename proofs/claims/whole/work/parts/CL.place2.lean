/-! a place is told with a fault alone: what holds along (the other) -/
section
variable {m : Nat}
theorem pk_F_X10_fail {G : mG} {r0 : Nat} {k w : Int} (hk : k ≠ 0) (V : mV) (h : Ik m 5 V) : PkV (Ik m 5) (F_X10_fail G r0 k w V) := by
  unfold F_X10_fail
  refine Pk_gd (Pk_if ?_ (Pk_so h))
  refine Pk_so ?_
  unfold Ik at h ⊢
  by_cases e : m = r0
  · intro q
    rw [gI_sI, if_neg (by omega), gI_sI, if_pos ⟨e, rfl⟩] at q
    exact absurd q hk
  · rw [gI_sI, if_neg (by omega), gI_sI, if_neg (by omega), gI_sI, if_neg (by omega), gI_sI, if_neg (by omega)]; exact h
theorem pk_F_X10_isIn {G : mG} {x0 : Int} {x2 : Int} {x4 : Int} {V : mV} (hV : Ik m 5 V) : PkV (Ik m 5) (F_X10_isIn G x0 x2 x4 V) := by
  unfold F_X10_isIn
  exact Pk_gd (Pk_gd (Pk_if (Pk_so hV) (Pk_gd (Pk_if (Pk_so hV) (Pk_so hV)))))
theorem pk_F_X10_isLetter {G : mG} {x0 : Int} {V : mV} (hV : Ik m 5 V) : PkV (Ik m 5) (F_X10_isLetter G x0 V) := by
  unfold F_X10_isLetter
  exact Pk_gd (Pk_if (Pk_so hV) (Pk_if (Pk_so hV) (Pk_so hV)))
theorem pk_F_X10_isDigit {G : mG} {x0 : Int} {V : mV} (hV : Ik m 5 V) : PkV (Ik m 5) (F_X10_isDigit G x0 V) := by
  unfold F_X10_isDigit
  exact Pk_gd (Pk_if (Pk_so hV) (Pk_if (Pk_so hV) (Pk_so hV)))
theorem pk_F_X10_look_J39_0 {G : mG} {r0 : Nat} {V : mV} (hV : Ik m 5 V) : PkV (Ik m 5) (F_X10_look_J39_0 G r0 V) := by
  unfold F_X10_look_J39_0
  exact Pk_ltV (Ik.sI (by decide) hV) (fun V7 hV7 => Pk_so hV7)
theorem pk_B_X10_look_0 {G : mG} {r0 : Nat} {V : mV} (hV : Ik m 5 V) : PkV (Ik m 5) (B_X10_look_0 G r0 V) := by
  unfold B_X10_look_0
  exact Pk_gd (Pk_gd (Pk_if (Pk_so hV) (Pk_gd (Pk_gd (Pk_if (pk_F_X10_look_J39_0 hV) (Pk_if (pk_F_X10_look_J39_0 hV) (Pk_so hV)))))))
theorem pk_F_X10_look_J52 {G : mG} {r0 : Nat} {V : mV} (hV : Ik m 5 V) : PkV (Ik m 5) (F_X10_look_J52 G r0 V) := by
  unfold F_X10_look_J52
  exact Pk_gd (Pk_gd (Pk_if (Pk_so hV) (Pk_gd (Pk_so hV))))
theorem pk_F_X10_look {G : mG} {r0 : Nat} {V : mV} (hV : Ik m 5 V) : PkV (Ik m 5) (F_X10_look G r0 V) := by
  unfold F_X10_look
  exact Pk_bd (Pk_lp (fun s V hV => pk_B_X10_look_0 hV) hV) (fun V9 _ hV9 => pk_F_X10_look_J52 hV9)
theorem pk_B_X10_isHere_35 {G : mG} {r0 : Nat} {r1 : Nat} {x2 : Int} {V : mV} (hV : Ik m 5 V) : PkV (Ik m 5) (B_X10_isHere_35 G r0 r1 x2 V) := by
  unfold B_X10_isHere_35
  exact Pk_gd (Pk_gd (Pk_if (Pk_so hV) (Pk_gd (Pk_bd (pk_F_X10_isLetter hV) (fun V19 _ hV19 => Pk_gd (Pk_if (Pk_so hV19) (Pk_lt (fun y24 => Pk_so hV19))))))))
theorem pk_B_X10_isHere_76 {G : mG} {r0 : Nat} {r1 : Nat} {x3 : Int} {V : mV} (hV : Ik m 5 V) : PkV (Ik m 5) (B_X10_isHere_76 G r0 r1 x3 V) := by
  unfold B_X10_isHere_76
  exact Pk_gd (Pk_gd (Pk_if (Pk_so hV) (Pk_gd (Pk_gd (Pk_gd (Pk_gd (Pk_if (Pk_lt (fun y40 => Pk_so hV)) (Pk_so hV))))))))
theorem pk_F_X10_isHere_J61 {G : mG} {r0 : Nat} {r1 : Nat} {x2 : Int} {V : mV} (hV : Ik m 5 V) : PkV (Ik m 5) (F_X10_isHere_J61 G r0 r1 x2 V) := by
  unfold F_X10_isHere_J61
  exact Pk_gd (Pk_gd (Pk_if (Pk_bd (Pk_lp (fun s V hV => pk_B_X10_isHere_76 hV) hV) (fun V41 _ hV41 => Pk_if (Pk_so hV41) (Pk_so hV41))) (Pk_so hV)))
theorem pk_F_X10_isHere {G : mG} {r0 : Nat} {r1 : Nat} {V : mV} (hV : Ik m 5 V) : PkV (Ik m 5) (F_X10_isHere G r0 r1 V) := by
  unfold F_X10_isHere
  exact Pk_gd (Pk_if (Pk_bd (pk_F_X10_look hV) (fun V3 _ hV3 => Pk_bd (pk_F_X10_isLetter hV3) (fun V6 _ hV6 => Pk_gd (Pk_if (Pk_so hV6) (Pk_gd (Pk_gd (Pk_if (Pk_so hV6) (Pk_lt (fun y14 => Pk_bd (Pk_lp (fun s V hV => pk_B_X10_isHere_35 hV) hV6) (fun V25 _ hV25 => pk_F_X10_isHere_J61 hV25)))))))))) (Pk_so hV))
theorem pk_F_X10_takes {G : mG} {r0 : Nat} {r1 : Nat} {V : mV} (hV : Ik m 5 V) : PkV (Ik m 5) (F_X10_takes G r0 r1 V) := by
  unfold F_X10_takes
  exact Pk_bd (pk_F_X10_isHere hV) (fun V1 _ hV1 => Pk_gd (Pk_if (Pk_so hV1) (Pk_ltV (Ik.sI (by decide) hV1) (fun V6 hV6 => Pk_ltV (Ik.sI (by decide) hV6) (fun V7 hV7 => Pk_so hV7)))))
theorem pk_F_X10_asks {G : mG} {r0 : Nat} {r1 : Nat} {V : mV} (hV : Ik m 5 V) : PkV (Ik m 5) (F_X10_asks G r0 r1 V) := by
  unfold F_X10_asks
  exact Pk_gd (Pk_if (Pk_bd (pk_F_X10_takes hV) (fun V3 _ hV3 => Pk_gd (Pk_if (Pk_bd (pk_F_X10_fail (by decide) _ hV3) (fun V8 _ hV8 => Pk_so hV8)) (Pk_so hV3)))) (Pk_so hV))
theorem pk_F_X10_takesSign {G : mG} {r0 : Nat} {x1 : Int} {V : mV} (hV : Ik m 5 V) : PkV (Ik m 5) (F_X10_takesSign G r0 x1 V) := by
  unfold F_X10_takesSign
  exact Pk_gd (Pk_if (Pk_bd (pk_F_X10_look hV) (fun V3 _ hV3 => Pk_gd (Pk_gd (Pk_if (Pk_ltV (Ik.sI (by decide) hV3) (fun V9 hV9 => Pk_so hV9)) (Pk_so hV3))))) (Pk_so hV))
theorem pk_F_X10_asksSign {G : mG} {r0 : Nat} {x1 : Int} {V : mV} (hV : Ik m 5 V) : PkV (Ik m 5) (F_X10_asksSign G r0 x1 V) := by
  unfold F_X10_asksSign
  exact Pk_gd (Pk_if (Pk_bd (pk_F_X10_takesSign hV) (fun V3 _ hV3 => Pk_gd (Pk_if (Pk_bd (pk_F_X10_fail (by decide) _ hV3) (fun V8 _ hV8 => Pk_so hV8)) (Pk_so hV3)))) (Pk_so hV))
theorem pk_F_X10_number_J30 {G : mG} {r0 : Nat} {x1 : Int} {x2 : Int} {V : mV} (hV : Ik m 5 V) : PkV (Ik m 5) (F_X10_number_J30 G r0 x1 x2 V) := by
  unfold F_X10_number_J30
  exact Pk_bd (pk_F_X10_fail (by decide) _ hV) (fun V11 _ hV11 => Pk_so hV11)
theorem pk_B_X10_number_49 {G : mG} {r0 : Nat} {x1 : Int} {x2 : Int} {x3 : Int} {x4 : Int} {V : mV} (hV : Ik m 5 V) : PkV (Ik m 5) (B_X10_number_49 G r0 x1 x2 x3 x4 V) := by
  unfold B_X10_number_49
  exact Pk_gd (Pk_gd (Pk_if (Pk_so hV) (Pk_gd (Pk_bd (pk_F_X10_isDigit hV) (fun V22 _ hV22 => Pk_gd (Pk_if (Pk_so hV22) (Pk_gd (Pk_if (Pk_so hV22) (Pk_gd (Pk_lt (fun y30 => Pk_ltV (Ik.sI (by decide) hV22) (fun V31 hV31 => Pk_so hV31))))))))))))
theorem pk_F_X10_number_J129 {G : mG} {r0 : Nat} {x1 : Int} {x2 : Int} {x3 : Int} {x4 : Int} {V : mV} (hV : Ik m 5 V) : PkV (Ik m 5) (F_X10_number_J129 G r0 x1 x2 x3 x4 V) := by
  unfold F_X10_number_J129
  exact Pk_ltV (Ik.sI (by decide) hV) (fun V39 hV39 => Pk_ltV (Ik.sI (by decide) hV39) (fun V40 hV40 => Pk_gd (Pk_gd (Pk_gd (Pk_bd (pk_F_X10_isIn hV40) (fun V44 _ hV44 => Pk_gd (Pk_if (Pk_bd (pk_F_X10_fail (by decide) _ hV44) (fun V49 _ hV49 => Pk_so hV49)) (Pk_so hV44))))))))
theorem pk_F_X10_number {G : mG} {r0 : Nat} {x1 : Int} {x2 : Int} {V : mV} (hV : Ik m 5 V) : PkV (Ik m 5) (F_X10_number G r0 x1 x2 V) := by
  unfold F_X10_number
  exact Pk_gd (Pk_if (Pk_bd (pk_F_X10_look hV) (fun V3 _ hV3 => Pk_bd (pk_F_X10_isDigit hV3) (fun V6 _ hV6 => Pk_gd (Pk_if (pk_F_X10_number_J30 hV6) (Pk_gd (Pk_gd (Pk_if (pk_F_X10_number_J30 hV6) (Pk_lt (fun y17 => Pk_bd (Pk_lp (fun s V hV => pk_B_X10_number_49 hV) hV6) (fun V32 _ hV32 => Pk_if (Pk_bd (pk_F_X10_fail (by decide) _ hV32) (fun V36 _ hV36 => Pk_so hV36)) (pk_F_X10_number_J129 hV32))))))))))) (Pk_so hV))
theorem pk_F_X10_isOwnHere_J223 {G : mG} {r0 : Nat} {s0 : Int} {V : mV} (hV : Ik m 5 V) : PkV (Ik m 5) (F_X10_isOwnHere_J223 G r0 s0 V) := by
  unfold F_X10_isOwnHere_J223
  exact Pk_gd (Pk_if (Pk_bd (pk_F_X10_isHere hV) (fun V12 _ hV12 => Pk_gd (Pk_if (Pk_bd (pk_F_X10_isHere hV12) (fun V17 _ hV17 => Pk_gd (Pk_if (Pk_bd (pk_F_X10_isHere hV17) (fun V22 _ hV22 => Pk_gd (Pk_if (Pk_bd (pk_F_X10_isHere hV22) (fun V27 _ hV27 => Pk_gd (Pk_if (Pk_bd (pk_F_X10_isHere hV27) (fun V32 _ hV32 => Pk_gd (Pk_if (Pk_bd (pk_F_X10_isHere hV32) (fun V37 _ hV37 => Pk_gd (Pk_if (Pk_so hV37) (Pk_so hV37)))) (Pk_so hV32)))) (Pk_so hV27)))) (Pk_so hV22)))) (Pk_so hV17)))) (Pk_so hV12)))) (Pk_so hV))
theorem pk_F_X10_isOwnHere_J218 {G : mG} {r0 : Nat} {V : mV} (hV : Ik m 5 V) : PkV (Ik m 5) (F_X10_isOwnHere_J218 G r0 V) := by
  unfold F_X10_isOwnHere_J218
  exact pk_F_X10_isOwnHere_J223 hV
theorem pk_F_X10_isOwnHere_J147 {G : mG} {r0 : Nat} {s0 : Int} {V : mV} (hV : Ik m 5 V) : PkV (Ik m 5) (F_X10_isOwnHere_J147 G r0 s0 V) := by
  unfold F_X10_isOwnHere_J147
  exact Pk_gd (Pk_if (Pk_bd (pk_F_X10_isHere hV) (fun V42 _ hV42 => Pk_gd (Pk_if (Pk_bd (pk_F_X10_isHere hV42) (fun V47 _ hV47 => Pk_gd (Pk_if (Pk_bd (pk_F_X10_isHere hV47) (fun V52 _ hV52 => Pk_gd (Pk_if (Pk_bd (pk_F_X10_isHere hV52) (fun V57 _ hV57 => Pk_gd (Pk_if (Pk_bd (pk_F_X10_isHere hV57) (fun V62 _ hV62 => Pk_gd (Pk_if (Pk_bd (pk_F_X10_isHere hV62) (fun V67 _ hV67 => Pk_gd (Pk_if (pk_F_X10_isOwnHere_J223 hV67) (pk_F_X10_isOwnHere_J218 hV67)))) (pk_F_X10_isOwnHere_J218 hV62)))) (pk_F_X10_isOwnHere_J218 hV57)))) (pk_F_X10_isOwnHere_J218 hV52)))) (pk_F_X10_isOwnHere_J218 hV47)))) (pk_F_X10_isOwnHere_J218 hV42)))) (pk_F_X10_isOwnHere_J218 hV))
theorem pk_F_X10_isOwnHere_J142 {G : mG} {r0 : Nat} {V : mV} (hV : Ik m 5 V) : PkV (Ik m 5) (F_X10_isOwnHere_J142 G r0 V) := by
  unfold F_X10_isOwnHere_J142
  exact pk_F_X10_isOwnHere_J147 hV
theorem pk_F_X10_isOwnHere_J71 {G : mG} {r0 : Nat} {s0 : Int} {V : mV} (hV : Ik m 5 V) : PkV (Ik m 5) (F_X10_isOwnHere_J71 G r0 s0 V) := by
  unfold F_X10_isOwnHere_J71
  exact Pk_gd (Pk_if (Pk_bd (pk_F_X10_isHere hV) (fun V72 _ hV72 => Pk_gd (Pk_if (Pk_bd (pk_F_X10_isHere hV72) (fun V77 _ hV77 => Pk_gd (Pk_if (Pk_bd (pk_F_X10_isHere hV77) (fun V82 _ hV82 => Pk_gd (Pk_if (Pk_bd (pk_F_X10_isHere hV82) (fun V87 _ hV87 => Pk_gd (Pk_if (Pk_bd (pk_F_X10_isHere hV87) (fun V92 _ hV92 => Pk_gd (Pk_if (Pk_bd (pk_F_X10_isHere hV92) (fun V97 _ hV97 => Pk_gd (Pk_if (pk_F_X10_isOwnHere_J147 hV97) (pk_F_X10_isOwnHere_J142 hV97)))) (pk_F_X10_isOwnHere_J142 hV92)))) (pk_F_X10_isOwnHere_J142 hV87)))) (pk_F_X10_isOwnHere_J142 hV82)))) (pk_F_X10_isOwnHere_J142 hV77)))) (pk_F_X10_isOwnHere_J142 hV72)))) (pk_F_X10_isOwnHere_J142 hV))
theorem pk_F_X10_isOwnHere_J66 {G : mG} {r0 : Nat} {V : mV} (hV : Ik m 5 V) : PkV (Ik m 5) (F_X10_isOwnHere_J66 G r0 V) := by
  unfold F_X10_isOwnHere_J66
  exact pk_F_X10_isOwnHere_J71 hV
theorem pk_F_X10_isOwnHere {G : mG} {r0 : Nat} {V : mV} (hV : Ik m 5 V) : PkV (Ik m 5) (F_X10_isOwnHere G r0 V) := by
  unfold F_X10_isOwnHere
  exact Pk_bd (pk_F_X10_isHere hV) (fun V1 _ hV1 => Pk_gd (Pk_if (Pk_bd (pk_F_X10_isHere hV1) (fun V102 _ hV102 => Pk_gd (Pk_if (Pk_bd (pk_F_X10_isHere hV102) (fun V107 _ hV107 => Pk_gd (Pk_if (Pk_bd (pk_F_X10_isHere hV107) (fun V112 _ hV112 => Pk_gd (Pk_if (Pk_bd (pk_F_X10_isHere hV112) (fun V117 _ hV117 => Pk_gd (Pk_if (Pk_bd (pk_F_X10_isHere hV117) (fun V122 _ hV122 => Pk_gd (Pk_if (pk_F_X10_isOwnHere_J71 hV122) (pk_F_X10_isOwnHere_J66 hV122)))) (pk_F_X10_isOwnHere_J66 hV117)))) (pk_F_X10_isOwnHere_J66 hV112)))) (pk_F_X10_isOwnHere_J66 hV107)))) (pk_F_X10_isOwnHere_J66 hV102)))) (pk_F_X10_isOwnHere_J66 hV1)))
theorem pk_F_X10_name_J37 {G : mG} {r0 : Nat} {V : mV} (hV : Ik m 5 V) : PkV (Ik m 5) (F_X10_name_J37 G r0 V) := by
  unfold F_X10_name_J37
  exact Pk_bd (pk_F_X10_fail (by decide) _ hV) (fun V11 _ hV11 => Pk_so hV11)
theorem pk_B_X10_name_58 {G : mG} {r0 : Nat} {x1 : Int} {V : mV} (hV : Ik m 5 V) : PkV (Ik m 5) (B_X10_name_58 G r0 x1 V) := by
  unfold B_X10_name_58
  exact Pk_gd (Pk_gd (Pk_if (Pk_so hV) (Pk_gd (Pk_bd (pk_F_X10_isLetter hV) (fun V27 _ hV27 => Pk_gd (Pk_if (Pk_so hV27) (Pk_gd (Pk_if (Pk_so hV27) (Pk_gd (Pk_gd (Pk_lt (fun y36 => Pk_ltV (Ik.sI (by decide) hV27) (fun V37 hV37 => Pk_so hV37)))))))))))))
theorem pk_F_X10_name {G : mG} {r0 : Nat} {V : mV} (hV : Ik m 5 V) : PkV (Ik m 5) (F_X10_name G r0 V) := by
  unfold F_X10_name
  exact Pk_gd (Pk_if (Pk_bd (pk_F_X10_look hV) (fun V3 _ hV3 => Pk_bd (pk_F_X10_isLetter hV3) (fun V6 _ hV6 => Pk_gd (Pk_if (pk_F_X10_name_J37 hV6) (Pk_gd (Pk_gd (Pk_if (pk_F_X10_name_J37 hV6) (Pk_bd (pk_F_X10_isOwnHere hV6) (fun V17 _ hV17 => Pk_gd (Pk_if (Pk_ltV (Ik.sI (by decide) hV17) (fun V22 hV22 => Pk_bd (Pk_lp (fun s V hV => pk_B_X10_name_58 hV) hV22) (fun V38 _ hV38 => Pk_if (Pk_bd (pk_F_X10_fail (by decide) _ hV38) (fun V42 _ hV42 => Pk_so hV42)) (Pk_ltV (Ik.sI (by decide) hV38) (fun V45 hV45 => Pk_so hV45))))) (pk_F_X10_name_J37 hV17))))))))))) (Pk_so hV))
theorem pk_F_X10_isAllowed {G : mG} {r0 : Nat} {x1 : Int} {V : mV} (hV : Ik m 5 V) : PkV (Ik m 5) (F_X10_isAllowed G r0 x1 V) := by
  unfold F_X10_isAllowed
  exact Pk_gd (Pk_if (Pk_gd (Pk_if (Pk_if (Pk_so hV) (Pk_so hV)) (Pk_if (Pk_if (Pk_so hV) (Pk_if (Pk_so hV) (Pk_if (Pk_so hV) (Pk_so hV)))) (Pk_if (Pk_if (Pk_so hV) (Pk_if (Pk_so hV) (Pk_if (Pk_so hV) (Pk_so hV)))) (Pk_if (Pk_so hV) (Pk_so hV)))))) (Pk_so hV))
theorem pk_F_X10_isFull_J23 {G : mG} {r0 : Nat} {x1 : Int} {x2 : Int} {x3 : Int} {V : mV} (hV : Ik m 5 V) : PkV (Ik m 5) (F_X10_isFull_J23 G r0 x1 x2 x3 V) := by
  unfold F_X10_isFull_J23
  exact Pk_gd (Pk_if (Pk_so hV) (Pk_so hV))
theorem pk_F_X10_isFull {G : mG} {r0 : Nat} {x1 : Int} {x2 : Int} {x3 : Int} {V : mV} (hV : Ik m 5 V) : PkV (Ik m 5) (F_X10_isFull G r0 x1 x2 x3 V) := by
  unfold F_X10_isFull
  exact Pk_gd (Pk_if (Pk_gd (Pk_gd (Pk_gd (Pk_if (Pk_bd (pk_F_X10_fail (by decide) _ hV) (fun V9 _ hV9 => pk_F_X10_isFull_J23 hV9)) (pk_F_X10_isFull_J23 hV))))) (pk_F_X10_isFull_J23 hV))
theorem pk_B_X10_nameOf_3 {G : mG} {r0 : Nat} {x1 : Int} {x2 : Int} {x4 : Int} {V : mV} (hV : Ik m 5 V) : PkV (Ik m 5) (B_X10_nameOf_3 G r0 x1 x2 x4 V) := by
  unfold B_X10_nameOf_3
  exact Pk_gd (Pk_gd (Pk_gd (Pk_if (Pk_so hV) (Pk_gd (Pk_gd (Pk_gd (Pk_if (Pk_so hV) (Pk_lt (fun y9 => Pk_so hV)))))))))
theorem pk_F_X10_nameOf {G : mG} {r0 : Nat} {x1 : Int} {x2 : Int} {V : mV} (hV : Ik m 5 V) : PkV (Ik m 5) (F_X10_nameOf G r0 x1 x2 V) := by
  unfold F_X10_nameOf
  exact Pk_bd (Pk_lp (fun s V hV => pk_B_X10_nameOf_3 hV) hV) (fun V10 _ hV10 => Pk_if (Pk_so hV10) (Pk_so hV10))
theorem pk_B_X10_newName_7 {G : mG} {r0 : Nat} {x1 : Int} {x3 : Int} {V : mV} (hV : Ik m 5 V) : PkV (Ik m 5) (B_X10_newName_7 G r0 x1 x3 V) := by
  unfold B_X10_newName_7
  exact Pk_gd (Pk_if (Pk_so hV) (Pk_gd (Pk_if (Pk_bd (pk_F_X10_nameOf hV) (fun V9 _ hV9 => Pk_gd (Pk_if (Pk_lt (fun y14 => Pk_so hV9)) (Pk_bd (pk_F_X10_fail (by decide) _ hV9) (fun V15 _ hV15 => Pk_lt (fun y18 => Pk_so hV15)))))) (Pk_lt (fun y8 => Pk_so hV)))))
theorem pk_F_X10_newName {G : mG} {r0 : Nat} {V : mV} (hV : Ik m 5 V) : PkV (Ik m 5) (F_X10_newName G r0 V) := by
  unfold F_X10_newName
  exact Pk_bd (pk_F_X10_name hV) (fun V1 _ hV1 => Pk_bd (Pk_lp (fun s V hV => pk_B_X10_newName_7 hV) hV1) (fun V19 _ hV19 => Pk_so hV19))
theorem pk_F_X10_oneOf_J35 {G : mG} {r0 : Nat} {x1 : Int} {x4 : Int} {V : mV} (hV : Ik m 5 V) : PkV (Ik m 5) (F_X10_oneOf_J35 G r0 x1 x4 V) := by
  unfold F_X10_oneOf_J35
  exact Pk_gd (Pk_if (Pk_so hV) (Pk_so hV))
theorem pk_F_X10_oneOf {G : mG} {r0 : Nat} {x1 : Int} {V : mV} (hV : Ik m 5 V) : PkV (Ik m 5) (F_X10_oneOf G r0 x1 V) := by
  unfold F_X10_oneOf
  exact Pk_bd (pk_F_X10_name hV) (fun V1 _ hV1 => Pk_bd (pk_F_X10_nameOf hV1) (fun V4 _ hV4 => Pk_gd (Pk_if (Pk_gd (Pk_if (Pk_bd (pk_F_X10_fail (by decide) _ hV4) (fun V13 _ hV13 => pk_F_X10_oneOf_J35 hV13)) (pk_F_X10_oneOf_J35 hV4))) (pk_F_X10_oneOf_J35 hV4))))
theorem pk_F_X10_personTold_J111_81 {G : mG} {r0 : Nat} {x1 : Int} {x2 : Int} {x6 : Int} {s1 : Int} {s2 : Int} {V : mV} (hV : Ik m 5 V) : PkV (Ik m 5) (F_X10_personTold_J111_81 G r0 x1 x2 x6 s1 s2 V) := by
  unfold F_X10_personTold_J111_81
  exact Pk_gd (Pk_ltV (Ik.sA hV) (fun V29 hV29 => Pk_gd (Pk_gd (Pk_if (Pk_gd (Pk_ltV (Ik.sA hV29) (fun V37 hV37 => Pk_lt (fun y38 => Pk_so hV37)))) (Pk_gd (Pk_ltV (Ik.sA hV29) (fun V34 hV34 => Pk_lt (fun y35 => Pk_so hV34))))))))
theorem pk_B_X10_personTold_81 {G : mG} {r0 : Nat} {x1 : Int} {x2 : Int} {x6 : Int} {V : mV} (hV : Ik m 5 V) : PkV (Ik m 5) (B_X10_personTold_81 G r0 x1 x2 x6 V) := by
  unfold B_X10_personTold_81
  exact Pk_gd (Pk_if (Pk_so hV) (Pk_gd (Pk_if (pk_F_X10_personTold_J111_81 hV) (pk_F_X10_personTold_J111_81 hV))))
theorem pk_F_X10_personTold {G : mG} {r0 : Nat} {x1 : Int} {V : mV} (hV : Ik m 5 V) : PkV (Ik m 5) (F_X10_personTold G r0 x1 V) := by
  unfold F_X10_personTold
  exact Pk_bd (pk_F_X10_isFull hV) (fun V1 _ hV1 => Pk_gd (Pk_if (Pk_lt (fun y6 => Pk_bd (pk_F_X10_newName hV1) (fun V7 _ hV7 => Pk_bd (pk_F_X10_asks hV7) (fun V10 _ hV10 => Pk_bd (pk_F_X10_number hV10) (fun V13 _ hV13 => Pk_gd (Pk_if (Pk_gd (Pk_ltV (Ik.sL hV13) (fun V19 hV19 => Pk_ltV (Ik.sA hV19) (fun V20 hV20 => Pk_gd (Pk_ltV (Ik.sA hV20) (fun V22 hV22 => Pk_ltV (Ik.sA hV22) (fun V23 hV23 => Pk_bd (Pk_lp (fun s V hV => pk_B_X10_personTold_81 hV) hV23) (fun V39 _ hV39 => Pk_ltV (Ik.sA hV39) (fun V43 hV43 => Pk_so hV43))))))))) (Pk_so hV13))))))) (Pk_so hV1)))
theorem pk_F_X10_taskTold {G : mG} {r0 : Nat} {x1 : Int} {V : mV} (hV : Ik m 5 V) : PkV (Ik m 5) (F_X10_taskTold G r0 x1 V) := by
  unfold F_X10_taskTold
  exact Pk_bd (pk_F_X10_isFull hV) (fun V1 _ hV1 => Pk_gd (Pk_if (Pk_bd (pk_F_X10_newName hV1) (fun V6 _ hV6 => Pk_bd (pk_F_X10_asks hV6) (fun V9 _ hV9 => Pk_bd (pk_F_X10_number hV9) (fun V12 _ hV12 => Pk_gd (Pk_if (Pk_gd (Pk_ltV (Ik.sL hV12) (fun V18 hV18 => Pk_gd (Pk_ltV (Ik.sA hV18) (fun V20 hV20 => Pk_ltV (Ik.sA hV20) (fun V21 hV21 => Pk_so hV21)))))) (Pk_so hV12)))))) (Pk_so hV1)))
theorem pk_B_X10_dutyTold_44 {G : mG} {r0 : Nat} {x1 : Int} {x2 : Int} {x3 : Int} {x4 : Int} {x5 : Int} {V : mV} (hV : Ik m 5 V) : PkV (Ik m 5) (B_X10_dutyTold_44 G r0 x1 x2 x3 x4 x5 V) := by
  unfold B_X10_dutyTold_44
  exact Pk_gd (Pk_gd (Pk_if (Pk_so hV) (Pk_gd (Pk_if (Pk_gd (Pk_gd (Pk_gd (Pk_if (Pk_gd (Pk_gd (Pk_gd (Pk_if (Pk_gd (Pk_gd (Pk_gd (Pk_if (Pk_bd (pk_F_X10_fail (by decide) _ hV) (fun V39 _ hV39 => Pk_lt (fun y42 => Pk_so hV39))) (Pk_lt (fun y38 => Pk_so hV)))))) (Pk_lt (fun y33 => Pk_so hV)))))) (Pk_lt (fun y28 => Pk_so hV)))))) (Pk_lt (fun y23 => Pk_so hV))))))
theorem pk_F_X10_dutyTold {G : mG} {r0 : Nat} {x1 : Int} {V : mV} (hV : Ik m 5 V) : PkV (Ik m 5) (F_X10_dutyTold G r0 x1 V) := by
  unfold F_X10_dutyTold
  exact Pk_bd (pk_F_X10_isFull hV) (fun V1 _ hV1 => Pk_gd (Pk_if (Pk_bd (pk_F_X10_oneOf hV1) (fun V6 _ hV6 => Pk_bd (pk_F_X10_oneOf hV6) (fun V9 _ hV9 => Pk_bd (pk_F_X10_asks hV9) (fun V12 _ hV12 => Pk_bd (pk_F_X10_number hV12) (fun V15 _ hV15 => Pk_bd (Pk_lp (fun s V hV => pk_B_X10_dutyTold_44 hV) hV15) (fun V43 _ hV43 => Pk_gd (Pk_if (Pk_lt (fun y49 => Pk_gd (Pk_ltV (Ik.sA hV43) (fun V51 hV51 => Pk_gd (Pk_ltV (Ik.sA hV51) (fun V53 hV53 => Pk_gd (Pk_ltV (Ik.sA hV53) (fun V55 hV55 => Pk_ltV (Ik.sA hV55) (fun V56 hV56 => Pk_so hV56))))))))) (Pk_so hV43)))))))) (Pk_so hV1)))
theorem pk_F_X10_coverTold_J69 {G : mG} {r0 : Nat} {x1 : Int} {x2 : Int} {V : mV} (hV : Ik m 5 V) : PkV (Ik m 5) (F_X10_coverTold_J69 G r0 x1 x2 V) := by
  unfold F_X10_coverTold_J69
  exact Pk_gd (Pk_if (Pk_gd (Pk_ltV (Ik.sA hV) (fun V14 hV14 => Pk_gd (Pk_ltV (Ik.sA hV14) (fun V16 hV16 => Pk_so hV16))))) (Pk_so hV))
theorem pk_F_X10_coverTold_J60 {G : mG} {r0 : Nat} {x1 : Int} {x2 : Int} {V : mV} (hV : Ik m 5 V) : PkV (Ik m 5) (F_X10_coverTold_J60 G r0 x1 x2 V) := by
  unfold F_X10_coverTold_J60
  exact Pk_bd (pk_F_X10_fail (by decide) _ hV) (fun V20 _ hV20 => pk_F_X10_coverTold_J69 hV20)
theorem pk_F_X10_coverTold_J32 {G : mG} {r0 : Nat} {x1 : Int} {V : mV} (hV : Ik m 5 V) : PkV (Ik m 5) (F_X10_coverTold_J32 G r0 x1 V) := by
  unfold F_X10_coverTold_J32
  exact Pk_bd (pk_F_X10_oneOf hV) (fun V6 _ hV6 => Pk_gd (Pk_if (Pk_gd (Pk_gd (Pk_if (pk_F_X10_coverTold_J60 hV6) (Pk_gd (Pk_gd (Pk_if (pk_F_X10_coverTold_J69 hV6) (pk_F_X10_coverTold_J60 hV6))))))) (pk_F_X10_coverTold_J69 hV6)))
theorem pk_F_X10_coverTold {G : mG} {r0 : Nat} {V : mV} (hV : Ik m 5 V) : PkV (Ik m 5) (F_X10_coverTold G r0 V) := by
  unfold F_X10_coverTold
  exact Pk_bd (pk_F_X10_oneOf hV) (fun V1 _ hV1 => Pk_gd (Pk_if (Pk_gd (Pk_gd (Pk_if (pk_F_X10_coverTold_J32 hV1) (Pk_bd (pk_F_X10_fail (by decide) _ hV1) (fun V29 _ hV29 => pk_F_X10_coverTold_J32 hV29))))) (pk_F_X10_coverTold_J32 hV1)))
theorem pk_F_X10_knownTold_J33 {G : mG} {r0 : Nat} {x1 : Int} {x2 : Int} {V : mV} (hV : Ik m 5 V) : PkV (Ik m 5) (F_X10_knownTold_J33 G r0 x1 x2 V) := by
  unfold F_X10_knownTold_J33
  exact Pk_bd (pk_F_X10_number hV) (fun V9 _ hV9 => Pk_gd (Pk_if (Pk_gd (Pk_ltV (Ik.sA hV9) (fun V15 hV15 => Pk_so hV15))) (Pk_so hV9)))
theorem pk_F_X10_knownTold {G : mG} {r0 : Nat} {V : mV} (hV : Ik m 5 V) : PkV (Ik m 5) (F_X10_knownTold G r0 V) := by
  unfold F_X10_knownTold
  exact Pk_bd (pk_F_X10_oneOf hV) (fun V1 _ hV1 => Pk_bd (pk_F_X10_oneOf hV1) (fun V4 _ hV4 => Pk_gd (Pk_if (Pk_gd (Pk_gd (Pk_if (Pk_bd (pk_F_X10_fail (by decide) _ hV4) (fun V19 _ hV19 => pk_F_X10_knownTold_J33 hV19)) (pk_F_X10_knownTold_J33 hV4)))) (pk_F_X10_knownTold_J33 hV4))))
theorem pk_F_X10_qCode {G : mG} {r0 : Nat} {x1 : Int} {V : mV} (hV : Ik m 5 V) : PkV (Ik m 5) (F_X10_qCode G r0 x1 V) := by
  unfold F_X10_qCode
  exact Pk_gd (Pk_ltV (Ik.sA hV) (fun V2 hV2 => Pk_ltV (Ik.sI (by decide) hV2) (fun V3 hV3 => Pk_so hV3)))
theorem pk_F_X10_qDrops {G : mG} {r0 : Nat} {V : mV} (hV : Ik m 5 V) : PkV (Ik m 5) (F_X10_qDrops G r0 V) := by
  unfold F_X10_qDrops
  exact Pk_ltV (Ik.sI (by decide) hV) (fun V1 hV1 => Pk_gd (Pk_bd (pk_F_X10_qCode hV1) (fun V3 _ hV3 => Pk_so hV3)))
theorem pk_F_X10_qIsBracket {G : mG} {x0 : Int} {V : mV} (hV : Ik m 5 V) : PkV (Ik m 5) (F_X10_qIsBracket G x0 V) := by
  unfold F_X10_qIsBracket
  exact Pk_gd (Pk_if (Pk_so hV) (Pk_if (Pk_so hV) (Pk_so hV)))
theorem pk_B_X10_qBracket_7 {G : mG} {r0 : Nat} {x1 : Int} {V : mV} (hV : Ik m 5 V) : PkV (Ik m 5) (B_X10_qBracket_7 G r0 x1 V) := by
  unfold B_X10_qBracket_7
  exact Pk_gd (Pk_gd (Pk_if (Pk_so hV) (Pk_gd (Pk_bd (pk_F_X10_qIsBracket hV) (fun V6 _ hV6 => Pk_gd (Pk_if (Pk_lt (fun y11 => Pk_so hV6)) (Pk_so hV6)))))))
theorem pk_F_X10_qBracket_J33 {G : mG} {r0 : Nat} {x1 : Int} {V : mV} (hV : Ik m 5 V) : PkV (Ik m 5) (F_X10_qBracket_J33 G r0 x1 V) := by
  unfold F_X10_qBracket_J33
  exact Pk_gd (Pk_gd (Pk_if (Pk_so hV) (Pk_gd (Pk_so hV))))
theorem pk_F_X10_qBracket {G : mG} {r0 : Nat} {V : mV} (hV : Ik m 5 V) : PkV (Ik m 5) (F_X10_qBracket G r0 V) := by
  unfold F_X10_qBracket
  exact Pk_lt (fun y1 => Pk_bd (Pk_lp (fun s V hV => pk_B_X10_qBracket_7 hV) hV) (fun V12 _ hV12 => pk_F_X10_qBracket_J33 hV12))
theorem pk_B_X10_qDropsToBracket_0 {G : mG} {r0 : Nat} {V : mV} (hV : Ik m 5 V) : PkV (Ik m 5) (B_X10_qDropsToBracket_0 G r0 V) := by
  unfold B_X10_qDropsToBracket_0
  exact Pk_gd (Pk_gd (Pk_if (Pk_so hV) (Pk_gd (Pk_bd (pk_F_X10_qIsBracket hV) (fun V5 _ hV5 => Pk_gd (Pk_if (Pk_bd (pk_F_X10_qDrops hV5) (fun V10 _ hV10 => Pk_so hV10)) (Pk_so hV5)))))))
theorem pk_F_X10_qDropsToBracket {G : mG} {r0 : Nat} {V : mV} (hV : Ik m 5 V) : PkV (Ik m 5) (F_X10_qDropsToBracket G r0 V) := by
  unfold F_X10_qDropsToBracket
  exact Pk_bd (Pk_lp (fun s V hV => pk_B_X10_qDropsToBracket_0 hV) hV) (fun V13 _ hV13 => Pk_so hV13)
theorem pk_B_X10_qEndsPart_0 {G : mG} {r0 : Nat} {V : mV} (hV : Ik m 5 V) : PkV (Ik m 5) (B_X10_qEndsPart_0 G r0 V) := by
  unfold B_X10_qEndsPart_0
  exact Pk_gd (Pk_if (Pk_gd (Pk_gd (Pk_if (Pk_so hV) (Pk_gd (Pk_gd (Pk_if (Pk_so hV) (Pk_ltV (Ik.sI (by decide) hV) (fun V9 hV9 => Pk_bd (pk_F_X10_qDrops hV9) (fun V10 _ hV10 => Pk_so hV10))))))))) (Pk_so hV))
theorem pk_F_X10_qEndsPart {G : mG} {r0 : Nat} {V : mV} (hV : Ik m 5 V) : PkV (Ik m 5) (F_X10_qEndsPart G r0 V) := by
  unfold F_X10_qEndsPart
  exact Pk_bd (Pk_lp (fun s V hV => pk_B_X10_qEndsPart_0 hV) hV) (fun V13 _ hV13 => Pk_so hV13)
theorem pk_F_X10_qIsOn {G : mG} {r0 : Nat} {x1 : Int} {V : mV} (hV : Ik m 5 V) : PkV (Ik m 5) (F_X10_qIsOn G r0 x1 V) := by
  unfold F_X10_qIsOn
  exact Pk_gd (Pk_if (Pk_so hV) (Pk_gd (Pk_gd (Pk_gd (Pk_if (Pk_so hV) (Pk_so hV))))))
theorem pk_F_X10_qGoesOn_J112_0 {G : mG} {r0 : Nat} {s1 : Int} {V : mV} (hV : Ik m 5 V) : PkV (Ik m 5) (F_X10_qGoesOn_J112_0 G r0 s1 V) := by
  unfold F_X10_qGoesOn_J112_0
  exact Pk_bd (pk_F_X10_qCode hV) (fun V26 _ hV26 => Pk_bd (pk_F_X10_qEndsPart hV26) (fun V29 _ hV29 => Pk_so hV29))
theorem pk_F_X10_qGoesOn_J43_0 {G : mG} {r0 : Nat} {V : mV} (hV : Ik m 5 V) : PkV (Ik m 5) (F_X10_qGoesOn_J43_0 G r0 V) := by
  unfold F_X10_qGoesOn_J43_0
  exact Pk_ltV (Ik.sI (by decide) hV) (fun V13 hV13 => Pk_bd (pk_F_X10_qDropsToBracket hV13) (fun V14 _ hV14 => Pk_ltV (Ik.sI (by decide) hV14) (fun V17 hV17 => Pk_ltV (Ik.sI (by decide) hV17) (fun V18 hV18 => Pk_gd (Pk_gd (Pk_if (Pk_bd (pk_F_X10_qEndsPart hV18) (fun V22 _ hV22 => Pk_so hV22)) (Pk_if (pk_F_X10_qGoesOn_J112_0 hV18) (pk_F_X10_qGoesOn_J112_0 hV18))))))))
theorem pk_B_X10_qGoesOn_0 {G : mG} {r0 : Nat} {V : mV} (hV : Ik m 5 V) : PkV (Ik m 5) (B_X10_qGoesOn_0 G r0 V) := by
  unfold B_X10_qGoesOn_0
  exact Pk_gd (Pk_if (Pk_bd (pk_F_X10_look hV) (fun V3 _ hV3 => Pk_gd (Pk_if (Pk_bd (pk_F_X10_qBracket hV3) (fun V8 _ hV8 => Pk_gd (Pk_if (pk_F_X10_qGoesOn_J43_0 hV8) (Pk_bd (pk_F_X10_qBracket hV8) (fun V32 _ hV32 => Pk_gd (Pk_if (pk_F_X10_qGoesOn_J43_0 hV32) (Pk_bd (pk_F_X10_qBracket hV32) (fun V37 _ hV37 => Pk_gd (Pk_if (pk_F_X10_qGoesOn_J43_0 hV37) (Pk_so hV37)))))))))) (Pk_so hV3)))) (Pk_so hV))
theorem pk_B_X10_qGoesOn_162 {G : mG} {r0 : Nat} {x1 : Int} {V : mV} (hV : Ik m 5 V) : PkV (Ik m 5) (B_X10_qGoesOn_162 G r0 x1 V) := by
  unfold B_X10_qGoesOn_162
  exact Pk_bd (pk_F_X10_qIsOn hV) (fun V54 _ hV54 => Pk_gd (Pk_if (Pk_bd (pk_F_X10_qIsOn hV54) (fun V62 _ hV62 => Pk_gd (Pk_if (Pk_so hV62) (Pk_bd (pk_F_X10_qDrops hV62) (fun V67 _ hV67 => Pk_so hV67))))) (Pk_bd (pk_F_X10_qDrops hV54) (fun V59 _ hV59 => Pk_so hV59))))
theorem pk_F_X10_qGoesOn_J161 {G : mG} {r0 : Nat} {s0 : Int} {V : mV} (hV : Ik m 5 V) : PkV (Ik m 5) (F_X10_qGoesOn_J161 G r0 s0 V) := by
  unfold F_X10_qGoesOn_J161
  exact Pk_bd (Pk_lp (fun s V hV => pk_B_X10_qGoesOn_162 hV) hV) (fun V70 _ hV70 => Pk_gd (Pk_ltV (Ik.sA hV70) (fun V75 hV75 => Pk_ltV (Ik.sI (by decide) hV75) (fun V76 hV76 => Pk_so hV76))))
theorem pk_F_X10_qGoesOn_J140 {G : mG} {r0 : Nat} {V : mV} (hV : Ik m 5 V) : PkV (Ik m 5) (F_X10_qGoesOn_J140 G r0 V) := by
  unfold F_X10_qGoesOn_J140
  exact Pk_gd (Pk_gd (Pk_if (pk_F_X10_qGoesOn_J161 hV) (pk_F_X10_qGoesOn_J161 hV)))
theorem pk_B_X10_qGoesOn_247 {G : mG} {r0 : Nat} {x1 : Int} {V : mV} (hV : Ik m 5 V) : PkV (Ik m 5) (B_X10_qGoesOn_247 G r0 x1 V) := by
  unfold B_X10_qGoesOn_247
  exact Pk_bd (pk_F_X10_qIsOn hV) (fun V90 _ hV90 => Pk_gd (Pk_if (Pk_bd (pk_F_X10_qIsOn hV90) (fun V98 _ hV98 => Pk_gd (Pk_if (Pk_bd (pk_F_X10_qIsOn hV98) (fun V106 _ hV106 => Pk_gd (Pk_if (Pk_bd (pk_F_X10_qIsOn hV106) (fun V114 _ hV114 => Pk_gd (Pk_if (Pk_so hV114) (Pk_bd (pk_F_X10_qDrops hV114) (fun V119 _ hV119 => Pk_so hV119))))) (Pk_bd (pk_F_X10_qDrops hV106) (fun V111 _ hV111 => Pk_so hV111))))) (Pk_bd (pk_F_X10_qDrops hV98) (fun V103 _ hV103 => Pk_so hV103))))) (Pk_bd (pk_F_X10_qDrops hV90) (fun V95 _ hV95 => Pk_so hV95))))
theorem pk_F_X10_qGoesOn_J246 {G : mG} {r0 : Nat} {s0 : Int} {V : mV} (hV : Ik m 5 V) : PkV (Ik m 5) (F_X10_qGoesOn_J246 G r0 s0 V) := by
  unfold F_X10_qGoesOn_J246
  exact Pk_bd (Pk_lp (fun s V hV => pk_B_X10_qGoesOn_247 hV) hV) (fun V122 _ hV122 => Pk_gd (Pk_ltV (Ik.sA hV122) (fun V127 hV127 => Pk_ltV (Ik.sI (by decide) hV127) (fun V128 hV128 => Pk_so hV128))))
theorem pk_F_X10_qGoesOn_J225 {G : mG} {r0 : Nat} {V : mV} (hV : Ik m 5 V) : PkV (Ik m 5) (F_X10_qGoesOn_J225 G r0 V) := by
  unfold F_X10_qGoesOn_J225
  exact Pk_gd (Pk_gd (Pk_if (pk_F_X10_qGoesOn_J246 hV) (pk_F_X10_qGoesOn_J246 hV)))
theorem pk_F_X10_qGoesOn_J326 {G : mG} {r0 : Nat} {V : mV} (hV : Ik m 5 V) : PkV (Ik m 5) (F_X10_qGoesOn_J326 G r0 V) := by
  unfold F_X10_qGoesOn_J326
  exact Pk_bd (pk_F_X10_asksSign hV) (fun V139 _ hV139 => Pk_gd (Pk_if (Pk_bd (pk_F_X10_qDropsToBracket hV139) (fun V144 _ hV144 => Pk_gd (Pk_ltV (Ik.sA hV144) (fun V148 hV148 => Pk_so hV148)))) (Pk_so hV139)))
theorem pk_F_X10_qGoesOn_J122 {G : mG} {r0 : Nat} {V : mV} (hV : Ik m 5 V) : PkV (Ik m 5) (F_X10_qGoesOn_J122 G r0 V) := by
  unfold F_X10_qGoesOn_J122
  exact Pk_bd (pk_F_X10_takesSign hV) (fun V46 _ hV46 => Pk_gd (Pk_if (Pk_bd (pk_F_X10_takesSign hV46) (fun V77 _ hV77 => Pk_gd (Pk_if (Pk_bd (pk_F_X10_takesSign hV77) (fun V82 _ hV82 => Pk_gd (Pk_if (Pk_bd (pk_F_X10_takesSign hV82) (fun V129 _ hV129 => Pk_gd (Pk_if (Pk_bd (pk_F_X10_qBracket hV129) (fun V134 _ hV134 => Pk_gd (Pk_if (pk_F_X10_qGoesOn_J326 hV134) (Pk_bd (pk_F_X10_qBracket hV134) (fun V149 _ hV149 => Pk_gd (Pk_if (pk_F_X10_qGoesOn_J326 hV149) (Pk_bd (pk_F_X10_qBracket hV149) (fun V154 _ hV154 => Pk_gd (Pk_if (Pk_so hV154) (Pk_gd (Pk_if (Pk_bd (pk_F_X10_fail (by decide) _ hV154) (fun V161 _ hV161 => Pk_so hV161)) (Pk_so hV154)))))))))))) (pk_F_X10_qGoesOn_J225 hV129)))) (pk_F_X10_qGoesOn_J225 hV82)))) (pk_F_X10_qGoesOn_J140 hV77)))) (pk_F_X10_qGoesOn_J140 hV46)))
theorem pk_F_X10_qGoesOn {G : mG} {r0 : Nat} {V : mV} (hV : Ik m 5 V) : PkV (Ik m 5) (F_X10_qGoesOn G r0 V) := by
  unfold F_X10_qGoesOn
  exact Pk_bd (Pk_lp (fun s V hV => pk_B_X10_qGoesOn_0 hV) hV) (fun V42 _ hV42 => pk_F_X10_qGoesOn_J122 hV42)
theorem pk_F_X10_qAsksWord {G : mG} {r0 : Nat} {x1 : Int} {V : mV} (hV : Ik m 5 V) : PkV (Ik m 5) (F_X10_qAsksWord G r0 x1 V) := by
  unfold F_X10_qAsksWord
  exact Pk_gd (Pk_if (Pk_bd (pk_F_X10_asks hV) (fun V3 _ hV3 => Pk_so hV3)) (Pk_if (Pk_bd (pk_F_X10_asks hV) (fun V7 _ hV7 => Pk_so hV7)) (Pk_if (Pk_bd (pk_F_X10_asks hV) (fun V11 _ hV11 => Pk_so hV11)) (Pk_if (Pk_bd (pk_F_X10_asks hV) (fun V15 _ hV15 => Pk_so hV15)) (Pk_if (Pk_bd (pk_F_X10_asks hV) (fun V19 _ hV19 => Pk_so hV19)) (Pk_if (Pk_bd (pk_F_X10_asks hV) (fun V23 _ hV23 => Pk_so hV23)) (Pk_if (Pk_bd (pk_F_X10_asks hV) (fun V27 _ hV27 => Pk_so hV27)) (Pk_if (Pk_bd (pk_F_X10_asks hV) (fun V31 _ hV31 => Pk_so hV31)) (Pk_if (Pk_bd (pk_F_X10_asks hV) (fun V35 _ hV35 => Pk_so hV35)) (Pk_if (Pk_bd (pk_F_X10_asks hV) (fun V39 _ hV39 => Pk_so hV39)) (Pk_bd (pk_F_X10_asks hV) (fun V42 _ hV42 => Pk_so hV42))))))))))))
theorem pk_F_X10_qOpens {G : mG} {r0 : Nat} {x1 : Int} {x2 : Int} {V : mV} (hV : Ik m 5 V) : PkV (Ik m 5) (F_X10_qOpens G r0 x1 x2 V) := by
  unfold F_X10_qOpens
  exact Pk_gd (Pk_if (Pk_gd (Pk_if (Pk_bd (pk_F_X10_fail (by decide) _ hV) (fun V9 _ hV9 => Pk_so hV9)) (Pk_ltV (Ik.sI (by decide) hV) (fun V5 hV5 => Pk_gd (Pk_ltV (Ik.sA hV5) (fun V7 hV7 => Pk_ltV (Ik.sI (by decide) hV7) (fun V8 hV8 => Pk_so hV8))))))) (Pk_so hV))
theorem pk_F_X10_qWordHere {G : mG} {r0 : Nat} {V : mV} (hV : Ik m 5 V) : PkV (Ik m 5) (F_X10_qWordHere G r0 V) := by
  unfold F_X10_qWordHere
  exact Pk_bd (pk_F_X10_isHere hV) (fun V1 _ hV1 => Pk_gd (Pk_if (Pk_bd (pk_F_X10_isHere hV1) (fun V6 _ hV6 => Pk_gd (Pk_if (Pk_bd (pk_F_X10_isHere hV6) (fun V11 _ hV11 => Pk_gd (Pk_if (Pk_bd (pk_F_X10_isHere hV11) (fun V16 _ hV16 => Pk_gd (Pk_if (Pk_bd (pk_F_X10_isHere hV16) (fun V21 _ hV21 => Pk_gd (Pk_if (Pk_bd (pk_F_X10_isHere hV21) (fun V26 _ hV26 => Pk_gd (Pk_if (Pk_bd (pk_F_X10_isHere hV26) (fun V31 _ hV31 => Pk_gd (Pk_if (Pk_bd (pk_F_X10_isHere hV31) (fun V36 _ hV36 => Pk_gd (Pk_if (Pk_bd (pk_F_X10_isHere hV36) (fun V41 _ hV41 => Pk_gd (Pk_if (Pk_bd (pk_F_X10_isHere hV41) (fun V46 _ hV46 => Pk_gd (Pk_if (Pk_so hV46) (Pk_so hV46)))) (Pk_so hV41)))) (Pk_so hV36)))) (Pk_so hV31)))) (Pk_so hV26)))) (Pk_so hV21)))) (Pk_so hV16)))) (Pk_gd (Pk_if (Pk_so hV11) (Pk_so hV11)))))) (Pk_so hV6)))) (Pk_so hV1)))
theorem pk_F_X10_qWordOf {G : mG} {r0 : Nat} {x1 : Int} {x2 : Int} {V : mV} (hV : Ik m 5 V) : PkV (Ik m 5) (F_X10_qWordOf G r0 x1 x2 V) := by
  unfold F_X10_qWordOf
  exact Pk_bd (pk_F_X10_qWordHere hV) (fun V1 _ hV1 => Pk_gd (Pk_gd (Pk_if (Pk_so hV1) (Pk_gd (Pk_if (Pk_so hV1) (Pk_bd (pk_F_X10_isAllowed hV1) (fun V9 _ hV9 => Pk_gd (Pk_if (Pk_so hV9) (Pk_so hV9)))))))))
theorem pk_F_X10_qPartTold_J144_2 {G : mG} {r0 : Nat} {x1 : Int} {V : mV} (hV : Ik m 5 V) : PkV (Ik m 5) (F_X10_qPartTold_J144_2 G r0 x1 V) := by
  unfold F_X10_qPartTold_J144_2
  exact Pk_bd (pk_F_X10_asksSign hV) (fun V30 _ hV30 => Pk_so hV30)
theorem pk_F_X10_qPartTold_J139_2 {G : mG} {r0 : Nat} {x1 : Int} {x5 : Int} {s1 : Int} {V : mV} (hV : Ik m 5 V) : PkV (Ik m 5) (F_X10_qPartTold_J139_2 G r0 x1 x5 s1 V) := by
  unfold F_X10_qPartTold_J139_2
  exact Pk_bd (pk_F_X10_qOpens hV) (fun V35 _ hV35 => pk_F_X10_qPartTold_J144_2 hV35)
theorem pk_F_X10_qPartTold_J118_2 {G : mG} {r0 : Nat} {x1 : Int} {x4 : Int} {s0 : Int} {V : mV} (hV : Ik m 5 V) : PkV (Ik m 5) (F_X10_qPartTold_J118_2 G r0 x1 x4 s0 V) := by
  unfold F_X10_qPartTold_J118_2
  exact Pk_gd (Pk_if (pk_F_X10_qPartTold_J144_2 hV) (Pk_gd (Pk_if (pk_F_X10_qPartTold_J139_2 hV) (pk_F_X10_qPartTold_J139_2 hV))))
theorem pk_F_X10_qPartTold_J101_2 {G : mG} {r0 : Nat} {x1 : Int} {x4 : Int} {V : mV} (hV : Ik m 5 V) : PkV (Ik m 5) (F_X10_qPartTold_J101_2 G r0 x1 x4 V) := by
  unfold F_X10_qPartTold_J101_2
  exact Pk_bd (pk_F_X10_look hV) (fun V23 _ hV23 => Pk_gd (Pk_if (pk_F_X10_qPartTold_J118_2 hV23) (pk_F_X10_qPartTold_J118_2 hV23)))
theorem pk_F_X10_qPartTold_J78_2 {G : mG} {r0 : Nat} {x1 : Int} {V : mV} (hV : Ik m 5 V) : PkV (Ik m 5) (F_X10_qPartTold_J78_2 G r0 x1 V) := by
  unfold F_X10_qPartTold_J78_2
  exact Pk_bd (pk_F_X10_takes hV) (fun V18 _ hV18 => Pk_gd (Pk_if (Pk_bd (pk_F_X10_asks hV18) (fun V38 _ hV38 => pk_F_X10_qPartTold_J101_2 hV38)) (pk_F_X10_qPartTold_J101_2 hV18)))
theorem pk_B_X10_qPartTold_2 {G : mG} {r0 : Nat} {x1 : Int} {V : mV} (hV : Ik m 5 V) : PkV (Ik m 5) (B_X10_qPartTold_2 G r0 x1 V) := by
  unfold B_X10_qPartTold_2
  exact Pk_gd (Pk_if (Pk_so hV) (Pk_gd (Pk_if (Pk_bd (pk_F_X10_look hV) (fun V5 _ hV5 => Pk_bd (pk_F_X10_qWordOf hV5) (fun V8 _ hV8 => Pk_gd (Pk_if (Pk_bd (pk_F_X10_qOpens hV8) (fun V54 _ hV54 => Pk_ltV (Ik.sI (by decide) hV54) (fun V57 hV57 => Pk_so hV57))) (Pk_bd (pk_F_X10_isHere hV8) (fun V13 _ hV13 => Pk_gd (Pk_if (Pk_bd (pk_F_X10_isHere hV13) (fun V41 _ hV41 => Pk_gd (Pk_if (Pk_gd (Pk_if (Pk_so hV41) (Pk_bd (pk_F_X10_qOpens hV41) (fun V48 _ hV48 => Pk_bd (pk_F_X10_qAsksWord hV48) (fun V51 _ hV51 => Pk_so hV51))))) (pk_F_X10_qPartTold_J78_2 hV41)))) (pk_F_X10_qPartTold_J78_2 hV13)))))))) (Pk_so hV))))
theorem pk_F_X10_qPartTold_J237 {G : mG} {r0 : Nat} {s1 : Int} {V : mV} (hV : Ik m 5 V) : PkV (Ik m 5) (F_X10_qPartTold_J237 G r0 s1 V) := by
  unfold F_X10_qPartTold_J237
  exact Pk_bd (pk_F_X10_qCode hV) (fun V74 _ hV74 => Pk_bd (pk_F_X10_qEndsPart hV74) (fun V77 _ hV77 => Pk_so hV77))
theorem pk_F_X10_qPartTold_J212 {G : mG} {r0 : Nat} {x2 : Int} {V : mV} (hV : Ik m 5 V) : PkV (Ik m 5) (F_X10_qPartTold_J212 G r0 x2 V) := by
  unfold F_X10_qPartTold_J212
  exact Pk_gd (Pk_if (Pk_bd (pk_F_X10_number hV) (fun V71 _ hV71 => pk_F_X10_qPartTold_J237 hV71)) (pk_F_X10_qPartTold_J237 hV))
theorem pk_F_X10_qPartTold_J186 {G : mG} {r0 : Nat} {V : mV} (hV : Ik m 5 V) : PkV (Ik m 5) (F_X10_qPartTold_J186 G r0 V) := by
  unfold F_X10_qPartTold_J186
  exact Pk_gd (Pk_if (Pk_bd (pk_F_X10_qWordOf hV) (fun V64 _ hV64 => Pk_gd (Pk_if (pk_F_X10_qPartTold_J212 hV64) (Pk_bd (pk_F_X10_qAsksWord hV64) (fun V80 _ hV80 => pk_F_X10_qPartTold_J212 hV80))))) (Pk_so hV))
theorem pk_F_X10_qPartTold {G : mG} {r0 : Nat} {V : mV} (hV : Ik m 5 V) : PkV (Ik m 5) (F_X10_qPartTold G r0 V) := by
  unfold F_X10_qPartTold
  exact Pk_bd (Pk_lp (fun s V hV => pk_B_X10_qPartTold_2 hV) hV) (fun V58 _ hV58 => pk_F_X10_qPartTold_J186 hV58)
theorem pk_B_X10_qSums_15 {G : mG} {r0 : Nat} {x1 : Int} {x2 : Int} {V : mV} (hV : Ik m 5 V) : PkV (Ik m 5) (B_X10_qSums_15 G r0 x1 x2 V) := by
  unfold B_X10_qSums_15
  exact Pk_gd (Pk_if (Pk_so hV) (Pk_gd (Pk_if (Pk_bd (pk_F_X10_qPartTold hV) (fun V7 _ hV7 => Pk_gd (Pk_if (Pk_bd (pk_F_X10_qGoesOn hV7) (fun V12 _ hV12 => Pk_gd (Pk_if (Pk_so hV12) (Pk_so hV12)))) (Pk_so hV7)))) (Pk_so hV))))
theorem pk_B_X10_qSums_53 {G : mG} {r0 : Nat} {x1 : Int} {V : mV} (hV : Ik m 5 V) : PkV (Ik m 5) (B_X10_qSums_53 G r0 x1 V) := by
  unfold B_X10_qSums_53
  exact Pk_gd (Pk_if (Pk_gd (Pk_gd (Pk_if (Pk_so hV) (Pk_bd (pk_F_X10_qDrops hV) (fun V26 _ hV26 => Pk_so hV26))))) (Pk_so hV))
theorem pk_F_X10_qSums {G : mG} {r0 : Nat} {V : mV} (hV : Ik m 5 V) : PkV (Ik m 5) (F_X10_qSums G r0 V) := by
  unfold F_X10_qSums
  exact Pk_lt (fun y1 => Pk_ltV (Ik.sI (by decide) hV) (fun V2 hV2 => Pk_bd (Pk_lp (fun s V hV => pk_B_X10_qSums_15 hV) hV2) (fun V17 _ hV17 => Pk_bd (Pk_lp (fun s V hV => pk_B_X10_qSums_53 hV) hV17) (fun V29 _ hV29 => Pk_ltV (Ik.sI (by decide) hV29) (fun V33 hV33 => Pk_so hV33)))))
theorem pk_B_X10_qDropsNots_0 {G : mG} {r0 : Nat} {V : mV} (hV : Ik m 5 V) : PkV (Ik m 5) (B_X10_qDropsNots_0 G r0 V) := by
  unfold B_X10_qDropsNots_0
  exact Pk_gd (Pk_if (Pk_bd (pk_F_X10_qIsOn hV) (fun V3 _ hV3 => Pk_gd (Pk_if (Pk_so hV3) (Pk_ltV (Ik.sI (by decide) hV3) (fun V8 hV8 => Pk_bd (pk_F_X10_qDrops hV8) (fun V9 _ hV9 => Pk_so hV9)))))) (Pk_so hV))
theorem pk_F_X10_qDropsNots {G : mG} {r0 : Nat} {V : mV} (hV : Ik m 5 V) : PkV (Ik m 5) (F_X10_qDropsNots G r0 V) := by
  unfold F_X10_qDropsNots
  exact Pk_bd (Pk_lp (fun s V hV => pk_B_X10_qDropsNots_0 hV) hV) (fun V12 _ hV12 => Pk_so hV12)
theorem pk_F_X10_qFact_J63 {G : mG} {r0 : Nat} {x1 : Int} {V : mV} (hV : Ik m 5 V) : PkV (Ik m 5) (F_X10_qFact_J63 G r0 x1 V) := by
  unfold F_X10_qFact_J63
  exact Pk_ltV (Ik.sI (by decide) hV) (fun V16 hV16 => Pk_bd (pk_F_X10_qSums hV16) (fun V17 _ hV17 => Pk_gd (Pk_if (Pk_bd (pk_F_X10_qCode hV17) (fun V29 _ hV29 => Pk_so hV29)) (Pk_if (Pk_bd (pk_F_X10_qCode hV17) (fun V26 _ hV26 => Pk_so hV26)) (Pk_bd (pk_F_X10_qCode hV17) (fun V23 _ hV23 => Pk_so hV23))))))
theorem pk_F_X10_qFact {G : mG} {r0 : Nat} {V : mV} (hV : Ik m 5 V) : PkV (Ik m 5) (F_X10_qFact G r0 V) := by
  unfold F_X10_qFact
  exact Pk_bd (pk_F_X10_takes hV) (fun V1 _ hV1 => Pk_gd (Pk_if (Pk_bd (pk_F_X10_qSums hV1) (fun V6 _ hV6 => Pk_gd (Pk_if (Pk_bd (pk_F_X10_look hV6) (fun V11 _ hV11 => Pk_gd (Pk_if (pk_F_X10_qFact_J63 hV11) (Pk_if (pk_F_X10_qFact_J63 hV11) (Pk_if (pk_F_X10_qFact_J63 hV11) (Pk_bd (pk_F_X10_fail (by decide) _ hV11) (fun V34 _ hV34 => Pk_so hV34))))))) (Pk_so hV6)))) (Pk_bd (pk_F_X10_qCode hV1) (fun V37 _ hV37 => Pk_so hV37))))
theorem pk_B_X10_qHasSquare_2 {G : mG} {r0 : Nat} {x1 : Int} {V : mV} (hV : Ik m 5 V) : PkV (Ik m 5) (B_X10_qHasSquare_2 G r0 x1 V) := by
  unfold B_X10_qHasSquare_2
  exact Pk_gd (Pk_gd (Pk_if (Pk_so hV) (Pk_gd (Pk_gd (Pk_if (Pk_so hV) (Pk_lt (fun y7 => Pk_so hV)))))))
theorem pk_F_X10_qHasSquare {G : mG} {r0 : Nat} {V : mV} (hV : Ik m 5 V) : PkV (Ik m 5) (F_X10_qHasSquare G r0 V) := by
  unfold F_X10_qHasSquare
  exact Pk_bd (Pk_lp (fun s V hV => pk_B_X10_qHasSquare_2 hV) hV) (fun V8 _ hV8 => Pk_if (Pk_so hV8) (Pk_so hV8))
theorem pk_B_X10_qGoesOnTest_33 {G : mG} {r0 : Nat} {V : mV} (hV : Ik m 5 V) : PkV (Ik m 5) (B_X10_qGoesOnTest_33 G r0 V) := by
  unfold B_X10_qGoesOnTest_33
  exact Pk_bd (pk_F_X10_qIsOn hV) (fun V14 _ hV14 => Pk_gd (Pk_if (Pk_bd (pk_F_X10_qDrops hV14) (fun V19 _ hV19 => Pk_so hV19)) (Pk_so hV14)))
theorem pk_B_X10_qGoesOnTest_0 {G : mG} {r0 : Nat} {V : mV} (hV : Ik m 5 V) : PkV (Ik m 5) (B_X10_qGoesOnTest_0 G r0 V) := by
  unfold B_X10_qGoesOnTest_0
  exact Pk_gd (Pk_if (Pk_bd (pk_F_X10_look hV) (fun V3 _ hV3 => Pk_gd (Pk_if (Pk_bd (pk_F_X10_qHasSquare hV3) (fun V8 _ hV8 => Pk_gd (Pk_if (Pk_so hV8) (Pk_ltV (Ik.sI (by decide) hV8) (fun V13 hV13 => Pk_bd (Pk_lp (fun s V hV => pk_B_X10_qGoesOnTest_33 hV) hV13) (fun V22 _ hV22 => Pk_ltV (Ik.sI (by decide) hV22) (fun V26 hV26 => Pk_ltV (Ik.sI (by decide) hV26) (fun V27 hV27 => Pk_bd (pk_F_X10_qDropsNots hV27) (fun V28 _ hV28 => Pk_so hV28))))))))) (Pk_so hV3)))) (Pk_so hV))
theorem pk_B_X10_qGoesOnTest_137 {G : mG} {r0 : Nat} {V : mV} (hV : Ik m 5 V) : PkV (Ik m 5) (B_X10_qGoesOnTest_137 G r0 V) := by
  unfold B_X10_qGoesOnTest_137
  exact Pk_bd (pk_F_X10_qIsOn hV) (fun V55 _ hV55 => Pk_gd (Pk_if (Pk_bd (pk_F_X10_qIsOn hV55) (fun V63 _ hV63 => Pk_gd (Pk_if (Pk_so hV63) (Pk_bd (pk_F_X10_qDrops hV63) (fun V68 _ hV68 => Pk_so hV68))))) (Pk_bd (pk_F_X10_qDrops hV55) (fun V60 _ hV60 => Pk_so hV60))))
theorem pk_B_X10_qGoesOnTest_87 {G : mG} {r0 : Nat} {V : mV} (hV : Ik m 5 V) : PkV (Ik m 5) (B_X10_qGoesOnTest_87 G r0 V) := by
  unfold B_X10_qGoesOnTest_87
  exact Pk_bd (pk_F_X10_qIsOn hV) (fun V78 _ hV78 => Pk_gd (Pk_if (Pk_so hV78) (Pk_bd (pk_F_X10_qDrops hV78) (fun V83 _ hV83 => Pk_so hV83))))
theorem pk_F_X10_qGoesOnTest_J76 {G : mG} {r0 : Nat} {V : mV} (hV : Ik m 5 V) : PkV (Ik m 5) (F_X10_qGoesOnTest_J76 G r0 V) := by
  unfold F_X10_qGoesOnTest_J76
  exact Pk_bd (pk_F_X10_takes hV) (fun V35 _ hV35 => Pk_gd (Pk_if (Pk_bd (pk_F_X10_takes hV35) (fun V40 _ hV40 => Pk_gd (Pk_if (Pk_gd (Pk_if (Pk_bd (pk_F_X10_qHasSquare hV40) (fun V47 _ hV47 => Pk_gd (Pk_if (Pk_so hV47) (Pk_bd (pk_F_X10_fail (by decide) _ hV47) (fun V52 _ hV52 => Pk_so hV52))))) (Pk_so hV40))) (Pk_bd (Pk_lp (fun s V hV => pk_B_X10_qGoesOnTest_137 hV) hV40) (fun V71 _ hV71 => Pk_gd (Pk_ltV (Ik.sA hV71) (fun V76 hV76 => Pk_ltV (Ik.sI (by decide) hV76) (fun V77 hV77 => Pk_so hV77)))))))) (Pk_bd (Pk_lp (fun s V hV => pk_B_X10_qGoesOnTest_87 hV) hV35) (fun V86 _ hV86 => Pk_gd (Pk_ltV (Ik.sA hV86) (fun V91 hV91 => Pk_ltV (Ik.sI (by decide) hV91) (fun V92 hV92 => Pk_so hV92)))))))
theorem pk_F_X10_qGoesOnTest {G : mG} {r0 : Nat} {V : mV} (hV : Ik m 5 V) : PkV (Ik m 5) (F_X10_qGoesOnTest G r0 V) := by
  unfold F_X10_qGoesOnTest
  exact Pk_bd (Pk_lp (fun s V hV => pk_B_X10_qGoesOnTest_0 hV) hV) (fun V31 _ hV31 => pk_F_X10_qGoesOnTest_J76 hV31)
theorem pk_B_X10_qTest_2 {G : mG} {r0 : Nat} {x1 : Int} {V : mV} (hV : Ik m 5 V) : PkV (Ik m 5) (B_X10_qTest_2 G r0 x1 V) := by
  unfold B_X10_qTest_2
  exact Pk_gd (Pk_if (Pk_so hV) (Pk_gd (Pk_if (Pk_bd (pk_F_X10_look hV) (fun V5 _ hV5 => Pk_gd (Pk_if (Pk_bd (pk_F_X10_qOpens hV5) (fun V34 _ hV34 => Pk_ltV (Ik.sI (by decide) hV34) (fun V37 hV37 => Pk_so hV37))) (Pk_bd (pk_F_X10_isHere hV5) (fun V10 _ hV10 => Pk_gd (Pk_if (Pk_bd (pk_F_X10_qFact hV10) (fun V15 _ hV15 => Pk_bd (pk_F_X10_qDropsNots hV15) (fun V18 _ hV18 => Pk_gd (Pk_if (Pk_bd (pk_F_X10_qGoesOnTest hV18) (fun V23 _ hV23 => Pk_gd (Pk_if (Pk_so hV23) (Pk_so hV23)))) (Pk_so hV18))))) (Pk_bd (pk_F_X10_qOpens hV10) (fun V28 _ hV28 => Pk_bd (pk_F_X10_asks hV28) (fun V31 _ hV31 => Pk_so hV31))))))))) (Pk_so hV))))
theorem pk_B_X10_qTest_110 {G : mG} {r0 : Nat} {V : mV} (hV : Ik m 5 V) : PkV (Ik m 5) (B_X10_qTest_110 G r0 V) := by
  unfold B_X10_qTest_110
  exact Pk_gd (Pk_if (Pk_gd (Pk_if (Pk_so hV) (Pk_bd (pk_F_X10_qDrops hV) (fun V46 _ hV46 => Pk_so hV46)))) (Pk_so hV))
theorem pk_F_X10_qTest {G : mG} {r0 : Nat} {V : mV} (hV : Ik m 5 V) : PkV (Ik m 5) (F_X10_qTest G r0 V) := by
  unfold F_X10_qTest
  exact Pk_bd (Pk_lp (fun s V hV => pk_B_X10_qTest_2 hV) hV) (fun V38 _ hV38 => Pk_bd (Pk_lp (fun s V hV => pk_B_X10_qTest_110 hV) hV38) (fun V49 _ hV49 => Pk_so hV49))
theorem pk_B_X10_codesTold_103 {G : mG} {r0 : Nat} {x1 : Int} {x2 : Int} {x3 : Int} {V : mV} (hV : Ik m 5 V) : PkV (Ik m 5) (B_X10_codesTold_103 G r0 x1 x2 x3 V) := by
  unfold B_X10_codesTold_103
  exact Pk_gd (Pk_gd (Pk_if (Pk_so hV) (Pk_gd (Pk_gd (Pk_ltV (Ik.sA hV) (fun V26 hV26 => Pk_ltV (Ik.sI (by decide) hV26) (fun V27 hV27 => Pk_lt (fun y28 => Pk_so hV27))))))))
theorem pk_F_X10_codesTold_J83 {G : mG} {r0 : Nat} {x1 : Int} {x2 : Int} {V : mV} (hV : Ik m 5 V) : PkV (Ik m 5) (F_X10_codesTold_J83 G r0 x1 x2 V) := by
  unfold F_X10_codesTold_J83
  exact Pk_gd (Pk_if (Pk_gd (Pk_ltV (Ik.sA hV) (fun V20 hV20 => Pk_bd (Pk_lp (fun s V hV => pk_B_X10_codesTold_103 hV) hV20) (fun V29 _ hV29 => Pk_ltV (Ik.sA hV29) (fun V33 hV33 => Pk_so hV33))))) (Pk_so hV))
theorem pk_F_X10_codesTold_J44 {G : mG} {r0 : Nat} {x1 : Int} {x2 : Int} {s1 : Int} {V : mV} (hV : Ik m 5 V) : PkV (Ik m 5) (F_X10_codesTold_J44 G r0 x1 x2 s1 V) := by
  unfold F_X10_codesTold_J44
  exact Pk_ltV (Ik.sI (by decide) hV) (fun V7 hV7 => Pk_ltV (Ik.sI (by decide) hV7) (fun V8 hV8 => Pk_ltV (Ik.sI (by decide) hV8) (fun V9 hV9 => Pk_ltV (Ik.sI (by decide) hV9) (fun V10 hV10 => Pk_ltV (Ik.sI (by decide) hV10) (fun V11 hV11 => Pk_gd (Pk_if (Pk_bd (pk_F_X10_qTest hV11) (fun V14 _ hV14 => pk_F_X10_codesTold_J83 hV14)) (Pk_bd (pk_F_X10_qSums hV11) (fun V34 _ hV34 => pk_F_X10_codesTold_J83 hV34))))))))
theorem pk_F_X10_codesTold_J23 {G : mG} {r0 : Nat} {x1 : Int} {x2 : Int} {V : mV} (hV : Ik m 5 V) : PkV (Ik m 5) (F_X10_codesTold_J23 G r0 x1 x2 V) := by
  unfold F_X10_codesTold_J23
  exact Pk_gd (Pk_if (Pk_gd (Pk_if (pk_F_X10_codesTold_J44 hV) (pk_F_X10_codesTold_J44 hV))) (Pk_so hV))
theorem pk_F_X10_codesTold {G : mG} {r0 : Nat} {x1 : Int} {x2 : Int} {V : mV} (hV : Ik m 5 V) : PkV (Ik m 5) (F_X10_codesTold G r0 x1 x2 V) := by
  unfold F_X10_codesTold
  exact Pk_gd (Pk_if (Pk_gd (Pk_gd (Pk_if (pk_F_X10_codesTold_J23 hV) (Pk_bd (pk_F_X10_fail (by decide) _ hV) (fun V40 _ hV40 => pk_F_X10_codesTold_J23 hV40))))) (pk_F_X10_codesTold_J23 hV))
theorem pk_F_X10_statementTold_J188 {G : mG} {r0 : Nat} {V : mV} (hV : Ik m 5 V) : PkV (Ik m 5) (F_X10_statementTold_J188 G r0 V) := by
  unfold F_X10_statementTold_J188
  exact Pk_bd (pk_F_X10_asksSign hV) (fun V50 _ hV50 => Pk_ltV (Ik.sI (by decide) hV50) (fun V53 hV53 => Pk_so hV53))
theorem pk_F_X10_statementTold {G : mG} {r0 : Nat} {V : mV} (hV : Ik m 5 V) : PkV (Ik m 5) (F_X10_statementTold G r0 V) := by
  unfold F_X10_statementTold
  exact Pk_lt (fun y1 => Pk_gd (Pk_if (Pk_bd (pk_F_X10_fail (by decide) _ hV) (fun V78 _ hV78 => Pk_so hV78)) (Pk_bd (pk_F_X10_takes hV) (fun V4 _ hV4 => Pk_gd (Pk_if (Pk_bd (pk_F_X10_takes hV4) (fun V9 _ hV9 => Pk_gd (Pk_if (Pk_bd (pk_F_X10_takes hV9) (fun V14 _ hV14 => Pk_gd (Pk_if (Pk_bd (pk_F_X10_takes hV14) (fun V19 _ hV19 => Pk_gd (Pk_if (Pk_bd (pk_F_X10_takes hV19) (fun V24 _ hV24 => Pk_gd (Pk_if (Pk_bd (pk_F_X10_takes hV24) (fun V29 _ hV29 => Pk_gd (Pk_if (Pk_bd (pk_F_X10_takes hV29) (fun V34 _ hV34 => Pk_gd (Pk_if (Pk_bd (pk_F_X10_takes hV34) (fun V39 _ hV39 => Pk_gd (Pk_if (Pk_bd (pk_F_X10_asks hV39) (fun V44 _ hV44 => Pk_bd (pk_F_X10_codesTold hV44) (fun V47 _ hV47 => pk_F_X10_statementTold_J188 hV47))) (Pk_bd (pk_F_X10_codesTold hV39) (fun V54 _ hV54 => pk_F_X10_statementTold_J188 hV54))))) (Pk_bd (pk_F_X10_codesTold hV34) (fun V57 _ hV57 => pk_F_X10_statementTold_J188 hV57))))) (Pk_bd (pk_F_X10_codesTold hV29) (fun V60 _ hV60 => pk_F_X10_statementTold_J188 hV60))))) (Pk_bd (pk_F_X10_knownTold hV24) (fun V63 _ hV63 => pk_F_X10_statementTold_J188 hV63))))) (Pk_bd (pk_F_X10_coverTold hV19) (fun V66 _ hV66 => pk_F_X10_statementTold_J188 hV66))))) (Pk_bd (pk_F_X10_dutyTold hV14) (fun V69 _ hV69 => pk_F_X10_statementTold_J188 hV69))))) (Pk_bd (pk_F_X10_taskTold hV9) (fun V72 _ hV72 => pk_F_X10_statementTold_J188 hV72))))) (Pk_bd (pk_F_X10_personTold hV4) (fun V75 _ hV75 => pk_F_X10_statementTold_J188 hV75)))))))
theorem pk_B_X10_city_45 {G : mG} {r0 : Nat} {x1 : Int} {V : mV} (hV : Ik m 5 V) : PkV (Ik m 5) (B_X10_city_45 G r0 x1 V) := by
  unfold B_X10_city_45
  exact Pk_gd (Pk_if (Pk_so hV) (Pk_gd (Pk_ltV (Ik.sA hV) (fun V12 hV12 => Pk_lt (fun y13 => Pk_so hV12)))))
theorem pk_B_X10_city_65 {G : mG} {r0 : Nat} {x1 : Int} {V : mV} (hV : Ik m 5 V) : PkV (Ik m 5) (B_X10_city_65 G r0 x1 V) := by
  unfold B_X10_city_65
  exact Pk_gd (Pk_if (Pk_so hV) (Pk_gd (Pk_ltV (Ik.sA hV) (fun V21 hV21 => Pk_lt (fun y22 => Pk_so hV21)))))
theorem pk_B_X10_city_83 {G : mG} {r0 : Nat} {V : mV} (hV : Ik m 5 V) : PkV (Ik m 5) (B_X10_city_83 G r0 V) := by
  unfold B_X10_city_83
  exact Pk_gd (Pk_if (Pk_bd (pk_F_X10_look hV) (fun V29 _ hV29 => Pk_gd (Pk_if (Pk_so hV29) (Pk_bd (pk_F_X10_statementTold hV29) (fun V34 _ hV34 => Pk_so hV34))))) (Pk_so hV))
theorem pk_F_X10_qKind_J76 {G : mG} {r0 : Nat} {s0 : Int} {V : mV} (hV : Ik m 5 V) : PkV (Ik m 5) (F_X10_qKind_J76 G r0 s0 V) := by
  unfold F_X10_qKind_J76
  exact Pk_gd (Pk_if (Pk_bd (pk_F_X10_asks hV) (fun V28 _ hV28 => Pk_so hV28)) (Pk_so hV))
theorem pk_F_X10_qKind {G : mG} {r0 : Nat} {V : mV} (hV : Ik m 5 V) : PkV (Ik m 5) (F_X10_qKind G r0 V) := by
  unfold F_X10_qKind
  exact Pk_bd (pk_F_X10_takes hV) (fun V1 _ hV1 => Pk_gd (Pk_if (Pk_bd (pk_F_X10_takes hV1) (fun V6 _ hV6 => Pk_gd (Pk_if (Pk_bd (pk_F_X10_takes hV6) (fun V11 _ hV11 => Pk_gd (Pk_if (Pk_bd (pk_F_X10_takes hV11) (fun V16 _ hV16 => Pk_gd (Pk_if (Pk_bd (pk_F_X10_takes hV16) (fun V21 _ hV21 => Pk_gd (Pk_if (pk_F_X10_qKind_J76 hV21) (pk_F_X10_qKind_J76 hV21)))) (pk_F_X10_qKind_J76 hV16)))) (pk_F_X10_qKind_J76 hV11)))) (pk_F_X10_qKind_J76 hV6)))) (pk_F_X10_qKind_J76 hV1)))
end

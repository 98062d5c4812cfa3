/-! made: the whole of one side -/
section
variable {G G' : mG} {V V' : mV} {r k n z c d s q sz : Nat}
def Y00 : mY := ((C00, M0 C00, [], fun _ => 0), (fun _ => 0, 0), (0, -1), [], (0, []), 1)
def q9m : Nat := a_nf 7 + 1600 + a_nf 7 + 123 + a_nf 7 + 6 + a_nf 7 + 60 + a_nf 6 + q6m + a_nf 2 + q2m + a_nf 0 + q0m + a_nf 5 + q5m + a_nf 4 + q4m + a_nf 4 + q4m + a_nf 1 + q1m + a_nf 1 + q1m
theorem made9 (hc : G.1 r = .inl 9) : ∃ G' V', F_X9_init r (r + 1, z, G, V) = some ((r + 327, z + q9m, G', V'), 0) ∧ is9 G' r ∧ gR G' (r + 9) 7 = r + 22 ∧ gx r (r + 1) G G' ∧ vx r (r + 1) V V' ∧ vY G' V' r Y00 := by
  obtain ⟨G1, hG1⟩ : ∃ G1, G1 = rowG G r 0 (r + 1) 1600 := ⟨_, rfl⟩
  have c1 : G1.1 r = .inl 9 := by rw [hG1]; exact rowG_c (by omega) hc
  have f1_0 : fl7 G1 r 0 (r + 1) 1600 := by rw [hG1]; exact fl7_new (by omega) (by decide)
  obtain ⟨G2, hG2⟩ : ∃ G2, G2 = rowG G1 r 1 (r + 3) 123 := ⟨_, rfl⟩
  have c2 : G2.1 r = .inl 9 := by rw [hG2]; exact rowG_c (by omega) c1
  have f2_0 : fl7 G2 r 0 (r + 1) 1600 := by rw [hG2]; exact fl7_old f1_0 (by omega) (by omega) (by omega) (by decide)
  have f2_1 : fl7 G2 r 1 (r + 3) 123 := by rw [hG2]; exact fl7_new (by omega) (by decide)
  obtain ⟨G3, hG3⟩ : ∃ G3, G3 = rowG G2 r 2 (r + 5) 6 := ⟨_, rfl⟩
  have c3 : G3.1 r = .inl 9 := by rw [hG3]; exact rowG_c (by omega) c2
  have f3_0 : fl7 G3 r 0 (r + 1) 1600 := by rw [hG3]; exact fl7_old f2_0 (by omega) (by omega) (by omega) (by decide)
  have f3_1 : fl7 G3 r 1 (r + 3) 123 := by rw [hG3]; exact fl7_old f2_1 (by omega) (by omega) (by omega) (by decide)
  have f3_2 : fl7 G3 r 2 (r + 5) 6 := by rw [hG3]; exact fl7_new (by omega) (by decide)
  obtain ⟨G4, hG4⟩ : ∃ G4, G4 = rowG G3 r 3 (r + 7) 60 := ⟨_, rfl⟩
  have c4 : G4.1 r = .inl 9 := by rw [hG4]; exact rowG_c (by omega) c3
  have f4_0 : fl7 G4 r 0 (r + 1) 1600 := by rw [hG4]; exact fl7_old f3_0 (by omega) (by omega) (by omega) (by decide)
  have f4_1 : fl7 G4 r 1 (r + 3) 123 := by rw [hG4]; exact fl7_old f3_1 (by omega) (by omega) (by omega) (by decide)
  have f4_2 : fl7 G4 r 2 (r + 5) 6 := by rw [hG4]; exact fl7_old f3_2 (by omega) (by omega) (by omega) (by decide)
  have f4_3 : fl7 G4 r 3 (r + 7) 60 := by rw [hG4]; exact fl7_new (by omega) (by decide)
  have X4 : gx r (r + 1) G G4 := ((((by rw [hG1]; exact gx_row (by omega) : gx r (r + 1) G G1)).trans (by rw [hG2]; exact gx_row (by omega) : gx r (r + 3) G1 G2) (by omega)).trans (by rw [hG3]; exact gx_row (by omega) : gx r (r + 5) G2 G3) (by omega)).trans (by rw [hG4]; exact gx_row (by omega) : gx r (r + 7) G3 G4) (by omega)
  obtain ⟨U, hU⟩ : ∃ U, U = rowV (rowV (rowV (rowV V (r + 1)) (r + 3)) (r + 5)) (r + 7) := ⟨_, rfl⟩
  have Y4 : vb (r + 1) V U := by rw [hU]; exact (((vb_row).trans vb_row (by omega)).trans vb_row (by omega)).trans vb_row (by omega)
  have uu0 : gI U (r + 1) 1 = 0 := by rw [hU]; simp [rowV_I]
  have uu1 : gI U (r + 3) 1 = 0 := by rw [hU]; simp [rowV_I]
  have uu2 : gI U (r + 5) 1 = 0 := by rw [hU]; simp [rowV_I]
  have uu3 : gI U (r + 7) 1 = 0 := by rw [hU]; simp [rowV_I]
  obtain ⟨A1, B1, D1, t1, p1, x1, d1, e1, o1, b1, q1⟩ := addSub (F := F_X6_init) (G := G4) (V := U) (z := z + a_nf 7 + 1600 + a_nf 7 + 123 + a_nf 7 + 6 + a_nf 7 + 60) (r := r) (n := r + 9) (k := 4) (c := 9) (d := 6) (sz := 18) (q := q6m) (P := fun G => is6 G (r + 9) ∧ gR G (r + 9) 7 = r + 9 + 13) (Q := fun V => gI V (r + 10) 1 = 0 ∧ gI V (r + 12) 1 = 0 ∧ gI V (r + 14) 1 = 0 ∧ gI V (r + 16) 1 = 0 ∧ gI V (r + 18) 1 = 0 ∧ rw' V (r + 20) 33 wf33 ∧ gI V (r + 23) 1 = 0 ∧ gI V (r + 25) 1 = 64 ∧ gI V (r + 9) 12 = -1 ∧ gI V (r + 9) 11 = 0) (fun G V z h => by
    obtain ⟨G', V', e, i6, i7, g, v, a1, a2, a3, a4, a5, a6, a7, a8, a9, aa⟩ := made6 (z := z) (V := V) h
    exact ⟨G', V', e, ⟨i6, i7⟩, g, v, fun h0 => ⟨a1, a2, a3, a4, a5, a6, a7, a8, a9, by rw [aa 11 (by decide), h0]⟩⟩) (fun G G' h g => is6_up h.1 h.2 g (by omega) (by omega)) (by omega) c4
  have X5 : gx r (r + 1) G D1 := X4.trans x1 (by omega)
  have Y5 : vb (r + 1) V B1 := Y4.trans b1 (by omega)
  obtain ⟨A2, B2, D2, t2, p2, x2, d2, e2, o2, b2, q2⟩ := addSub (F := F_X2_init) (G := D1) (V := B1) (z := z + a_nf 7 + 1600 + a_nf 7 + 123 + a_nf 7 + 6 + a_nf 7 + 60 + a_nf 6 + q6m) (r := r) (n := r + 27) (k := 5) (c := 9) (d := 2) (sz := 11) (q := q2m) (P := fun G => is2 G (r + 27)) (Q := fun V => gI V (r + 30) 1 = 0 ∧ gI V (r + 32) 1 = 0 ∧ gI V (r + 34) 1 = 0 ∧ gI V (r + 28) 1 = 43 ∧ ∀ j, gA V (r + 29) j = 0) (fun G V z h => by
    obtain ⟨G', V', e, i, g, v, a3, a5, a7, -, a43, az⟩ := made2 (z := z) (V := V) h
    exact ⟨G', V', e.trans (by unfold q2m; simp only [Nat.add_assoc]), i, g, v, fun _ => ⟨a3, a5, a7, a43, az⟩⟩) (fun G G' h g => is2_up h g (by omega) (by omega)) (by omega) d1
  have X6 : gx r (r + 1) G D2 := X5.trans x2 (by omega)
  have Y6 : vb (r + 1) V B2 := Y5.trans b2 (by omega)
  obtain ⟨A3, B3, D3, t3, p3, x3, d3, e3, o3, b3, q3⟩ := addSub (F := F_X0_init) (G := D2) (V := B2) (z := z + a_nf 7 + 1600 + a_nf 7 + 123 + a_nf 7 + 6 + a_nf 7 + 60 + a_nf 6 + q6m + a_nf 2 + q2m) (r := r) (n := r + 38) (k := 6) (c := 9) (d := 0) (sz := 7) (q := q0m) (P := fun G => is0 G (r + 38)) (Q := fun V => gI V (r + 43) 1 = 0) (fun G V z h => by
    obtain ⟨G', V', e, i, g, v, -, -, a5⟩ := made0 (z := z) (V := V) h
    exact ⟨G', V', e.trans (by unfold q0m; simp only [Nat.add_assoc]), i, g, v, fun _ => a5⟩) (fun G G' h g => is0_up h g (by omega) (by omega)) (by omega) d2
  have X7 : gx r (r + 1) G D3 := X6.trans x3 (by omega)
  have Y7 : vb (r + 1) V B3 := Y6.trans b3 (by omega)
  obtain ⟨A4, B4, D4, t4, p4, x4, d4, e4, o4, b4, q4⟩ := addSub (F := F_X5_init) (G := D3) (V := B3) (z := z + a_nf 7 + 1600 + a_nf 7 + 123 + a_nf 7 + 6 + a_nf 7 + 60 + a_nf 6 + q6m + a_nf 2 + q2m + a_nf 0 + q0m) (r := r) (n := r + 45) (k := 7) (c := 9) (d := 5) (sz := 182) (q := q5m) (P := fun G => is5 G (r + 45)) (Q := fun V => gI V (r + 45) 1 = 0 ∧ gI V (r + 45) 2 = 0) (fun G V z h => by
    obtain ⟨G', V', e, i, g, v⟩ := made5 (z := z) (V := V) h
    exact ⟨G', V', e.trans (by unfold q5m; simp only [Nat.add_assoc]), i, g, v.x, fun h0 => ⟨by rw [(v _ (by omega)).1, h0], by rw [(v _ (by omega)).1, h0]⟩⟩) (fun G G' h g => is5_up h g (by omega) (by omega)) (by omega) d3
  have X8 : gx r (r + 1) G D4 := X7.trans x4 (by omega)
  have Y8 : vb (r + 1) V B4 := Y7.trans b4 (by omega)
  obtain ⟨A5, B5, D5, t5, p5, x5, d5, e5, o5, b5, q5⟩ := addSub (F := F_X4_init) (G := D4) (V := B4) (z := z + a_nf 7 + 1600 + a_nf 7 + 123 + a_nf 7 + 6 + a_nf 7 + 60 + a_nf 6 + q6m + a_nf 2 + q2m + a_nf 0 + q0m + a_nf 5 + q5m) (r := r) (n := r + 227) (k := 8) (c := 9) (d := 4) (sz := 9) (q := q4m) (P := fun G => is4 G (r + 227)) (Q := fun V => True) (fun G V z h => by
    obtain ⟨G', V', e, i, g, v⟩ := made4' (z := z) (V := V) h
    exact ⟨G', V', e, i, g, v, fun _ => trivial⟩) (fun G G' h g => is4_up h g (by omega) (by omega)) (by omega) d4
  have X9 : gx r (r + 1) G D5 := X8.trans x5 (by omega)
  have Y9 : vb (r + 1) V B5 := Y8.trans b5 (by omega)
  obtain ⟨A6, B6, D6, t6, p6, x6, d6, e6, o6, b6, q6⟩ := addSub (F := F_X4_init) (G := D5) (V := B5) (z := z + a_nf 7 + 1600 + a_nf 7 + 123 + a_nf 7 + 6 + a_nf 7 + 60 + a_nf 6 + q6m + a_nf 2 + q2m + a_nf 0 + q0m + a_nf 5 + q5m + a_nf 4 + q4m) (r := r) (n := r + 236) (k := 9) (c := 9) (d := 4) (sz := 9) (q := q4m) (P := fun G => is4 G (r + 236)) (Q := fun V => True) (fun G V z h => by
    obtain ⟨G', V', e, i, g, v⟩ := made4' (z := z) (V := V) h
    exact ⟨G', V', e, i, g, v, fun _ => trivial⟩) (fun G G' h g => is4_up h g (by omega) (by omega)) (by omega) d5
  have X10 : gx r (r + 1) G D6 := X9.trans x6 (by omega)
  have Y10 : vb (r + 1) V B6 := Y9.trans b6 (by omega)
  obtain ⟨A7, B7, D7, t7, p7, x7, d7, e7, o7, b7, q7⟩ := addSub (F := F_X1_init) (G := D6) (V := B6) (z := z + a_nf 7 + 1600 + a_nf 7 + 123 + a_nf 7 + 6 + a_nf 7 + 60 + a_nf 6 + q6m + a_nf 2 + q2m + a_nf 0 + q0m + a_nf 5 + q5m + a_nf 4 + q4m + a_nf 4 + q4m) (r := r) (n := r + 245) (k := 10) (c := 9) (d := 1) (sz := 41) (q := q1m) (P := fun G => is1 G (r + 245)) (Q := fun V => gI V (r + 246) 1 = 0 ∧ gI V (r + 248) 1 = 0 ∧ gI V (r + 250) 1 = 0 ∧ gI V (r + 252) 1 = 0 ∧ gI V (r + 254) 1 = 0 ∧ gI V (r + 256) 1 = 0 ∧ gI V (r + 258) 1 = 0 ∧ gI V (r + 260) 1 = 0 ∧ gI V (r + 262) 1 = 0 ∧ gI V (r + 264) 1 = 0 ∧ (gI V (r + 267) 1 = 0 ∧ gI V (r + 269) 1 = 64) ∧ (gI V (r + 272) 1 = 0 ∧ gI V (r + 274) 1 = 64) ∧ (gI V (r + 277) 1 = 0 ∧ gI V (r + 279) 1 = 64) ∧ (gI V (r + 282) 1 = 0 ∧ gI V (r + 284) 1 = 64)) (fun G V z h => by
    obtain ⟨G', V', e, i, g, v, qq⟩ := made1 (z := z) (V := V) h
    exact ⟨G', V', e.trans (by unfold q1m; simp only [Nat.add_assoc]), i, g, v.x, fun _ => qq⟩) (fun G G' h g => is1_up h g (by omega) (by omega)) (by omega) d6
  have X11 : gx r (r + 1) G D7 := X10.trans x7 (by omega)
  have Y11 : vb (r + 1) V B7 := Y10.trans b7 (by omega)
  obtain ⟨A8, B8, D8, t8, p8, x8, d8, e8, o8, b8, q8⟩ := addSub (F := F_X1_init) (G := D7) (V := B7) (z := z + a_nf 7 + 1600 + a_nf 7 + 123 + a_nf 7 + 6 + a_nf 7 + 60 + a_nf 6 + q6m + a_nf 2 + q2m + a_nf 0 + q0m + a_nf 5 + q5m + a_nf 4 + q4m + a_nf 4 + q4m + a_nf 1 + q1m) (r := r) (n := r + 286) (k := 11) (c := 9) (d := 1) (sz := 41) (q := q1m) (P := fun G => is1 G (r + 286)) (Q := fun V => gI V (r + 287) 1 = 0 ∧ gI V (r + 289) 1 = 0 ∧ gI V (r + 291) 1 = 0 ∧ gI V (r + 293) 1 = 0 ∧ gI V (r + 295) 1 = 0 ∧ gI V (r + 297) 1 = 0 ∧ gI V (r + 299) 1 = 0 ∧ gI V (r + 301) 1 = 0 ∧ gI V (r + 303) 1 = 0 ∧ gI V (r + 305) 1 = 0 ∧ (gI V (r + 308) 1 = 0 ∧ gI V (r + 310) 1 = 64) ∧ (gI V (r + 313) 1 = 0 ∧ gI V (r + 315) 1 = 64) ∧ (gI V (r + 318) 1 = 0 ∧ gI V (r + 320) 1 = 64) ∧ (gI V (r + 323) 1 = 0 ∧ gI V (r + 325) 1 = 64)) (fun G V z h => by
    obtain ⟨G', V', e, i, g, v, qq⟩ := made1 (z := z) (V := V) h
    exact ⟨G', V', e.trans (by unfold q1m; simp only [Nat.add_assoc]), i, g, v.x, fun _ => qq⟩) (fun G G' h g => is1_up h g (by omega) (by omega)) (by omega) d7
  have X12 : gx r (r + 1) G D8 := X11.trans x8 (by omega)
  have Y12 : vb (r + 1) V B8 := Y11.trans b8 (by omega)
  have XX0 : gx r (r + 9) G4 D8 := (((((((x1.trans x2 (by omega)).trans x3 (by omega)).trans x4 (by omega)).trans x5 (by omega)).trans x6 (by omega)).trans x7 (by omega)).trans x8 (by omega))
  have YY0 : vb (r + 9) U B8 := (((((((b1.trans b2 (by omega)).trans b3 (by omega)).trans b4 (by omega)).trans b5 (by omega)).trans b6 (by omega)).trans b7 (by omega)).trans b8 (by omega))
  have XX1 : gx r (r + 27) D1 D8 := ((((((x2.trans x3 (by omega)).trans x4 (by omega)).trans x5 (by omega)).trans x6 (by omega)).trans x7 (by omega)).trans x8 (by omega))
  have YY1 : vb (r + 27) B1 B8 := ((((((b2.trans b3 (by omega)).trans b4 (by omega)).trans b5 (by omega)).trans b6 (by omega)).trans b7 (by omega)).trans b8 (by omega))
  have XX2 : gx r (r + 38) D2 D8 := (((((x3.trans x4 (by omega)).trans x5 (by omega)).trans x6 (by omega)).trans x7 (by omega)).trans x8 (by omega))
  have YY2 : vb (r + 38) B2 B8 := (((((b3.trans b4 (by omega)).trans b5 (by omega)).trans b6 (by omega)).trans b7 (by omega)).trans b8 (by omega))
  have XX3 : gx r (r + 45) D3 D8 := ((((x4.trans x5 (by omega)).trans x6 (by omega)).trans x7 (by omega)).trans x8 (by omega))
  have YY3 : vb (r + 45) B3 B8 := ((((b4.trans b5 (by omega)).trans b6 (by omega)).trans b7 (by omega)).trans b8 (by omega))
  have XX4 : gx r (r + 227) D4 D8 := (((x5.trans x6 (by omega)).trans x7 (by omega)).trans x8 (by omega))
  have YY4 : vb (r + 227) B4 B8 := (((b5.trans b6 (by omega)).trans b7 (by omega)).trans b8 (by omega))
  have XX5 : gx r (r + 236) D5 D8 := ((x6.trans x7 (by omega)).trans x8 (by omega))
  have YY5 : vb (r + 236) B5 B8 := ((b6.trans b7 (by omega)).trans b8 (by omega))
  have XX6 : gx r (r + 245) D6 D8 := (x7.trans x8 (by omega))
  have YY6 : vb (r + 245) B6 B8 := (b7.trans b8 (by omega))
  have XX7 : gx r (r + 286) D7 D8 := x8
  have YY7 : vb (r + 286) B7 B8 := b8
  have oo : ∀ j, j < 4 → D8.2.1 r j = G4.2.1 r j := fun j hj => by rw [o8 j (by omega), o7 j (by omega), o6 j (by omega), o5 j (by omega), o4 j (by omega), o3 j (by omega), o2 j (by omega), o1 j (by omega)]
  have g0 : fl7 D8 r 0 (r + 1) 1600 := fl7_up f4_0 XX0 (oo 0 (by decide)) (by omega) (by omega)
  have g1 : fl7 D8 r 1 (r + 3) 123 := fl7_up f4_1 XX0 (oo 1 (by decide)) (by omega) (by omega)
  have g2 : fl7 D8 r 2 (r + 5) 6 := fl7_up f4_2 XX0 (oo 2 (by decide)) (by omega) (by omega)
  have g3 : fl7 D8 r 3 (r + 7) 60 := fl7_up f4_3 XX0 (oo 3 (by decide)) (by omega) (by omega)
  have R1 : D8.2.1 r 4 = .ref (r + 9) := by rw [o8 _ (by decide), o7 _ (by decide), o6 _ (by decide), o5 _ (by decide), o4 _ (by decide), o3 _ (by decide), o2 _ (by decide)]; exact e1
  have P1 := is6_up p1.1 p1.2 XX1 (by omega) (by omega)
  have R2 : D8.2.1 r 5 = .ref (r + 27) := by rw [o8 _ (by decide), o7 _ (by decide), o6 _ (by decide), o5 _ (by decide), o4 _ (by decide), o3 _ (by decide)]; exact e2
  have P2 : is2 D8 (r + 27) := is2_up p2 XX2 (by omega) (by omega)
  have R3 : D8.2.1 r 6 = .ref (r + 38) := by rw [o8 _ (by decide), o7 _ (by decide), o6 _ (by decide), o5 _ (by decide), o4 _ (by decide)]; exact e3
  have P3 : is0 D8 (r + 38) := is0_up p3 XX3 (by omega) (by omega)
  have R4 : D8.2.1 r 7 = .ref (r + 45) := by rw [o8 _ (by decide), o7 _ (by decide), o6 _ (by decide), o5 _ (by decide)]; exact e4
  have P4 : is5 D8 (r + 45) := is5_up p4 XX4 (by omega) (by omega)
  have R5 : D8.2.1 r 8 = .ref (r + 227) := by rw [o8 _ (by decide), o7 _ (by decide), o6 _ (by decide)]; exact e5
  have P5 : is4 D8 (r + 227) := is4_up p5 XX5 (by omega) (by omega)
  have R6 : D8.2.1 r 9 = .ref (r + 236) := by rw [o8 _ (by decide), o7 _ (by decide)]; exact e6
  have P6 : is4 D8 (r + 236) := is4_up p6 XX6 (by omega) (by omega)
  have R7 : D8.2.1 r 10 = .ref (r + 245) := by rw [o8 _ (by decide)]; exact e7
  have P7 : is1 D8 (r + 245) := is1_up p7 XX7 (by omega) (by omega)
  have R8 : D8.2.1 r 11 = .ref (r + 286) := e8
  have rr10 : gR D8 r 10 = r + 245 := by unfold gR; rw [R7]
  have rr11 : gR D8 r 11 = r + 286 := by unfold gR; rw [R8]
  have i9 : is9 D8 r := ⟨d8, g0.1, g0.2.1, g0.2.2, g1.1, g1.2.1, g1.2.2, g2.1, g2.2.1, g2.2.2, g3.1, g3.2.1, g3.2.2, R1, P1.1, R2, P2, R3, P3, R4, P4, R5, P5, R6, P6, by rw [rr10]; exact R7, by rw [rr10]; exact P7, by rw [rr11]; exact R8, by rw [rr11]; exact p8⟩
  obtain ⟨W, hW⟩ : ∃ W, W = sJ (sI B8 r 12 (-1)) r 13 1 := ⟨_, rfl⟩
  have wI : ∀ a j, a ≠ r → gI W a j = gI B8 a j := fun a j ha => by
    have e : gI W a j = gI (sI B8 r 12 (-1)) a j := by rw [hW]; rfl
    rw [e, gI_sI, if_neg (fun q => ha q.1)]
  have wA : gA W = gA B8 := by rw [hW]; rfl
  have wJ : gJ W r 13 = 1 := by rw [hW]; exact gJ_sJe
  have yW : vx r (r + 1) V W := fun a ha hr => by
    obtain ⟨y1, y2, y3, y4⟩ := Y12 a ha
    refine ⟨by rw [← y1]; funext j; exact wI a j hr, ?_, by rw [wA]; exact y3, by rw [← y4, hW]; rfl⟩
    rw [← y2, hW]
    funext j
    show u2 (gJ B8) r 13 1 a j = _
    unfold u2
    rw [if_neg (fun q => hr q.1)]
  -- cells of the parts
  obtain ⟨m1, m2, m3, m4, m5, m6, m7, m8, m9, m10⟩ := q1
  obtain ⟨s3, s5, s7, s43, sz0⟩ := q2
  have bI1 : ∀ a j, a < r + 27 → gI W (a) j = gI W (a) j := fun _ _ _ => rfl
  have W0 : ∀ a j, a < r + 9 → a ≠ r → gI W a j = gI U a j := fun a j ha hr => by rw [wI a j hr, (YY0 a ha).1]
  have W1 : ∀ a j, a < r + 27 → a ≠ r → gI W a j = gI B1 a j := fun a j ha hr => by rw [wI a j hr, (YY1 a ha).1]
  have W2 : ∀ a j, a < r + 38 → a ≠ r → gI W a j = gI B2 a j := fun a j ha hr => by rw [wI a j hr, (YY2 a ha).1]
  have W3 : ∀ a j, a < r + 45 → a ≠ r → gI W a j = gI B3 a j := fun a j ha hr => by rw [wI a j hr, (YY3 a ha).1]
  have W4 : ∀ a j, a < r + 227 → a ≠ r → gI W a j = gI B4 a j := fun a j ha hr => by rw [wI a j hr, (YY4 a ha).1]
  have W7 : ∀ a j, a < r + 286 → a ≠ r → gI W a j = gI B7 a j := fun a j ha hr => by rw [wI a j hr, (YY7 a ha).1]
  obtain ⟨V1, w1, k1, z1⟩ := rw_fill (V := W) (n := 6) (v := 0) g2.2.1 g2.2.2 (by decide)
  have rz0 : ∀ {H : mV} {t : Nat}, gI H t 1 = 0 → rz D8 H t := fun h => ⟨by rw [h]; exact Int.le_refl _, by rw [h]; exact Int.natCast_nonneg _⟩
  have zc : zC D8 V1 (r + 245) := by
    obtain ⟨n0, n1, n2, n3, n4, n5, n6, n7, n8, n9, na, nb, nc, nd⟩ := q7
    have v : ∀ a j x, r + 245 ≤ a → a < r + 286 → gI B7 a j = x → gI V1 a j = x := fun a j x h1 h2 h => by rw [k1.I (by omega), W7 a j h2 (by omega)]; exact h
    exact ⟨⟨rz0 (v _ _ _ (by omega) (by omega) n0), rz0 (v _ _ _ (by omega) (by omega) n1), rz0 (v _ _ _ (by omega) (by omega) n2), rz0 (v _ _ _ (by omega) (by omega) n3), rz0 (v _ _ _ (by omega) (by omega) n5), rz0 (v _ _ _ (by omega) (by omega) n6), rz0 (v _ _ _ (by omega) (by omega) n7), rz0 (v _ _ _ (by omega) (by omega) n8), rz0 (v _ _ _ (by omega) (by omega) n9)⟩, ⟨rz0 (v _ _ _ (by omega) (by omega) na.1), rz0 (v _ _ _ (by omega) (by omega) nb.1), rz0 (v _ _ _ (by omega) (by omega) nc.1), rz0 (v _ _ _ (by omega) (by omega) nd.1)⟩, v _ _ _ (by omega) (by omega) na.2, v _ _ _ (by omega) (by omega) nb.2, v _ _ _ (by omega) (by omega) nc.2, v _ _ _ (by omega) (by omega) nd.2⟩
  obtain ⟨V2, w2, k2, bc⟩ := c_clear P7 zc
  obtain ⟨V3, w3, k3, vm⟩ := m_begin (V := V2) (mo := r + 227) P5 P7 (Or.inl (by omega)) bc.1 bc.2.2.1
  have K : fr (fun i => i = r + 5 ∨ i = r + 6 ∨ (r + 227 ≤ i ∧ i ≤ r + 235) ∨ (r + 245 ≤ i ∧ i ≤ r + 282)) W V3 := ((k1.mono (fun i q => by omega)).trans (k2.mono (fun i q => by omega))).trans (k3.mono (fun i q => by omega))
  have k23 : fr (fun i => (r + 227 ≤ i ∧ i ≤ r + 235) ∨ (r + 245 ≤ i ∧ i ≤ r + 282)) V1 V3 := (k2.mono (fun i q => by omega)).trans (k3.mono (fun i q => by omega))
  have kI : ∀ {a j : Nat} {x : Int}, (a < r + 227 ∧ a ≠ r + 5 ∧ a ≠ r + 6 ∧ a ≠ r) → gI W a j = x → gI V3 a j = x := fun {a j x} h e => by rw [K.I (by omega)]; exact e
  have e0 : ∀ {f : Int → Int} {t : Nat}, gI V3 t 1 = 0 → rw' V3 t 0 f := fun h => ⟨h, fun j a b => by have b' : j < 0 := b; omega⟩
  refine ⟨D8, V3, ?_, i9, P1.2, X12, yW.trans (vx_fr (r := r) (n := r + 1) K (fun a q => by omega)) (Nat.le_refl _), ⟨⟨?_, ?_, ?_, ⟨?_, fun j => ?_⟩, ⟨(m00, (0, 0), (0, -1, 0), fun _ => 0), ?_⟩, ?_, ⟨?_, Nat.zero_le _, ?_, fun i hi => by have hi' : i < 0 := hi; omega⟩, ?_⟩, ⟨?_, ?_⟩, e0 ?_, ⟨?_, ?_⟩, e0 ?_, ⟨e0 ?_, fun q => absurd rfl q⟩, ?_, ?_, ⟨⟨rz0 ?_, rz0 ?_, rz0 ?_, rz0 ?_, rz0 ?_⟩, ?_, rz0 ?_, ?_⟩⟩⟩
  · unfold F_X9_init
    refine E_gd hc ?_
    refine (addRow (cap := 1600) rfl (by decide) (by omega) hc _).trans ?_
    rw [← hG1]
    dsimp only
    refine (addRow (cap := 123) rfl (by decide) (by omega) c1 _).trans ?_
    rw [← hG2]
    dsimp only
    refine (addRow (cap := 6) rfl (by decide) (by omega) c2 _).trans ?_
    rw [← hG3]
    dsimp only
    refine (addRow (cap := 60) rfl (by decide) (by omega) c3 _).trans ?_
    rw [← hG4]
    dsimp only
    rw [← hU]
    refine (t1 (fun G => is6 G (r + 9)) (fun _ h => h.1) _).trans ?_
    dsimp only
    refine (t2 (fun G => is2 G (r + 27)) (fun _ h => h) _).trans ?_
    dsimp only
    refine (t3 (fun G => is0 G (r + 38)) (fun _ h => h) _).trans ?_
    dsimp only
    refine (t4 (fun G => is5 G (r + 45)) (fun _ h => h) _).trans ?_
    dsimp only
    refine (t5 (fun G => is4 G (r + 227)) (fun _ h => h) _).trans ?_
    dsimp only
    refine (t6 (fun G => is4 G (r + 236)) (fun _ h => h) _).trans ?_
    dsimp only
    refine (t7 (fun G => is1 G (r + 245)) (fun _ h => h) _).trans ?_
    dsimp only
    refine (t8 (fun G => is1 G (r + 286)) (fun _ h => h) _).trans ?_
    dsimp only
    refine E_lt (E_lt ?_)
    rw [← hW]
    refine E_gd ⟨g2.1, g2.2.1⟩ (E_bd w1 ?_)
    rw [rr10]
    refine E_gd ⟨R7, P7⟩ (E_bd w2 (E_gd ⟨R5, P5⟩ (E_gd ⟨R7, P7⟩ (E_bd w3 ?_))))
    unfold q9m
    simp only [Nat.add_assoc]
  · rw [rr10]; omega
  · rw [rr10]; exact bc.2.2.1.fr k3 (fun j p q _ => by omega)
  · exact vm.more (Int.le_refl _)
  · exact kI (by omega) ((W2 _ _ (by omega) (by omega)).trans s43)
  · have e : rc V3 (r + 27 + 1) j = 0 := by
      show gA V3 (r + 27 + 1 + 1) j.toNat = 0
      rw [(K.2.2 _ (by omega)).2, wA, (YY2 _ (by omega)).2.2.1]; exact sz0 _
    rw [e]; exact ⟨by decide, by decide⟩
  · exact ⟨Or.inr (kI (by omega) ((W2 _ _ (by omega) (by omega)).trans s5)), Or.inl ⟨rfl, kI (by omega) ((W2 _ _ (by omega) (by omega)).trans s7)⟩⟩
  · have e : gI V3 (r + 30) 1 = 0 := kI (by omega) ((W2 _ _ (by omega) (by omega)).trans s3)
    rw [e]; exact ⟨by decide, by decide⟩
  · exact kI (by omega) ((W4 _ _ (by omega) (by omega)).trans q4.1)
  · have e : gI V3 (r + 45) 2 = 0 := kI (by omega) ((W4 _ _ (by omega) (by omega)).trans q4.2)
    rw [e]; exact ⟨by decide, by decide⟩
  · exact z1.fr k23 (by omega) (by omega)
  · rw [rr10, rr11]; exact Or.inl ⟨rfl, rfl⟩
  · rw [rr11]
    obtain ⟨n0, n1, n2, n3, n4, n5, n6, n7, n8, n9, na, nb, nc, nd⟩ := q8
    have v : ∀ a j x, r + 286 ≤ a → gI B8 a j = x → gI V3 a j = x := fun a j x h1 h => by rw [K.I (by omega), wI a j (by omega)]; exact h
    exact ⟨⟨rz0 (v _ _ _ (by omega) n0), rz0 (v _ _ _ (by omega) n1), rz0 (v _ _ _ (by omega) n2), rz0 (v _ _ _ (by omega) n3), rz0 (v _ _ _ (by omega) n5), rz0 (v _ _ _ (by omega) n6), rz0 (v _ _ _ (by omega) n7), rz0 (v _ _ _ (by omega) n8), rz0 (v _ _ _ (by omega) n9)⟩, ⟨rz0 (v _ _ _ (by omega) na.1), rz0 (v _ _ _ (by omega) nb.1), rz0 (v _ _ _ (by omega) nc.1), rz0 (v _ _ _ (by omega) nd.1)⟩, v _ _ _ (by omega) na.2, v _ _ _ (by omega) nb.2, v _ _ _ (by omega) nc.2, v _ _ _ (by omega) nd.2⟩
  · exact kI (by omega) ((W0 _ _ (by omega) (by omega)).trans uu0)
  · exact kI (by omega) ((W1 _ _ (by omega) (by omega)).trans m10)
  · exact kI (by omega) ((W1 _ _ (by omega) (by omega)).trans m9)
  · exact kI (by omega) ((W0 _ _ (by omega) (by omega)).trans uu1)
  · exact kI (by omega) ((W0 _ _ (by omega) (by omega)).trans uu3)
  · rw [K.1]; exact wJ
  · have e : gI V3 (r + 43) 1 = 0 := kI (by omega) ((W3 _ _ (by omega) (by omega)).trans q3)
    exact ⟨by rw [e]; decide, by rw [e]; decide⟩
  · exact kI (by omega) ((W1 _ _ (by omega) (by omega)).trans m1)
  · exact kI (by omega) ((W1 _ _ (by omega) (by omega)).trans m2)
  · exact kI (by omega) ((W1 _ _ (by omega) (by omega)).trans m3)
  · exact kI (by omega) ((W1 _ _ (by omega) (by omega)).trans m4)
  · exact kI (by omega) ((W1 _ _ (by omega) (by omega)).trans m5)
  · have e : rw' W (r + 20) 33 wf33 := by
      refine ⟨(W1 _ _ (by omega) (by omega)).trans m6.1, fun j a b => ?_⟩
      show gA W (r + 20 + 1) j.toNat = _
      rw [wA, (YY1 _ (by omega)).2.2.1]; exact m6.2 j a b
    exact e.fr K (by omega) (by omega)
  · exact kI (by omega) ((W1 _ _ (by omega) (by omega)).trans m7)
  · exact kI (by omega) ((W1 _ _ (by omega) (by omega)).trans m8)
end

/-! made: the reader -/
section
variable {G G' : mG} {V V' : mV} {r k n z c d s q sz : Nat}
def q6m : Nat := a_nf 7 + 1601 + a_nf 7 + 1601 + a_nf 7 + 1601 + a_nf 7 + 1601 + a_nf 7 + 1601 + a_nf 7 + 33 + a_nf 3 + (a_nf 7 + 1600 + a_nf 7 + 64)
theorem made6 (hc : G.1 r = .inl 6) : ∃ G' V', F_X6_init r (r + 1, z, G, V) = some ((r + 18, z + q6m, G', V'), 0) ∧ is6 G' r ∧ gR G' r 7 = r + 13 ∧ gx r (r + 1) G G' ∧ vx r (r + 1) V V' ∧ gI V' (r + 1) 1 = 0 ∧ gI V' (r + 3) 1 = 0 ∧ gI V' (r + 5) 1 = 0 ∧ gI V' (r + 7) 1 = 0 ∧ gI V' (r + 9) 1 = 0 ∧ rw' V' (r + 11) 33 wf33 ∧ gI V' (r + 14) 1 = 0 ∧ gI V' (r + 16) 1 = 64 ∧ gI V' r 12 = -1 ∧ ∀ j, j ≠ 12 → gI V' r j = gI V r j := by
  obtain ⟨G1, hG1⟩ : ∃ G1, G1 = rowG G r 0 (r + 1) 1601 := ⟨_, rfl⟩
  have c1 : G1.1 r = .inl 6 := by rw [hG1]; exact rowG_c (by omega) hc
  have f1_0 : fl7 G1 r 0 (r + 1) 1601 := by rw [hG1]; exact fl7_new (by omega) (by decide)
  obtain ⟨G2, hG2⟩ : ∃ G2, G2 = rowG G1 r 1 (r + 3) 1601 := ⟨_, rfl⟩
  have c2 : G2.1 r = .inl 6 := by rw [hG2]; exact rowG_c (by omega) c1
  have f2_0 : fl7 G2 r 0 (r + 1) 1601 := by rw [hG2]; exact fl7_old f1_0 (by omega) (by omega) (by omega) (by decide)
  have f2_1 : fl7 G2 r 1 (r + 3) 1601 := by rw [hG2]; exact fl7_new (by omega) (by decide)
  obtain ⟨G3, hG3⟩ : ∃ G3, G3 = rowG G2 r 2 (r + 5) 1601 := ⟨_, rfl⟩
  have c3 : G3.1 r = .inl 6 := by rw [hG3]; exact rowG_c (by omega) c2
  have f3_0 : fl7 G3 r 0 (r + 1) 1601 := by rw [hG3]; exact fl7_old f2_0 (by omega) (by omega) (by omega) (by decide)
  have f3_1 : fl7 G3 r 1 (r + 3) 1601 := by rw [hG3]; exact fl7_old f2_1 (by omega) (by omega) (by omega) (by decide)
  have f3_2 : fl7 G3 r 2 (r + 5) 1601 := by rw [hG3]; exact fl7_new (by omega) (by decide)
  obtain ⟨G4, hG4⟩ : ∃ G4, G4 = rowG G3 r 3 (r + 7) 1601 := ⟨_, rfl⟩
  have c4 : G4.1 r = .inl 6 := by rw [hG4]; exact rowG_c (by omega) c3
  have f4_0 : fl7 G4 r 0 (r + 1) 1601 := by rw [hG4]; exact fl7_old f3_0 (by omega) (by omega) (by omega) (by decide)
  have f4_1 : fl7 G4 r 1 (r + 3) 1601 := by rw [hG4]; exact fl7_old f3_1 (by omega) (by omega) (by omega) (by decide)
  have f4_2 : fl7 G4 r 2 (r + 5) 1601 := by rw [hG4]; exact fl7_old f3_2 (by omega) (by omega) (by omega) (by decide)
  have f4_3 : fl7 G4 r 3 (r + 7) 1601 := by rw [hG4]; exact fl7_new (by omega) (by decide)
  obtain ⟨G5, hG5⟩ : ∃ G5, G5 = rowG G4 r 4 (r + 9) 1601 := ⟨_, rfl⟩
  have c5 : G5.1 r = .inl 6 := by rw [hG5]; exact rowG_c (by omega) c4
  have f5_0 : fl7 G5 r 0 (r + 1) 1601 := by rw [hG5]; exact fl7_old f4_0 (by omega) (by omega) (by omega) (by decide)
  have f5_1 : fl7 G5 r 1 (r + 3) 1601 := by rw [hG5]; exact fl7_old f4_1 (by omega) (by omega) (by omega) (by decide)
  have f5_2 : fl7 G5 r 2 (r + 5) 1601 := by rw [hG5]; exact fl7_old f4_2 (by omega) (by omega) (by omega) (by decide)
  have f5_3 : fl7 G5 r 3 (r + 7) 1601 := by rw [hG5]; exact fl7_old f4_3 (by omega) (by omega) (by omega) (by decide)
  have f5_4 : fl7 G5 r 4 (r + 9) 1601 := by rw [hG5]; exact fl7_new (by omega) (by decide)
  obtain ⟨G6, hG6⟩ : ∃ G6, G6 = rowG G5 r 5 (r + 11) 33 := ⟨_, rfl⟩
  have c6 : G6.1 r = .inl 6 := by rw [hG6]; exact rowG_c (by omega) c5
  have f6_0 : fl7 G6 r 0 (r + 1) 1601 := by rw [hG6]; exact fl7_old f5_0 (by omega) (by omega) (by omega) (by decide)
  have f6_1 : fl7 G6 r 1 (r + 3) 1601 := by rw [hG6]; exact fl7_old f5_1 (by omega) (by omega) (by omega) (by decide)
  have f6_2 : fl7 G6 r 2 (r + 5) 1601 := by rw [hG6]; exact fl7_old f5_2 (by omega) (by omega) (by omega) (by decide)
  have f6_3 : fl7 G6 r 3 (r + 7) 1601 := by rw [hG6]; exact fl7_old f5_3 (by omega) (by omega) (by omega) (by decide)
  have f6_4 : fl7 G6 r 4 (r + 9) 1601 := by rw [hG6]; exact fl7_old f5_4 (by omega) (by omega) (by omega) (by decide)
  have f6_5 : fl7 G6 r 5 (r + 11) 33 := by rw [hG6]; exact fl7_new (by omega) (by decide)
  have X6 : gx r (r + 1) G G6 := ((((((by rw [hG1]; exact gx_row (by omega) : gx r (r + 1) G G1)).trans (by rw [hG2]; exact gx_row (by omega) : gx r (r + 3) G1 G2) (by omega)).trans (by rw [hG3]; exact gx_row (by omega) : gx r (r + 5) G2 G3) (by omega)).trans (by rw [hG4]; exact gx_row (by omega) : gx r (r + 7) G3 G4) (by omega)).trans (by rw [hG5]; exact gx_row (by omega) : gx r (r + 9) G4 G5) (by omega)).trans (by rw [hG6]; exact gx_row (by omega) : gx r (r + 11) G5 G6) (by omega)
  obtain ⟨U, hU⟩ : ∃ U, U = rowV (rowV (rowV (rowV (rowV (rowV V (r + 1)) (r + 3)) (r + 5)) (r + 7)) (r + 9)) (r + 11) := ⟨_, rfl⟩
  have Y6 : vb (r + 1) V U := by rw [hU]; exact (((((vb_row).trans vb_row (by omega)).trans vb_row (by omega)).trans vb_row (by omega)).trans vb_row (by omega)).trans vb_row (by omega)
  have uu0 : gI U (r + 1) 1 = 0 := by rw [hU]; simp [rowV_I]
  have uu1 : gI U (r + 3) 1 = 0 := by rw [hU]; simp [rowV_I]
  have uu2 : gI U (r + 5) 1 = 0 := by rw [hU]; simp [rowV_I]
  have uu3 : gI U (r + 7) 1 = 0 := by rw [hU]; simp [rowV_I]
  have uu4 : gI U (r + 9) 1 = 0 := by rw [hU]; simp [rowV_I]
  have uu5 : gI U (r + 11) 1 = 0 := by rw [hU]; simp [rowV_I]
  obtain ⟨A1, B1, D1, t1, p1, x1, d1, e1, o1, b1, q1⟩ := addSub (F := F_X3_init) (G := G6) (V := U) (z := z + a_nf 7 + 1601 + a_nf 7 + 1601 + a_nf 7 + 1601 + a_nf 7 + 1601 + a_nf 7 + 1601 + a_nf 7 + 33) (r := r) (n := r + 13) (k := 7) (c := 6) (d := 3) (sz := 5) (q := a_nf 7 + 1600 + a_nf 7 + 64) (P := fun G => is3 G (r + 13)) (Q := fun V => gI V (r + 14) 1 = 0 ∧ gI V (r + 16) 1 = 64) (fun G V z h => by
    obtain ⟨G', V', e, i3, g, v, -, -, a, b⟩ := made3 (z := z) (V := V) h
    exact ⟨G', V', e.trans (by simp only [Nat.add_assoc]), i3, g, v, fun _ => ⟨a, b⟩⟩) (fun G G' h g => is3_up h g (by omega) (by omega)) (by omega) c6
  have r7 : gR D1 r 7 = r + 13 := by unfold gR; rw [e1]
  obtain ⟨E1, hE1⟩ : ∃ E1, E1 = sR D1 r 9 (.ref (r + 13)) := ⟨_, rfl⟩
  have gE1 : ∀ m, gx r m D1 E1 := fun m => by
    rw [hE1]
    exact ⟨fun _ _ => rfl, fun a j _ w => by
      show u2 D1.2.1 r 9 (.ref (r + 13)) a j = _
      unfold u2
      rw [if_neg (fun q => w q.1)], fun _ _ _ => rfl⟩
  have oE : ∀ j, j ≠ 9 → E1.2.1 r j = D1.2.1 r j := fun j hj => by
    rw [hE1]
    show u2 D1.2.1 r 9 (.ref (r + 13)) r j = _
    unfold u2
    rw [if_neg (fun q => hj q.2)]
  have oE9 : E1.2.1 r 9 = .ref (r + 13) := by
    rw [hE1]
    show u2 D1.2.1 r 9 (.ref (r + 13)) r 9 = _
    unfold u2
    rw [if_pos ⟨rfl, rfl⟩]
  have XX : gx r (r + 13) G6 E1 := x1.trans (gE1 (r + 13)) (Nat.le_refl _)
  have oo : ∀ j, j < 6 → E1.2.1 r j = G6.2.1 r j := fun j hj => by rw [oE j (by omega), o1 j (by omega)]
  have g0 : fl7 E1 r 0 (r + 1) 1601 := fl7_up f6_0 XX (oo 0 (by decide)) (by omega) (by omega)
  have g1 : fl7 E1 r 1 (r + 3) 1601 := fl7_up f6_1 XX (oo 1 (by decide)) (by omega) (by omega)
  have g2 : fl7 E1 r 2 (r + 5) 1601 := fl7_up f6_2 XX (oo 2 (by decide)) (by omega) (by omega)
  have g3 : fl7 E1 r 3 (r + 7) 1601 := fl7_up f6_3 XX (oo 3 (by decide)) (by omega) (by omega)
  have g4 : fl7 E1 r 4 (r + 9) 1601 := fl7_up f6_4 XX (oo 4 (by decide)) (by omega) (by omega)
  have g5 : fl7 E1 r 5 (r + 11) 33 := fl7_up f6_5 XX (oo 5 (by decide)) (by omega) (by omega)
  have P1 : is3 E1 (r + 13) := is3_up p1 (gE1 (r + 18)) (by omega) (by omega)
  have r7' : gR E1 r 7 = r + 13 := by unfold gR; rw [oE 7 (by decide), e1]
  have i6 : is6 E1 r := ⟨(gE1 (r + 1)).1 r (by omega) |>.trans d1, g0.1, g0.2.1, g0.2.2, g1.1, g1.2.1, g1.2.2, g2.1, g2.2.1, g2.2.2, g3.1, g3.2.1, g3.2.2, g4.1, g4.2.1, g4.2.2, g5.1, g5.2.1, g5.2.2, by rw [r7', oE 7 (by decide)]; exact e1, by rw [r7']; exact P1, oE9, P1⟩
  obtain ⟨W, hW⟩ : ∃ W, W = sI B1 r 12 (-1) := ⟨_, rfl⟩
  have yW : vx r (r + 1) V W := by
    rw [hW]
    exact ((Y6.trans b1 (by omega)).x).trans (vx_sI (n := r + 1)) (Nat.le_refl _)
  have wI : ∀ a j, a ≠ r → gI W a j = gI B1 a j := fun a j ha => by rw [hW, gI_sI, if_neg (fun q => ha q.1)]
  obtain ⟨V1, V2, w1, w2, k2, ww⟩ := words_made (V := W) g5.2.1 g5.2.2 (by rw [wI _ _ (by omega), (b1 _ (by omega)).1]; exact uu5)
  have fin : ∀ a j, a ≠ r + 11 → a ≠ r + 12 → a ≠ r → gI V2 a j = gI B1 a j := fun a j h1 h2 h3 => by rw [k2.I (by omega), wI a j h3]
  refine ⟨E1, V2, ?_, i6, r7', X6.trans XX (by omega), yW.trans (vx_fr (r := r) (n := r + 1) k2 (fun a q => by omega)) (Nat.le_refl _), by rw [fin _ _ (by omega) (by omega) (by omega), (b1 _ (by omega)).1]; exact uu0, by rw [fin _ _ (by omega) (by omega) (by omega), (b1 _ (by omega)).1]; exact uu1, by rw [fin _ _ (by omega) (by omega) (by omega), (b1 _ (by omega)).1]; exact uu2, by rw [fin _ _ (by omega) (by omega) (by omega), (b1 _ (by omega)).1]; exact uu3, by rw [fin _ _ (by omega) (by omega) (by omega), (b1 _ (by omega)).1]; exact uu4, ww, by rw [fin _ _ (by omega) (by omega) (by omega)]; exact q1.1, by rw [fin _ _ (by omega) (by omega) (by omega)]; exact q1.2, by rw [k2.I (by omega), hW, gI_sI, if_pos ⟨rfl, rfl⟩], fun j hj => ?_⟩
  rotate_left
  · rw [k2.I (by omega), hW, gI_sI, if_neg (fun q => hj q.2), (b1 _ (by omega)).1, (Y6 _ (by omega)).1]
  unfold F_X6_init
  refine E_gd hc ?_
  refine (addRow (cap := 1601) rfl (by decide) (by omega) hc _).trans ?_
  rw [← hG1]
  dsimp only
  refine (addRow (cap := 1601) rfl (by decide) (by omega) c1 _).trans ?_
  rw [← hG2]
  dsimp only
  refine (addRow (cap := 1601) rfl (by decide) (by omega) c2 _).trans ?_
  rw [← hG3]
  dsimp only
  refine (addRow (cap := 1601) rfl (by decide) (by omega) c3 _).trans ?_
  rw [← hG4]
  dsimp only
  refine (addRow (cap := 1601) rfl (by decide) (by omega) c4 _).trans ?_
  rw [← hG5]
  dsimp only
  refine (addRow (cap := 33) rfl (by decide) (by omega) c5 _).trans ?_
  rw [← hG6]
  dsimp only
  rw [← hU]
  refine (t1 (fun G => is3 G (r + 13)) (fun _ h => h) _).trans ?_
  dsimp only
  refine E_gd ⟨by rw [r7]; exact e1, by rw [r7]; exact p1⟩ ?_
  rw [r7]
  refine E_lt (E_lt ?_)
  rw [← hE1, ← hW]
  refine E_gd i6 (E_bd w1 (E_gd i6 (E_bd w2 ?_)))
  unfold q6m
  simp only [Nat.add_assoc]
end

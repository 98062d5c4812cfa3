/-! made: tables, moments, residents' hours -/
section
variable {G G' : mG} {V V' : mV} {r n z c : Nat}
theorem rowV_A {a j : Nat} : gA (rowV V n) a j = if a = n + 1 then 0 else gA V a j := rfl
theorem vx_sI {k : Nat} {x : Int} : vx r n V (sI V r k x) := fun a _ w => ⟨by funext j; rw [gI_sI, if_neg (fun q => w q.1)], rfl, rfl, rfl⟩
theorem gA_sI_ {i k a j : Nat} {x : Int} : gA (sI V i k x) a j = gA V a j := rfl
theorem row_fill {cap : Nat} {n : Nat} {v : Int} (hr : is7 G r) (hq : qG G (r + 1) = cap) (hn : n ≤ cap) : ∃ V', F_X7_fill G r (n : Int) v V = some (V', 0) ∧ fr (fun i => i = r ∨ i = r + 1) V V' ∧ gI V' r 1 = (n : Int) ∧ ((∀ j, gA V (r + 1) j = v) → ∀ j, gA V' (r + 1) j = v) := by
  have hc := s7_c hr
  obtain ⟨V', e, k, w⟩ := rw_fill (V := V) (n := (n : Int)) (v := v) hr hq ⟨by omega, by omega⟩
  refine ⟨V', e, k, w.1, fun h j => ?_⟩
  have e2 := p7_fill (V := V) (k := (n : Int)) (v := v) hr ⟨by omega, by omega⟩
  rw [e] at e2
  have e3 : V' = rfill V r (qG G (r + 1)) (n : Int) v := congrArg Prod.fst (Option.some.inj e2)
  rw [e3]
  unfold rfill
  rw [gA_rset, if_pos rfl]
  by_cases c : (j : Int) < min (max (n : Int) 0) (qG G (r + 1))
  · rw [if_pos c]
  · rw [if_neg c]; exact h j

theorem made0 (hc : G.1 r = .inl 0) : ∃ G' V', F_X0_init r (r + 1, z, G, V) = some ((r + 7, z + a_nf 7 + 100 + a_nf 7 + 1024 + a_nf 7 + 10, G', V'), 0) ∧ is0 G' r ∧ gx r (r + 1) G G' ∧ vx r (r + 1) V V' ∧ gI V' (r + 1) 1 = 0 ∧ gI V' (r + 3) 1 = 0 ∧ gI V' (r + 5) 1 = 0 := by
  obtain ⟨G1, hG1⟩ : ∃ G1, G1 = rowG G r 0 (r + 1) 100 := ⟨_, rfl⟩
  have c1 : G1.1 r = .inl 0 := by rw [hG1]; exact rowG_c (by omega) hc
  have f1_0 : fl7 G1 r 0 (r + 1) 100 := by rw [hG1]; exact fl7_new (by omega) (by decide)
  obtain ⟨G2, hG2⟩ : ∃ G2, G2 = rowG G1 r 1 (r + 3) 1024 := ⟨_, rfl⟩
  have c2 : G2.1 r = .inl 0 := by rw [hG2]; exact rowG_c (by omega) c1
  have f2_0 : fl7 G2 r 0 (r + 1) 100 := by rw [hG2]; exact fl7_old f1_0 (by omega) (by omega) (by omega) (by decide)
  have f2_1 : fl7 G2 r 1 (r + 3) 1024 := by rw [hG2]; exact fl7_new (by omega) (by decide)
  obtain ⟨G3, hG3⟩ : ∃ G3, G3 = rowG G2 r 2 (r + 5) 10 := ⟨_, rfl⟩
  have c3 : G3.1 r = .inl 0 := by rw [hG3]; exact rowG_c (by omega) c2
  have f3_0 : fl7 G3 r 0 (r + 1) 100 := by rw [hG3]; exact fl7_old f2_0 (by omega) (by omega) (by omega) (by decide)
  have f3_1 : fl7 G3 r 1 (r + 3) 1024 := by rw [hG3]; exact fl7_old f2_1 (by omega) (by omega) (by omega) (by decide)
  have f3_2 : fl7 G3 r 2 (r + 5) 10 := by rw [hG3]; exact fl7_new (by omega) (by decide)
  have I : is0 G3 r := ⟨c3, f3_0.1, f3_0.2.1, f3_0.2.2, f3_1.1, f3_1.2.1, f3_1.2.2, f3_2.1, f3_2.2.1, f3_2.2.2⟩
  have X : gx r (r + 1) G G3 := by
    rw [hG3, hG2, hG1]
    exact ((gx_row (by omega)).trans (gx_row (by omega)) (by omega)).trans (gx_row (by omega)) (by omega)
  obtain ⟨U, hU⟩ : ∃ U, U = rowV (rowV (rowV V (r + 1)) (r + 3)) (r + 5) := ⟨_, rfl⟩
  have Y : vx r (r + 1) V U := by rw [hU]; exact ((vx_row).trans vx_row (by omega)).trans vx_row (by omega)
  refine ⟨G3, U, ?_, I, X, Y, by rw [hU]; simp [rowV_I, gI_sI], by rw [hU]; simp [rowV_I, gI_sI], by rw [hU]; simp [rowV_I, gI_sI]⟩
  unfold F_X0_init
  refine E_gd hc ?_
  refine (addRow (cap := 100) rfl (by decide) (by omega) hc _).trans ?_
  rw [← hG1]
  refine (addRow (cap := 1024) rfl (by decide) (by omega) c1 _).trans ?_
  rw [← hG2]
  refine (addRow (cap := 10) rfl (by decide) (by omega) c2 _).trans ?_
  rw [← hG3]
  rw [hU]
theorem made4 (hc : G.1 r = .inl 4) : ∃ G' V', F_X4_init r (r + 1, z, G, V) = some ((r + 9, z + a_nf 7 + 10 + a_nf 7 + 10 + a_nf 7 + 100 + a_nf 7 + 160, G', V'), 0) ∧ is4 G' r ∧ gx r (r + 1) G G' ∧ vx r (r + 1) V V' := by
  obtain ⟨G1, hG1⟩ : ∃ G1, G1 = rowG G r 1 (r + 1) 10 := ⟨_, rfl⟩
  have c1 : G1.1 r = .inl 4 := by rw [hG1]; exact rowG_c (by omega) hc
  have f1_0 : fl7 G1 r 1 (r + 1) 10 := by rw [hG1]; exact fl7_new (by omega) (by decide)
  obtain ⟨G2, hG2⟩ : ∃ G2, G2 = rowG G1 r 2 (r + 3) 10 := ⟨_, rfl⟩
  have c2 : G2.1 r = .inl 4 := by rw [hG2]; exact rowG_c (by omega) c1
  have f2_0 : fl7 G2 r 1 (r + 1) 10 := by rw [hG2]; exact fl7_old f1_0 (by omega) (by omega) (by omega) (by decide)
  have f2_1 : fl7 G2 r 2 (r + 3) 10 := by rw [hG2]; exact fl7_new (by omega) (by decide)
  obtain ⟨G3, hG3⟩ : ∃ G3, G3 = rowG G2 r 3 (r + 5) 100 := ⟨_, rfl⟩
  have c3 : G3.1 r = .inl 4 := by rw [hG3]; exact rowG_c (by omega) c2
  have f3_0 : fl7 G3 r 1 (r + 1) 10 := by rw [hG3]; exact fl7_old f2_0 (by omega) (by omega) (by omega) (by decide)
  have f3_1 : fl7 G3 r 2 (r + 3) 10 := by rw [hG3]; exact fl7_old f2_1 (by omega) (by omega) (by omega) (by decide)
  have f3_2 : fl7 G3 r 3 (r + 5) 100 := by rw [hG3]; exact fl7_new (by omega) (by decide)
  obtain ⟨G4, hG4⟩ : ∃ G4, G4 = rowG G3 r 4 (r + 7) 160 := ⟨_, rfl⟩
  have c4 : G4.1 r = .inl 4 := by rw [hG4]; exact rowG_c (by omega) c3
  have f4_0 : fl7 G4 r 1 (r + 1) 10 := by rw [hG4]; exact fl7_old f3_0 (by omega) (by omega) (by omega) (by decide)
  have f4_1 : fl7 G4 r 2 (r + 3) 10 := by rw [hG4]; exact fl7_old f3_1 (by omega) (by omega) (by omega) (by decide)
  have f4_2 : fl7 G4 r 3 (r + 5) 100 := by rw [hG4]; exact fl7_old f3_2 (by omega) (by omega) (by omega) (by decide)
  have f4_3 : fl7 G4 r 4 (r + 7) 160 := by rw [hG4]; exact fl7_new (by omega) (by decide)
  have I : is4 G4 r := ⟨c4, f4_0.1, f4_0.2.1, f4_0.2.2, f4_1.1, f4_1.2.1, f4_1.2.2, f4_2.1, f4_2.2.1, f4_2.2.2, f4_3.1, f4_3.2.1, f4_3.2.2⟩
  have X : gx r (r + 1) G G4 := by
    rw [hG4, hG3, hG2, hG1]
    exact (((gx_row (by omega)).trans (gx_row (by omega)) (by omega)).trans (gx_row (by omega)) (by omega)).trans (gx_row (by omega)) (by omega)
  obtain ⟨U, hU⟩ : ∃ U, U = rowV (rowV (rowV (rowV V (r + 1)) (r + 3)) (r + 5)) (r + 7) := ⟨_, rfl⟩
  have Y : vx r (r + 1) V U := by rw [hU]; exact (((vx_row).trans vx_row (by omega)).trans vx_row (by omega)).trans vx_row (by omega)
  refine ⟨G4, U, ?_, I, X, Y⟩
  unfold F_X4_init
  refine E_gd hc ?_
  refine (addRow (cap := 10) rfl (by decide) (by omega) hc _).trans ?_
  rw [← hG1]
  refine (addRow (cap := 10) rfl (by decide) (by omega) c1 _).trans ?_
  rw [← hG2]
  refine (addRow (cap := 100) rfl (by decide) (by omega) c2 _).trans ?_
  rw [← hG3]
  refine (addRow (cap := 160) rfl (by decide) (by omega) c3 _).trans ?_
  rw [← hG4]
  rw [hU]
theorem made2 (hc : G.1 r = .inl 2) : ∃ G' V', F_X2_init r (r + 1, z, G, V) = some ((r + 11, z + a_nf 7 + 43 + a_nf 7 + 10 + a_nf 7 + 2 + a_nf 7 + 3 + a_nf 7 + 10, G', V'), 0) ∧ is2 G' r ∧ gx r (r + 1) G G' ∧ vx r (r + 1) V V' ∧ gI V' (r + 3) 1 = 0 ∧ gI V' (r + 5) 1 = 0 ∧ gI V' (r + 7) 1 = 0 ∧ gI V' (r + 9) 1 = 0 ∧ gI V' (r + 1) 1 = 43 ∧ ∀ j, gA V' (r + 2) j = 0 := by
  obtain ⟨G1, hG1⟩ : ∃ G1, G1 = rowG G r 0 (r + 1) 43 := ⟨_, rfl⟩
  have c1 : G1.1 r = .inl 2 := by rw [hG1]; exact rowG_c (by omega) hc
  have f1_0 : fl7 G1 r 0 (r + 1) 43 := by rw [hG1]; exact fl7_new (by omega) (by decide)
  obtain ⟨G2, hG2⟩ : ∃ G2, G2 = rowG G1 r 1 (r + 3) 10 := ⟨_, rfl⟩
  have c2 : G2.1 r = .inl 2 := by rw [hG2]; exact rowG_c (by omega) c1
  have f2_0 : fl7 G2 r 0 (r + 1) 43 := by rw [hG2]; exact fl7_old f1_0 (by omega) (by omega) (by omega) (by decide)
  have f2_1 : fl7 G2 r 1 (r + 3) 10 := by rw [hG2]; exact fl7_new (by omega) (by decide)
  obtain ⟨G3, hG3⟩ : ∃ G3, G3 = rowG G2 r 3 (r + 5) 2 := ⟨_, rfl⟩
  have c3 : G3.1 r = .inl 2 := by rw [hG3]; exact rowG_c (by omega) c2
  have f3_0 : fl7 G3 r 0 (r + 1) 43 := by rw [hG3]; exact fl7_old f2_0 (by omega) (by omega) (by omega) (by decide)
  have f3_1 : fl7 G3 r 1 (r + 3) 10 := by rw [hG3]; exact fl7_old f2_1 (by omega) (by omega) (by omega) (by decide)
  have f3_2 : fl7 G3 r 3 (r + 5) 2 := by rw [hG3]; exact fl7_new (by omega) (by decide)
  obtain ⟨G4, hG4⟩ : ∃ G4, G4 = rowG G3 r 4 (r + 7) 3 := ⟨_, rfl⟩
  have c4 : G4.1 r = .inl 2 := by rw [hG4]; exact rowG_c (by omega) c3
  have f4_0 : fl7 G4 r 0 (r + 1) 43 := by rw [hG4]; exact fl7_old f3_0 (by omega) (by omega) (by omega) (by decide)
  have f4_1 : fl7 G4 r 1 (r + 3) 10 := by rw [hG4]; exact fl7_old f3_1 (by omega) (by omega) (by omega) (by decide)
  have f4_2 : fl7 G4 r 3 (r + 5) 2 := by rw [hG4]; exact fl7_old f3_2 (by omega) (by omega) (by omega) (by decide)
  have f4_3 : fl7 G4 r 4 (r + 7) 3 := by rw [hG4]; exact fl7_new (by omega) (by decide)
  obtain ⟨G5, hG5⟩ : ∃ G5, G5 = rowG G4 r 5 (r + 9) 10 := ⟨_, rfl⟩
  have c5 : G5.1 r = .inl 2 := by rw [hG5]; exact rowG_c (by omega) c4
  have f5_0 : fl7 G5 r 0 (r + 1) 43 := by rw [hG5]; exact fl7_old f4_0 (by omega) (by omega) (by omega) (by decide)
  have f5_1 : fl7 G5 r 1 (r + 3) 10 := by rw [hG5]; exact fl7_old f4_1 (by omega) (by omega) (by omega) (by decide)
  have f5_2 : fl7 G5 r 3 (r + 5) 2 := by rw [hG5]; exact fl7_old f4_2 (by omega) (by omega) (by omega) (by decide)
  have f5_3 : fl7 G5 r 4 (r + 7) 3 := by rw [hG5]; exact fl7_old f4_3 (by omega) (by omega) (by omega) (by decide)
  have f5_4 : fl7 G5 r 5 (r + 9) 10 := by rw [hG5]; exact fl7_new (by omega) (by decide)
  have I : is2 G5 r := ⟨c5, f5_0.1, f5_0.2.1, f5_0.2.2, f5_1.1, f5_1.2.1, f5_1.2.2, f5_2.1, f5_2.2.1, f5_2.2.2, f5_3.1, f5_3.2.1, f5_3.2.2, f5_4.1, f5_4.2.1, f5_4.2.2⟩
  have X : gx r (r + 1) G G5 := by
    rw [hG5, hG4, hG3, hG2, hG1]
    exact ((((gx_row (by omega)).trans (gx_row (by omega)) (by omega)).trans (gx_row (by omega)) (by omega)).trans (gx_row (by omega)) (by omega)).trans (gx_row (by omega)) (by omega)
  obtain ⟨U, hU⟩ : ∃ U, U = rowV (rowV (rowV (sI (rowV (rowV V (r + 1)) (r + 3)) r 2 (-1)) (r + 5)) (r + 7)) (r + 9) := ⟨_, rfl⟩
  have Y : vx r (r + 1) V U := by rw [hU]; exact (((((vx_row).trans vx_row (by omega)).trans (vx_sI (n := r + 1)) (Nat.le_refl _)).trans vx_row (by omega)).trans vx_row (by omega)).trans vx_row (by omega)
  obtain ⟨V4, e4, k4, w4, x4⟩ := row_fill (V := U) (n := 43) (v := 0) f5_0.2.1 f5_0.2.2 (by decide)
  refine ⟨G5, V4, ?_, I, X, Y.trans (vx_fr (r := r) (n := r + 1) k4 (fun a q => by omega)) (Nat.le_refl _), by rw [k4.I (by omega), hU]; simp [rowV_I, gI_sI], by rw [k4.I (by omega), hU]; simp [rowV_I, gI_sI], by rw [k4.I (by omega), hU]; simp [rowV_I, gI_sI], by rw [k4.I (by omega), hU]; simp [rowV_I, gI_sI], w4, x4 (fun j => by rw [hU]; simp [rowV_A, gA_sI_])⟩
  unfold F_X2_init
  refine E_gd hc ?_
  refine (addRow (cap := 43) rfl (by decide) (by omega) hc _).trans ?_
  rw [← hG1]
  refine (addRow (cap := 10) rfl (by decide) (by omega) c1 _).trans ?_
  rw [← hG2]
  refine E_lt ?_
  refine (addRow (cap := 2) rfl (by decide) (by omega) c2 _).trans ?_
  rw [← hG3]
  refine (addRow (cap := 3) rfl (by decide) (by omega) c3 _).trans ?_
  rw [← hG4]
  refine (addRow (cap := 10) rfl (by decide) (by omega) c4 _).trans ?_
  rw [← hG5]
  rw [← hU]
  exact E_gd ⟨f5_0.1, f5_0.2.1⟩ (E_bd e4 rfl)
end

/-! THE LAW, from its beginning -/
/-- tables with nothing in them -/
def Gz : mG := (fun _ => .inl 99, fun _ _ => .null, fun _ _ => none)
def Vz : mV := (fun _ _ => 0, fun _ _ => 0, fun _ _ => 0, fun _ _ => 0)
theorem gx.b {r : Nat} {G G' : mG} (h : gx r (r + 1) G G') : gb r G G' := ⟨fun a ha => h.1 a (by omega), fun a j ha => h.2.1 a j (by omega) (by omega), fun a j ha => h.2.2 a j (by omega)⟩
def z00 : Nat := 0 + a_nf 9 + q9m + a_nf 10 + q10m
theorem z00_le : z00 + 513 * a_nf 8 ≤ 7302250 := by decide +kernel
set_option maxHeartbeats 1000000 in
theorem law_all {L : Nat} {xs : Nat → Int32} (hL : L ≤ 3072) : ∃ W', F_L_law L xs (0, 0, Gz, Vz) = some (W', 1) ∧ W'.1 ≤ 912 ∧ W'.2.1 ≤ 7302250 := by
  obtain ⟨G1, hG1⟩ : ∃ G1, G1 = zR (nw Gz 0 (.inl 9)) 0 := ⟨_, rfl⟩
  obtain ⟨V2, hV2⟩ : ∃ V2, V2 = z0 Vz 0 := ⟨_, rfl⟩
  have c1 : G1.1 0 = .inl 9 := by rw [hG1]; rfl
  obtain ⟨G4, V4, e4, h94, h74, -, -, v4⟩ := made9 (G := G1) (V := V2) (z := 0 + a_nf 9) (r := 0) c1
  obtain ⟨m, hm⟩ : ∃ m : Nat, m = 0 + 327 := ⟨_, rfl⟩
  rw [← hm] at e4
  obtain ⟨G8, hG8⟩ : ∃ G8, G8 = zR (nw G4 m (.inl 10)) m := ⟨_, rfl⟩
  obtain ⟨V9, hV9⟩ : ∃ V9, V9 = z0 V4 m := ⟨_, rfl⟩
  have b8 : gb m G4 G8 := by rw [hG8]; exact gb_new
  obtain ⟨h98, e10, e11⟩ := is9_up h94 h74 b8 (by omega) v4.2.1.1
  have c8 : G8.1 m = .inl 10 := by rw [hG8]; exact if_pos rfl
  have v9 : vY G8 V9 0 Y00 := vY_up v4 hm (fun a ha => by rw [hV9]; exact z0_lo (by omega)) b8
  have h78 : gR G8 (0 + 9) 7 = 0 + 22 := by
    have : gR G8 (0 + 9) 7 = gR G4 (0 + 9) 7 := by unfold gR; rw [b8.2.1 _ _ (by omega)]
    rw [this]; exact h74
  obtain ⟨G12, V12, e12, h12, x12, w12, r12⟩ := made10 (G := G8) (V := V9) (z := 0 + a_nf 9 + q9m + a_nf 10) (r := m) c8 (by rw [hV9]; funext k; exact z0_at.1 k)
  obtain ⟨h912, -, -⟩ := is9_up h98 h78 x12.b (by omega) v9.2.1.1
  have v12 : vY G12 V12 0 Y00 := vY_up v9 hm w12 x12.b
  obtain ⟨Z, q, eL, q33, n1, z1⟩ := law_lp (L := L) (xs := xs) (x := 0) (m := m) (n0 := m + 72) (z0 := z00) hL hm (Nat.le_refl _) (Z0 := (m + 72, 0 + a_nf 9 + q9m + a_nf 10 + q10m, G12, V12)) ⟨0, m + 72, _, G12, V12, Y00, rfl, rfl, rfl, h912, h12, v12, r12, okA_0, ⟨Nat.le_refl _, Nat.le_refl _⟩, Nat.le_add_right _ _⟩
  have zl := z00_le
  refine ⟨(Z.1, Z.2.1, Z.2.2.1, Z.2.2.2), ?_, by show Z.1 ≤ 912; omega, by show Z.2.1 ≤ _; omega⟩
  unfold F_L_law
  refine E_lt (E_lt ?_)
  show gd ((zR (nw Gz 0 (.inl 9)) 0).1 0 = .inl 9) _ = _
  refine E_gd (by rw [← hG1]; exact c1) ?_
  refine E_bd (V1 := (m, 0 + a_nf 9 + q9m, G4, V4)) (v1 := 0) (by rw [hG1, hV2] at e4; exact e4) (E_gd h94 (E_lt (E_lt ?_)))
  refine E_gd ⟨by show is9 (zR (nw G4 m (.inl 10)) m) 0; rw [← hG8]; exact h98, by show (zR (nw G4 m (.inl 10)) m).1 m = _; rw [← hG8]; exact c8⟩ ?_
  refine E_bd (V1 := (m + 72, 0 + a_nf 9 + q9m + a_nf 10 + q10m, G12, V12)) (v1 := 0) (by rw [hG8, hV9] at e12; exact e12) (E_gd ⟨h912, h12⟩ (E_bd eL ?_))
  exact E_if (fun q => absurd (q33.symm.trans q) (by decide)) (fun _ => E_if (fun q => absurd (q33.symm.trans q) (by decide)) (fun _ => E_if (fun q => absurd (q33.symm.trans q) (by decide)) (fun _ => E_if (fun q => absurd (q33.symm.trans q) (by decide)) (fun _ => E_if (fun q => absurd (q33.symm.trans q) (by decide)) (fun _ => E_if (fun q => absurd (q33.symm.trans q) (by decide)) (fun _ => E_if (fun q => absurd (q33.symm.trans q) (by decide)) (fun _ => E_if (fun q => absurd (q33.symm.trans q) (by decide)) (fun _ => E_if (fun q => absurd (q33.symm.trans q) (by decide)) (fun _ => E_if (fun q => absurd (q33.symm.trans q) (by decide)) (fun _ => E_if (fun q => absurd (q33.symm.trans q) (by decide)) (fun _ => E_if (fun q => absurd (q33.symm.trans q) (by decide)) (fun _ => E_if (fun q => absurd (q33.symm.trans q) (by decide)) (fun _ => E_if (fun q => absurd (q33.symm.trans q) (by decide)) (fun _ => E_if (fun q => absurd (q33.symm.trans q) (by decide)) (fun _ => E_if (fun q => absurd (q33.symm.trans q) (by decide)) (fun _ => E_if (fun q => absurd (q33.symm.trans q) (by decide)) (fun _ => E_if (fun q => absurd (q33.symm.trans q) (by decide)) (fun _ => E_if (fun q => absurd (q33.symm.trans q) (by decide)) (fun _ => E_if (fun q => absurd (q33.symm.trans q) (by decide)) (fun _ => E_if (fun q => absurd (q33.symm.trans q) (by decide)) (fun _ => E_if (fun q => absurd (q33.symm.trans q) (by decide)) (fun _ => E_if (fun q => absurd (q33.symm.trans q) (by decide)) (fun _ => E_if (fun q => absurd (q33.symm.trans q) (by decide)) (fun _ => E_if (fun q => absurd (q33.symm.trans q) (by decide)) (fun _ => E_if (fun q => absurd (q33.symm.trans q) (by decide)) (fun _ => E_if (fun q => absurd (q33.symm.trans q) (by decide)) (fun _ => E_if (fun q => absurd (q33.symm.trans q) (by decide)) (fun _ => E_if (fun q => absurd (q33.symm.trans q) (by decide)) (fun _ => E_if (fun q => absurd (q33.symm.trans q) (by decide)) (fun _ => E_if (fun q => absurd (q33.symm.trans q) (by decide)) (fun _ => E_if (fun q => absurd (q33.symm.trans q) (by decide)) (fun _ => rfl))))))))))))))))))))))))))))))))
theorem a_goal0 (L : Nat) (xs : Nat → Int32) (h : L ≤ 3072) : ∃ f d r, a_run (some (L, xs)) f d 303 0 (a_ent 4 [.retAddr 0]) [] 0 0 (mk Gz Vz) = some r ∧ r.2.2.2 = some (.int 1) ∧ r.1 ≤ 600000 ∧ r.2.1 ≤ 7302250 ∧ d ≤ 1000 := by
  obtain ⟨W', e, h1, h2⟩ := law_all (xs := xs) h
  obtain ⟨f, hf⟩ := q_L_law e
  have hx : a_mx 303 = 4 := by decide +kernel
  rw [hx] at hf
  exact ⟨f, 98, _, hf, rfl, by show W'.1 ≤ 600000; omega, h2, by decide⟩

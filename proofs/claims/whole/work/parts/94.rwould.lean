/-! what would fail today (reference) -/
section
variable {G : mG} {V : mV} {x m : Nat} {Z : mZ}
theorem r_least {a b : Int} (ha : rg a) (hb : rg b) : F_X10_least G a b V = some (V, min a b) := by
  unfold F_X10_least
  exact E_gd ha (E_gd hb (E_if (fun q => E_so rfl (by omega)) (fun q => E_so rfl (by omega))))
theorem r_would (ho : okZ Z) (hv : rZ V m Z) {p k : Int} (hp : rg p) (hk : rg k) :
    ∃ V', F_X10_would G m p k V = some (V', aWould Z.1 Z.2.1 p k) ∧ rQ m V V' ∧ rZ V' m Z := by
  have hn := ho.1.1
  have hh0 := ho.2.1.1
  have e := r_here (G := G) ho hv hp
  by_cases h : here Z.1 Z.2.1 p
  · rw [if_pos h] at e
    have ei := r_isIn (G := G) (V := V) (x := k) (a := 0) (b := 1) ⟨by omega, by omega⟩ ⟨by decide, by decide⟩ ⟨by decide, by decide⟩
    by_cases hk01 : k = 0 ∨ k = 1
    · rw [if_pos (show 0 ≤ k ∧ k ≤ 1 by omega)] at ei
      obtain ⟨V1, hV1⟩ : ∃ V1, V1 = sF V (m + 38) (up 282 (gA V (m + 37)) (gA V (m + 38))) := ⟨_, rfl⟩
      have e1 := r_puts (G := G) (V := V) (m := m)
      rw [← hV1] at e1
      have k1 : rQ m V V1 := by rw [hV1]; exact rQ_sF ⟨by omega, by omega⟩
      have a37 : gA V1 (m + 37) = gA V (m + 37) := by rw [hV1, gA_sFo (by omega)]
      obtain ⟨V2, v2, e2, k2, w2, -⟩ := r_called (G := G) (V := V1) ho.1 (hv.1.fr k1.cs) (by rw [a37]; exact hv.2.1) ho.2.1 h.1 h.2
      obtain ⟨V3, e3, k3, a3, -, -, -, s3⟩ := r_clears (G := G) (V := V2) (m := m)
      have w3 : rM (gA V3 (m + 37)) (cn Z.1) (s0 (calM Z.1 Z.2.1 p)).1 := by rw [a3]; exact w2
      have h3 : gA V3 (m + 37) 0 = mh Z.2.1 := w3.1
      have hal : 0 ≤ aLeft Z.2.1 ∧ aLeft Z.2.1 ≤ 23 ∧ mh Z.2.1 + aLeft Z.2.1 ≤ 9999 := by unfold aLeft; omega
      have hoc := okM_cal ho.1 ho.2.1 h.1 h.2
      obtain ⟨V4, e4, k4, w4, o4, s4⟩ := r_hours (G := G) (V := V3) (m := m) (S := s0 (calM Z.1 Z.2.1 p)) (k := (aLeft Z.2.1).toNat) ho.1 (((hv.1.fr k1.cs).fr k2.cs).fr k3.cs) w3 hoc (by show mh Z.2.1 + _ ≤ 9999; omega) (by omega) (s3 _)
      rw [Int.toNat_of_nonneg hal.1] at e4
      have e5 := r_takes (G := G) (V := V4) (m := m)
      have back := aside_back (V := V) (V1 := V1) (V2 := V4) hV1 (((k4.1 _ (by omega) (by omega) (by omega) (by omega)).trans (k3.1 _ (by omega) (by omega) (by omega) (by omega))).trans (k2.1 _ (by omega) (by omega) (by omega) (by omega)))
      have k5 : rQ m V (sF V4 (m + 37) (up 282 (gA V4 (m + 38)) (gA V4 (m + 37)))) := (((k1.trans k2.Q).trans k3.Q).trans k4.Q).trans (rQ_sF ⟨by omega, by omega⟩)
      have q3 := hoursQ_S (C := Z.1) (aLeft Z.2.1).toNat (S := s0 (calM Z.1 Z.2.1 p)) (S' := s0 (calM Z.1 Z.2.1 p)) eq3_rfl
      have q21 : (hoursQ Z.1 (aLeft Z.2.1).toNat (s0 (calM Z.1 Z.2.1 p))).2.1 = (wouldS Z.1 Z.2.1 p).2.1 := q3.2.1
      have ht : (mh Z.2.1).tmod 24 = mh Z.2.1 % 24 := Int.tmod_eq_emod_of_nonneg hh0.1
      refine ⟨_, ?_, k5, rZ_ask ho hv k5 back (by show gI V4 m 61 = -1 ∨ gI V4 m 61 = 0 ∨ gI V4 m 61 = 1; rw [s4.2.2.2.1]; exact s4.2.2.2.2.1)⟩
      unfold F_X10_would aWould
      rw [if_pos ⟨h, hk01⟩]
      refine E_bd e (E_gd (by decide) (E_if (fun q => absurd q (by decide)) (fun _ => E_gd hk (E_bd ei (E_gd (by decide) (E_if (fun q => absurd q (by decide)) (fun _ => E_bd e1 (E_bd e2 (E_bd e3 ?_)))))))))
      rw [h3, ht]
      refine E_gd ⟨by omega, by omega⟩ (E_bd (r_least ⟨by omega, by omega⟩ ⟨by omega, by omega⟩) (E_bd e4 (E_bd e5 (E_gd ⟨by omega, by omega, by omega⟩ (E_so rfl ?_)))))
      rw [gA_sFo (show m + 39 ≠ m + 37 by omega), ← q21]
      rcases hk01 with rfl | rfl
      · rw [if_pos rfl]; exact s4.1
      · rw [if_neg (by decide)]; exact s4.2.1
    · rw [if_neg (show ¬ (0 ≤ k ∧ k ≤ 1) by omega)] at ei
      refine ⟨V, ?_, rQ_refl, hv⟩
      unfold F_X10_would aWould
      rw [if_neg (fun q => hk01 q.2)]
      exact E_bd e (E_gd (by decide) (E_if (fun q => absurd q (by decide)) (fun _ => E_gd hk (E_bd ei (E_gd (by decide) (E_if (fun _ => rfl) (fun q => absurd rfl q)))))))
  · rw [if_neg h] at e
    refine ⟨V, ?_, rQ_refl, hv⟩
    unfold F_X10_would aWould
    rw [if_neg (fun q => h q.1)]
    exact E_bd e (E_gd (by decide) (E_if (fun _ => rfl) (fun q => absurd rfl q)))
end

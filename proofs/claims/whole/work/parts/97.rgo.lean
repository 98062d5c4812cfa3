/-! hours go by, a step is taken back (reference) -/
section
variable {G : mG} {V : mV} {x m : Nat} {Z : mZ}
theorem rZ_S (h : rZ V m Z) (M : mMo) : ∃ t, rS V m (M, t) :=
  ⟨((gA V (m + 39) 0, gA V (m + 39) 1), (0, gI V m 61, gI V m 62), fun p => gA V (m + 40) p.toNat), rfl, rfl, fun _ _ _ => rfl, rfl, h.2.2.2.2, fun _ => rfl⟩
theorem r_go (ho : okZ Z) (hv : rZ V m Z) {k : Int} (hk : rg k) :
    ∃ V', F_X10_go G m k V = some (V', aGo Z k) ∧ rG m V V' ∧ rZ V' m (goZ Z k) := by
  have hn := ho.1.1
  have hh0 := ho.2.1.1
  have hM0 : gA V (m + 37) 0 = mh Z.2.1 := hv.2.1.1
  have ei := r_isIn (G := G) (V := V) (x := k) (a := 1) (b := 500) ⟨by omega, by omega⟩ ⟨by decide, by decide⟩ ⟨by decide, by decide⟩
  have no : ¬ ((1 ≤ k ∧ k ≤ 500) ∧ mh Z.2.1 + k ≤ 9999) → ∃ V', F_X10_go_J26 G m k V = some (V', aGo Z k) ∧ rG m V V' ∧ rZ V' m (goZ Z k) := by
    intro q
    obtain ⟨V1, e1, hV1, w1⟩ := r_refuse (G := G) hv (k := 2) (by decide)
    unfold goZ aGo
    rw [if_neg q, if_neg q]
    exact ⟨V1, by unfold F_X10_go_J26; exact E_bd e1 rfl, by rw [hV1]; exact rG_sA (by omega), w1⟩
  by_cases h5 : 1 ≤ k ∧ k ≤ 500
  · rw [if_pos h5] at ei
    by_cases h : mh Z.2.1 + k ≤ 9999
    · obtain ⟨t, hS⟩ := rZ_S hv Z.2.1
      obtain ⟨a, b, c, d, d5⟩ := hv
      obtain ⟨V1, e1, k1, w1⟩ := r_keeps (G := G) hn.2 b ho.2.1.2.2.2.2.2.2 c (fun Q hQ => (ho.2.2 Q hQ).2.2.2.2.2.2)
      have kc : rCs m V V1 := ⟨fun i p q => k1.1 i (by omega), by rw [k1.2.2.2]⟩
      have hS1 : rS V1 m (Z.2.1, t) := by
        unfold rS
        rw [k1.1 (m + 39) (by omega), k1.1 (m + 40) (by omega), k1.2.1 m 61 (by omega), k1.2.1 m 62 (by omega)]; exact hS
      obtain ⟨V2, e2, k2, w2, o2, s2⟩ := r_hours (G := G) (V := V1) (m := m) (S := (Z.2.1, t)) (k := k.toNat) ho.1 (a.fr kc) (by rw [k1.1 _ (by omega)]; exact b) ho.2.1 (by show mh Z.2.1 + _ ≤ 9999; omega) (by omega) hS1
      rw [Int.toNat_of_nonneg (by omega)] at e2
      have q3 := hoursQ_S (C := Z.1) k.toNat (S := (Z.2.1, t)) (S' := (Z.2.1, t)) eq3_rfl
      have q1 : (hoursQ Z.1 k.toNat (Z.2.1, t)).1 = (hoursS Z.1 k.toNat (s0 Z.2.1)).1 := q3.1.trans (hours_ind k.toNat rfl)
      rw [q1] at w2
      have hmh : ∀ (j : Nat) (S : mSt), mh (hoursS Z.1 j S).1 = mh S.1 + j := by
        intro j
        induction j with
        | zero => intro S; show mh S.1 = _; omega
        | succ j ih =>
          intro S
          show mh (hoursS Z.1 j (hourS Z.1 (S.1, S.2.1, S.2.2.1, fun _ => 0))).1 = _
          rw [ih, mh_hour]
          show mh S.1 + 1 + (j : Int) = _
          omega
      have g2 : mh (hoursS Z.1 k.toNat (s0 Z.2.1)).1 = mh Z.2.1 + k := by rw [hmh]; show mh Z.2.1 + _ = _; omega
      refine ⟨V2, ?_, k1.out.trans k2.Q.out, ?_⟩
      · unfold F_X10_go aGo
        rw [if_pos ⟨h5, h⟩]
        refine E_gd hk (E_bd ei (E_gd (by decide) (E_if (fun q => absurd q (by decide)) (fun _ => ?_))))
        rw [hM0]
        refine E_gd ⟨by omega, by omega⟩ (E_if (fun _ => E_bd e1 (E_bd e2 (E_so rfl ?_))) (fun q => absurd h q))
        rw [w2.1, g2]
      · unfold goZ
        rw [if_pos ⟨h5, h⟩]
        obtain ⟨p1, p2, p3, p4⟩ := w1
        refine ⟨(a.fr kc).fr k2.cs, w2, ⟨by rw [k2.2.1 m 69 (by omega)]; exact p1, p2, by rw [k2.2.1 m 70 (by omega)]; exact p3, fun i hi => ?_⟩, fun j p q => ?_, by rw [s2.2.2.2.1]; exact s2.2.2.2.2.1⟩
        · rw [k2.2.1 m 70 (by omega), k2.1 _ (by omega) (by omega) (by omega) (by omega)]; exact p4 i hi
        · rw [k2.1 _ (by omega) (by omega) (by omega) (by omega), k1.1 _ (by omega)]; exact d j p q
    · obtain ⟨V1, e1, r1⟩ := no (fun q => h q.2)
      refine ⟨V1, ?_, r1⟩
      unfold F_X10_go
      refine E_gd hk (E_bd ei (E_gd (by decide) (E_if (fun q => absurd q (by decide)) (fun _ => ?_))))
      rw [hM0]
      exact E_gd ⟨by omega, by omega⟩ (E_if (fun q => absurd q h) (fun _ => e1))
  · rw [if_neg h5] at ei
    obtain ⟨V1, e1, r1⟩ := no (fun q => h5 q.1)
    refine ⟨V1, ?_, r1⟩
    unfold F_X10_go
    exact E_gd hk (E_bd ei (E_gd (by decide) (E_if (fun _ => e1) (fun q => absurd rfl q))))
theorem r_undoZ (ho : okZ Z) (hv : rZ V m Z) :
    ∃ V', F_X10_undo G m V = some (V', aUndo Z) ∧ rG m V V' ∧ rZ V' m (undoZ Z) := by
  obtain ⟨C, M, P, R⟩ := Z
  have hn := ho.1.1
  obtain ⟨a, b, c, d, d5⟩ := hv
  cases P with
  | nil =>
    obtain ⟨V1, e1, hV1, w1⟩ := r_refuse (G := G) (Z := (C, M, [], R)) ⟨a, b, c, d, d5⟩ (k := 4) (by decide)
    have e4 : gA V (m + 2) 4 = R 4 := d 4 (by decide) (by decide)
    refine ⟨V1, ?_, by rw [hV1]; exact rG_sA (by omega), w1⟩
    rw [r_undo0 c, hV1, e4]; rfl
  | cons Q P =>
    obtain ⟨V1, e1, a1, i1, j1, l1, w1, p1⟩ := r_undo (G := G) hn.2 (ho.2.2 Q List.mem_cons_self).2.2.2.2.2.2 c
    refine ⟨V1, e1, ⟨fun i _ q => a1 i (by omega), fun i k q => i1 i k (by omega), fun i k _ => by rw [j1], fun i _ => by rw [l1]⟩, a.fr ⟨fun i p q => a1 i (by omega), by rw [l1]⟩, w1, p1, fun j p q => ?_, ?_⟩
    · rw [a1 _ (by omega)]; exact d j p q
    · rw [i1 m 61 (by omega)]; exact d5
end

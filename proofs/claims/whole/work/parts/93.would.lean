/-! what would fail today, both -/
def aLeft (M : mMo) : Int := min (23 - mh M % 24) (9999 - mh M)
noncomputable def wouldS (C : mCy) (M : mMo) (p : Int) : mSt := hoursS C (aLeft M).toNat (s0 (calM C M p))
noncomputable def aWould (C : mCy) (M : mMo) (p k : Int) : Int := if here C M p ∧ (k = 0 ∨ k = 1) then (if k = 0 then (wouldS C M p).2.1.1 else (wouldS C M p).2.1.2) else -1
section
variable {G : mG} {V : mV} {x m : Nat} {Z : mZ}
theorem c_would (hG : is9 G x) (ho : okZ Z) (hv : vZ G V x Z) {p k : Int} (hp : rg p) (hk : rg k) :
    ∃ V', F_X9_would G x p k V = some (V', aWould Z.1 Z.2.1 p k) ∧ fr (fun i => i = x + 6 ∨ (x + 27 ≤ i ∧ i ≤ x + 37) ∨ (x + 45 ≤ i ∧ i < x + 245) ∨ (gR G x 10 ≤ i ∧ i ≤ gR G x 10 + 40)) V V' ∧ vZ G V' x Z := by
  have hn := ho.1.1
  have hh0 := ho.2.1.1
  have e := c_here hG ho hv hp
  by_cases h : here Z.1 Z.2.1 p
  · rw [if_pos h] at e
    by_cases hk01 : k = 0 ∨ k = 1
    · have hv0 := hv
      obtain ⟨a, b, c, d, ⟨e0, f⟩, g, i, j⟩ := hv
      have hG5 := s9_5s hG
      obtain ⟨V1, e1, k1, w1⟩ := m_copy (V := V) (a := x + 227) (b := x + 236) (s9_8s hG) (s9_9s hG) (by omega) hn c
      obtain ⟨V2, e2, k2, w2, z2⟩ := c_forget (V := V1) (cr := x + 27) (M := calM Z.1 Z.2.1 p) (n := cn Z.1) hG5 hn.2 ⟨e0, f.fr k1 (fun j p q => by omega)⟩
      have k12 : fr (fun i => (x + 236 ≤ i ∧ i ≤ x + 244) ∨ (x + 32 ≤ i ∧ i ≤ x + 37)) V V2 := (k1.mono (fun i q => by omega)).trans (k2.mono (fun i q => by omega))
      obtain ⟨V3, v3, e3, k3, w3, l3, m3⟩ := c_away (V := V2) (cr := x + 27) (c := gR G x 10) (mo := x + 236) hG5 (s9_10s hG) (s9_9s hG) ho.1 (b.fr k12 (fun j p q _ => by omega)) (by omega) (by omega) (w1.fr k2 (fun i p q => by omega)) ho.2.1 (by rw [k12.I (by omega)]; exact g) h.1 h.2
      have k13 : fr (fun i => (x + 236 ≤ i ∧ i ≤ x + 244) ∨ (x + 32 ≤ i ∧ i ≤ x + 37) ∨ i = x + 27 ∨ i = x + 30 ∨ i = x + 31) V V3 := (k12.mono (fun i q => by omega)).trans (k3.mono (fun i q => by simp only [sA'] at q; omega))
      have hM3 : gI V3 (x + 227) 0 = mh Z.2.1 := by rw [k13.I (by omega)]; exact c.1
      have hS3 : kS0 V3 (x + 27) (s0 (calM Z.1 Z.2.1 p)) := w2.to0.fr k3 (fun i p q w => by simp only [sA'] at w; omega)
      have hal : 0 ≤ aLeft Z.2.1 ∧ aLeft Z.2.1 ≤ 23 ∧ mh Z.2.1 + aLeft Z.2.1 ≤ 9999 := by unfold aLeft; omega
      have hoc := okM_cal ho.1 ho.2.1 h.1 h.2
      obtain ⟨V4, e4, k4, a4, b4, c4, d4, f4, g4, i4⟩ := c_bring (V := V3) (x := x) (mo := x + 236) (S := s0 (calM Z.1 Z.2.1 p)) (B := 240 * mh Z.2.1) (k := (aLeft Z.2.1).toNat) hG5 (s9_10s hG) (s9_9s hG) ho.1 (b.fr k13 (fun j p q _ => by omega)) (d.fr k13 (by omega) (by omega)) (by omega) (by omega) w3 hoc hS3 (by show mh Z.2.1 + _ ≤ 9999; omega) (by omega) (by omega)
      rw [Int.toNat_of_nonneg hal.1] at e4
      have sz : gI V4 (x + 32) 1 = 2 := by
        rw [k4.I (by simp only [sH, isSk]; omega), k3.I (by simp only [sA']; omega)]
        exact z2
      have kk : fr (fun i => (x + 236 ≤ i ∧ i ≤ x + 244) ∨ (x + 32 ≤ i ∧ i ≤ x + 37) ∨ i = x + 27 ∨ i = x + 29 ∨ i = x + 30 ∨ i = x + 31 ∨ isSk (gR G x 10) i) V V4 := (k13.mono (fun i q => by simp only [isSk]; omega)).trans (k4.mono (fun i q => by simp only [sH, isSk] at q ⊢; omega))
      refine ⟨V4, ?_, kk.mono (fun i q => by simp only [isSk] at q; omega), a, a4, c.fr kk (fun i p q => by simp only [isSk]; omega), b4, ⟨_, f4⟩, ?_, i.fr kk (fun i p q => by simp only [isSk]; omega), j.fr kk (by simp only [isSk]; omega) (by simp only [isSk]; omega)⟩
      · have fin : F_X9_would_J19 G x p k V = some (V4, aWould Z.1 Z.2.1 p k) := by
          unfold F_X9_would_J19
          have ht : (mh Z.2.1).tmod 24 = mh Z.2.1 % 24 := Int.tmod_eq_emod_of_nonneg hh0.1
          refine E_bd e1 (E_bd e2 (E_bd e3 ?_))
          rw [hM3, ht]
          refine E_gd ⟨by omega, by omega⟩ (E_gd ⟨by omega, by omega⟩ (E_gd ⟨by omega, by omega⟩ (E_lt (E_bd e4 ?_))))
          refine E_bd (p7_get (s2_3s hG5) (rw_rz (V := V4) (s2_3c hG5) sz ⟨by decide, by decide⟩) hk) (E_so rfl ?_)
          have f41 : rc V4 (x + 27 + 5) 0 = (wouldS Z.1 Z.2.1 p).2.1.1 ∧ rc V4 (x + 27 + 5) 1 = (wouldS Z.1 Z.2.1 p).2.1.2 := by
            rcases f4.1 with q | q
            · exact ⟨q.2.1, q.2.2⟩
            · exact absurd (sz.symm.trans q) (by decide)
          unfold aWould
          rw [if_pos ⟨h, hk01⟩, rget_in (by omega) (by rw [sz]; omega)]
          rcases hk01 with rfl | rfl
          · rw [if_pos rfl]; exact f41.1
          · rw [if_neg (by decide)]; exact f41.2
        unfold F_X9_would
        refine E_bd e (E_gd (by decide) (E_if (fun q => absurd q (by decide)) (fun _ => E_gd hk (E_if (fun _ => fin) (fun q0 => E_if (fun _ => fin) (fun q1 => ?_))))))
        rcases hk01 with q | q
        · exact absurd q q0
        · exact absurd q q1
      · rw [k4.I (by simp only [sH, isSk]; omega), m3.1]
        have hl : (sendA Z.1 (ml Z.2.1) p).2.2.length ≤ 10 := wav_len (C := Z.1) 10 (lv := uf (ml Z.2.1) p (-1)) (left := ml Z.2.1 p) (mv := [])
        omega
    · refine ⟨V, ?_, fr_refl, hv⟩
      unfold F_X9_would aWould
      rw [if_neg (fun q => hk01 q.2)]
      exact E_bd e (E_gd (by decide) (E_if (fun q => absurd q (by decide)) (fun _ => E_gd hk (E_if (fun q => absurd (Or.inl q) hk01) (fun _ => E_if (fun q => absurd (Or.inr q) hk01) (fun _ => rfl))))))
  · rw [if_neg h] at e
    refine ⟨V, ?_, fr_refl, hv⟩
    unfold F_X9_would aWould
    rw [if_neg (fun q => h q.1)]
    exact E_bd e (E_gd (by decide) (E_if (fun _ => rfl) (fun q => absurd rfl q)))
end

/-! what a city has (class), the whole -/
section
variable {G : mG} {V : mV} {x m : Nat} {Z : mZ}
theorem c_away' (hG : is9 G x) (ho : okZ Z) (hv : vZ G V x Z) : F_X9_countAway G x V = some (V, ci (ml Z.2.1) (-1) 0 (cn Z.1).toNat) := by
  have hn := ho.1.1
  obtain ⟨d1, d2⟩ := hv.2.2.1.2.1
  have d1' : gI V (x + 228) 1 = cn Z.1 := d1
  have d2' : ∀ j : Int, 0 ≤ j → j < cn Z.1 → rc V (x + 228) j = ml Z.2.1 j := d2
  have key : F_X7_count G (x + 228) (-1) V = some (V, ci (ml Z.2.1) (-1) 0 (cn Z.1).toNat) := by
    rw [p7_count (v := -1) (s4_1s (s9_8s hG)) (rw_rz (s4_1c (s9_8s hG)) d1 ⟨by omega, by omega⟩) (fun j j0 j1 => ?_) ⟨by decide, by decide⟩]
    · have e1 := ci_cg (f := rc V (x + 228)) (g := ml Z.2.1) (v := -1) (m := (cn Z.1).toNat) (k := 0) (fun j a b => d2' j a (by omega))
      rw [d1]
      exact congrArg (fun v => some (V, v)) e1
    · have j1' : j < cn Z.1 := by rw [← d1]; exact j1
      have := ho.2.1.2.1 j j0 j1'
      have e := d2' j j0 j1'
      show rg (rc V (x + 228) j)
      rw [e]; exact ⟨by omega, by omega⟩
  unfold F_X9_countAway
  exact E_bd key rfl
theorem c_has (hG : is9 G x) (ho : okZ Z) (hv : vZ G V x Z) {k : Int} (hk : rg k) : F_X9_has G x k V = some (V, aHas Z k) := by
  have hn := ho.1.1
  have hh0 := ho.2.1.1
  unfold F_X9_has aHas
  refine E_gd hk ?_
  by_cases k0 : k = 0
  · rw [if_pos k0, if_pos k0]; exact E_bd p7_size (E_so rfl hv.2.1.2.1.1.1)
  rw [if_neg k0, if_neg k0]
  by_cases k1 : k = 1
  · rw [if_pos k1, if_pos k1]; exact E_bd p7_size (E_so rfl hv.2.1.2.2.1.1.1)
  rw [if_neg k1, if_neg k1]
  by_cases k2 : k = 2
  · rw [if_pos k2, if_pos k2, ← srt_full ho.1]; exact E_bd p7_size (E_so rfl hv.2.1.2.2.2.1.1.1)
  rw [if_neg k2, if_neg k2]
  by_cases k3 : k = 3
  · rw [if_pos k3, if_pos k3]; exact E_so rfl hv.2.2.1.1
  rw [if_neg k3, if_neg k3]
  by_cases k4 : k = 4
  · rw [if_pos k4, if_pos (Or.inl k4)]; exact E_bd (c_away' hG ho hv) rfl
  rw [if_neg k4]
  by_cases k5 : k = 5
  · rw [if_pos k5, if_pos (Or.inr k5)]; exact E_bd (c_away' hG ho hv) rfl
  rw [if_neg k5, if_neg (show ¬ (k = 4 ∨ k = 5) from fun q => q.elim k4 k5)]
  by_cases k6 : k = 6
  · rw [if_pos k6, if_pos k6]; exact E_bd (c_els hG ho hv) rfl
  rw [if_neg k6, if_neg k6]
  by_cases k7 : k = 7
  · rw [if_pos k7, if_pos k7]
    obtain ⟨b1, b2⟩ := hv.2.2.1.2.2.2.2.1
    have b3 := hv.2.2.1.2.2.2.2.2.2.1
    unfold F_X4_keptCount
    exact E_bd (V1 := V) (v1 := min (gI V (x + 227) 5) 40) (E_gd ⟨by omega, by omega⟩ rfl) (E_so rfl b3.symm)
  rw [if_neg k7, if_neg k7]
  by_cases k8 : k = 8
  · rw [if_pos k8, if_pos k8]
    exact E_bd (V1 := V) (v1 := gI V (x + 45) 1) rfl (E_so rfl hv.2.2.2.2.2.2.1.1)
  rw [if_neg k8, if_neg k8]
end

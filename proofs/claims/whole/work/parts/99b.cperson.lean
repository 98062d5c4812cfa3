/-! a person's numbers (class) -/
section
variable {G : mG} {V : mV} {x m : Nat} {Z : mZ}
theorem c_count {c : Nat} {C : mCy} (hc : is1 G c) (ho : okC C) (hv : vC V c C) {p : Int} (hp : 0 ≤ p ∧ p < cn C) : F_X7_count G (c + 15) p V = some (V, dcnt p (cd C)) := by
  have hn := ho.1
  have hl := srt_len (cn C).toNat (cd C)
  have hD := ho.2.2.1
  obtain ⟨d1, d2⟩ := hv.2.2.2.1.1
  have hrow : ∀ j : Int, 0 ≤ j → j < ((srt (cn C).toNat (cd C)).length : Int) → rc V (c + 15) j = ((srt (cn C).toNat (cd C)).getD j.toNat d0).1 := d2
  rw [p7_count (s1_7s hc) (rw_rz (s1_7c hc) d1 ⟨by omega, by omega⟩) (fun j j0 j1 => ?_) ⟨by omega, by omega⟩, d1, Int.toNat_natCast]
  · have e1 := ci_cg (f := rc V (c + 15)) (g := fun k => (([] ++ srt (cn C).toNat (cd C)).getD k.toNat d0).1) (v := p) (m := (srt (cn C).toNat (cd C)).length) (k := 0) (fun j a b => hrow j a (by omega))
    have e2 := ci_dcnt p (srt (cn C).toNat (cd C)) []
    have e3 := dcnt_srt p (cd C) (cn C).toNat
    rw [if_pos (by omega)] at e3
    exact congrArg (fun v => some (V, v)) (e1.trans (e2.trans e3))
  · rw [d1] at j1
    rw [hrow j j0 j1]
    have hjl : j.toNat < (srt (cn C).toNat (cd C)).length := by omega
    rw [List.getD_eq_getElem?_getD, List.getElem?_eq_getElem hjl]
    have := (hD.2 _ (srt_mem (List.getElem_mem hjl))).1
    show rg (srt (cn C).toNat (cd C))[j.toNat].1
    exact ⟨by omega, by omega⟩
theorem c_find (hG : is9 G x) (ho : okZ Z) (hv : vZ G V x Z) {p : Int} (hp : rg p) : F_X7_find G (x + 228) p V = some (V, fi (ml Z.2.1) p 0 (cn Z.1).toNat) := by
  have hn := ho.1.1
  obtain ⟨d1, d2⟩ := hv.2.2.1.2.1
  have d1' : gI V (x + 228) 1 = cn Z.1 := d1
  have d2' : ∀ j : Int, 0 ≤ j → j < cn Z.1 → rc V (x + 228) j = ml Z.2.1 j := d2
  rw [p7_find (s4_1s (s9_8s hG)) (rw_rz (s4_1c (s9_8s hG)) d1 ⟨by omega, by omega⟩) (fun j j0 j1 => ?_) hp]
  · have e1 := fi_cg (f := rc V (x + 228)) (g := ml Z.2.1) (v := p) (m := (cn Z.1).toNat) (k := 0) (fun j a b => d2' j a (by omega))
    rw [d1]
    exact congrArg (fun v => some (V, v)) e1
  · have j1' : j < cn Z.1 := by rw [← d1]; exact j1
    have := ho.2.1.2.1 j j0 j1'
    have e := d2' j j0 j1'
    show rg (rc V (x + 228) j)
    rw [e]; exact ⟨by omega, by omega⟩
theorem c_person (hG : is9 G x) (ho : okZ Z) (hv : vZ G V x Z) {p k : Int} (hp : rg p) (hk : rg k) : F_X9_person G x p k V = some (V, aPerson Z p k) := by
  have hn := ho.1.1
  have e := c_isP ho hv hp
  have hc := s9_10s hG
  unfold F_X9_person aPerson
  by_cases h : 0 ≤ p ∧ p < cn Z.1
  · rw [if_pos h] at e ⊢
    refine E_bd e (E_gd (by decide) (E_if (fun q => absurd q (by decide)) (fun _ => E_gd hk ?_)))
    by_cases k0 : k = 0
    · rw [if_pos k0, if_pos k0]; exact E_bd (rw_get (s1_1s hc) (s1_1c hc) hv.2.1.2.1.2.1 hn.2 h) rfl
    rw [if_neg k0, if_neg k0]
    by_cases k1 : k = 1
    · rw [if_pos k1, if_pos k1]; exact E_bd (rw_get (s4_1s (s9_8s hG)) (s4_1c (s9_8s hG)) hv.2.2.1.2.1 hn.2 h) rfl
    rw [if_neg k1, if_neg k1]
    by_cases k2 : k = 2
    · rw [if_pos k2, if_pos k2]; exact E_bd (rw_get (s4_2s (s9_8s hG)) (s4_2c (s9_8s hG)) hv.2.2.1.2.2.1 hn.2 h) rfl
    rw [if_neg k2, if_neg k2]
    by_cases k3 : k = 3
    · rw [if_pos k3, if_pos k3]; exact E_bd (rw_get (s1_2s hc) (s1_2c hc) hv.2.1.2.1.2.2.1 hn.2 h) rfl
    rw [if_neg k3, if_neg k3]
    by_cases k4 : k = 4
    · rw [if_pos k4, if_pos k4]; exact E_bd (rw_get (s1_3s hc) (s1_3c hc) hv.2.1.2.1.2.2.2.1 hn.2 h) rfl
    rw [if_neg k4, if_neg k4]
    by_cases k5 : k = 5
    · rw [if_pos k5, if_pos k5]; exact E_bd (c_count hc ho.1 hv.2.1 h) rfl
    rw [if_neg k5, if_neg k5]
    by_cases k6 : k = 6
    · rw [if_pos k6, if_pos k6]; exact E_bd (c_find hG ho hv hp) rfl
    rw [if_neg k6, if_neg k6]
  · rw [if_neg h] at e ⊢
    exact E_bd e (E_gd (by decide) (E_if (fun _ => rfl) (fun q => absurd rfl q)))
end

/-! points, and who lives a life: both -/
def aPoints (Z : mZ) (p l : Int) : Int := if (0 ≤ p ∧ p < cn Z.1) ∧ (0 ≤ l ∧ l < cn Z.1) then mp Z.2.1 p l else -1
section
variable {G : mG} {V : mV} {x m : Nat} {Z : mZ}
theorem c_points (hG : is9 G x) (ho : okZ Z) (hv : vZ G V x Z) {p l : Int} (hp : rg p) (hl : rg l) : F_X9_points G x p l V = some (V, aPoints Z p l) := by
  have hn := ho.1.1
  have e := c_isP ho hv hp
  have e2 := c_isP ho hv hl
  unfold F_X9_points aPoints
  by_cases h : 0 ≤ p ∧ p < cn Z.1
  · rw [if_pos h] at e
    by_cases h2 : 0 ≤ l ∧ l < cn Z.1
    · rw [if_pos h2] at e2
      rw [if_pos ⟨h, h2⟩]
      exact E_bd e (E_gd (by decide) (E_if (fun q => absurd q (by decide)) (fun _ => E_bd e2 (E_gd (by decide) (E_if (fun q => absurd q (by decide)) (fun _ => E_bd (m_points (s9_8s hG) hn.2 hv.2.2.1 h h2) rfl))))))
    · rw [if_neg h2] at e2
      rw [if_neg (fun q => h2 q.2)]
      exact E_bd e (E_gd (by decide) (E_if (fun q => absurd q (by decide)) (fun _ => E_bd e2 (E_gd (by decide) (E_if (fun _ => rfl) (fun q => absurd rfl q))))))
  · rw [if_neg h] at e
    rw [if_neg (fun q => h q.1)]
    exact E_bd e (E_gd (by decide) (E_if (fun _ => rfl) (fun q => absurd rfl q)))
theorem r_points (ho : okZ Z) (hv : rZ V m Z) {p l : Int} (hp : rg p) (hl : rg l) : F_X10_points G m p l V = some (V, aPoints Z p l) := by
  have hn := ho.1.1
  have e := r_isP (G := G) ho.1 hv.1 hp
  have e2 := r_isP (G := G) ho.1 hv.1 hl
  unfold F_X10_points aPoints
  by_cases h : 0 ≤ p ∧ p < cn Z.1
  · rw [if_pos h] at e
    by_cases h2 : 0 ≤ l ∧ l < cn Z.1
    · rw [if_pos h2] at e2
      rw [if_pos ⟨h, h2⟩]
      exact E_bd e (E_gd (by decide) (E_if (fun q => absurd q (by decide)) (fun _ => E_bd e2 (E_gd (by decide) (E_if (fun q => absurd q (by decide)) (fun _ => E_bd (r_pts hv.2.1 hn.2 h h2) rfl))))))
    · rw [if_neg h2] at e2
      rw [if_neg (fun q => h2 q.2)]
      exact E_bd e (E_gd (by decide) (E_if (fun q => absurd q (by decide)) (fun _ => E_bd e2 (E_gd (by decide) (E_if (fun _ => rfl) (fun q => absurd rfl q))))))
  · rw [if_neg h] at e
    rw [if_neg (fun q => h q.1)]
    exact E_bd e (E_gd (by decide) (E_if (fun _ => rfl) (fun q => absurd rfl q)))
/-- how many duties a life has, as told -/
def dcnt (l : Int) (D : List (Int × Int × Int)) : Int := (D.countP (fun d => decide (d.1 = l)) : Nat)
theorem r_dutiesOf (ho : okC Z.1) (hv : rC V m Z.1) {l : Int} (hl : rg l) : F_X10_dutiesOf G m l V = some (V, dcnt l (cd Z.1)) := by
  have hD := ho.2.2.1
  have hn := ho.1
  have main : Wp (lp (fun (s : Int × Int) V => B_X10_dutiesOf_4 G m l s.1 s.2 V) FU (0, 0) V) (fun V' q => V' = V ∧ q.2.1 = dcnt l (cd Z.1)) := by
    refine W_lp (fun w (y : Int × Int) U => U = V ∧ ∃ k : Nat, y = (dcnt l ((cd Z.1).take k), (k : Int)) ∧ k + w = (cd Z.1).length) ?_ FU (cd Z.1).length _ V ⟨rfl, 0, rfl, by omega⟩ (by unfold FU; omega)
    rintro w y U ⟨rfl, k, rfl, hw⟩
    show Wp (B_X10_dutiesOf_4 G m l (dcnt l ((cd Z.1).take k)) (k : Int) U) _
    unfold B_X10_dutiesOf_4
    refine W_be (r_dmany hv) (W_gd ⟨by omega, by omega⟩ (W_gd ⟨by omega, by omega⟩ (W_if (fun q => W_so (Or.inr ⟨Nat.one_ne_zero, rfl, ?_⟩)) (fun q => ?_))))
    · have e : k = (cd Z.1).length := by omega
      show dcnt l ((cd Z.1).take k) = _
      rw [e, List.take_length]
    · have hkl : k < (cd Z.1).length := by omega
      obtain ⟨r0, -, -⟩ := r_duty (G := G) ho hv hkl
      have hdk : (cd Z.1).getD k d0 = (cd Z.1)[k] := by rw [List.getD_eq_getElem?_getD, List.getElem?_eq_getElem hkl]; rfl
      obtain ⟨o1, -, -⟩ := hD.2 _ (List.getElem_mem hkl)
      rw [hdk] at r0
      have st : dcnt l ((cd Z.1).take (k + 1)) = dcnt l ((cd Z.1).take k) + if (cd Z.1)[k].1 = l then 1 else 0 := by
        unfold dcnt
        rw [List.take_succ, List.getElem?_eq_getElem hkl, Option.toList_some, List.countP_append, List.countP_singleton]
        by_cases e : (cd Z.1)[k].1 = l
        · rw [if_pos (by simpa using e), if_pos e]; rfl
        · rw [if_neg (by simpa using e), if_neg e]; rfl
      refine W_be r0 (W_gd ⟨by omega, by omega⟩ (W_gd hl (W_if (fun e => ?_) (fun e => ?_))))
      · exact W_lt (W_lt (W_so (Or.inl ⟨rfl, w - 1, by omega, rfl, k + 1, by rw [st, if_pos e]; rfl, by omega⟩)))
      · exact W_lt (W_so (Or.inl ⟨rfl, w - 1, by omega, rfl, k + 1, by rw [st, if_neg e, Int.add_zero]; rfl, by omega⟩))
  obtain ⟨V', q, e1, rfl, e2⟩ := main
  unfold F_X10_dutiesOf
  exact E_bd e1 (E_so rfl e2)
end

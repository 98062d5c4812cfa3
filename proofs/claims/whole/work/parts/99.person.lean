/-! a person's numbers: both -/
theorem dcnt_app (l : Int) (A D : List (Int × Int × Int)) : dcnt l (A ++ D) = dcnt l A + dcnt l D := by
  unfold dcnt; rw [List.countP_append]; omega
theorem dcnt_flt (l n : Int) : ∀ D : List (Int × Int × Int), dcnt l (D.filter (fun d => decide (d.1 = n))) = if l = n then dcnt l D else 0
  | [] => by split <;> rfl
  | d :: D => by
    have ih := dcnt_flt l n D
    unfold dcnt at ih ⊢
    rw [List.filter_cons, List.countP_cons]
    by_cases h : d.1 = n
    · rw [if_pos (by simpa using h), List.countP_cons]
      by_cases e : l = n
      · rw [if_pos e] at ih ⊢; omega
      · rw [if_neg e] at ih ⊢
        have : ¬ d.1 = l := by omega
        rw [if_neg (by simpa using this)]; omega
    · rw [if_neg (by simpa using h)]
      by_cases e : l = n
      · rw [if_pos e] at ih ⊢
        have : ¬ d.1 = l := by omega
        rw [if_neg (by simpa using this)]; omega
      · rw [if_neg e] at ih ⊢; exact ih
theorem dcnt_srt (l : Int) (D : List (Int × Int × Int)) : ∀ n : Nat, dcnt l (srt n D) = if 0 ≤ l ∧ l < (n : Int) then dcnt l D else 0
  | 0 => by rw [if_neg (by omega)]; rfl
  | n + 1 => by
    rw [srt_succ, dcnt_app, dcnt_srt l D n, dcnt_flt]
    by_cases e : l = (n : Int)
    · rw [if_neg (by omega), if_pos e, if_pos (by omega), Int.zero_add]
    · rw [if_neg e]
      by_cases h : 0 ≤ l ∧ l < (n : Int)
      · rw [if_pos h, if_pos (by omega), Int.add_zero]
      · rw [if_neg h, if_neg (by omega)]; rfl
theorem ci_dcnt (l : Int) : ∀ (D A : List (Int × Int × Int)), ci (fun k => ((A ++ D).getD k.toNat d0).1) l (A.length : Int) D.length = dcnt l D
  | [], _ => rfl
  | d :: D, A => by
    have ih := ci_dcnt l D (A ++ [d])
    rw [List.append_assoc, List.length_append] at ih
    show ci _ l (A.length : Int) (D.length + 1) = _
    unfold ci
    have e1 : ((A.length : Int) + 1) = ((A.length + [d].length : Nat) : Int) := rfl
    have e2 : (A ++ d :: D).getD ((A.length : Int)).toNat d0 = d := by
      rw [Int.toNat_natCast, gD_r _ _ _ _ (Nat.le_refl _), Nat.sub_self]; rfl
    rw [e1]
    have ih' : ci (fun k => ((A ++ d :: D).getD k.toNat d0).1) l ((A.length + [d].length : Nat) : Int) D.length = dcnt l D := ih
    rw [ih', e2]
    show (if d.1 = l then (1 : Int) else 0) + dcnt l D = dcnt l (d :: D)
    unfold dcnt
    rw [List.countP_cons]
    by_cases e : d.1 = l
    · rw [if_pos e, if_pos (by simpa using e)]; omega
    · rw [if_neg e, if_neg (by simpa using e)]; omega
noncomputable def aPerson (Z : mZ) (p k : Int) : Int := if 0 ≤ p ∧ p < cn Z.1 then (if k = 0 then cw Z.1 p else if k = 1 then ml Z.2.1 p else if k = 2 then mw Z.2.1 p else if k = 3 then cc Z.1 p else if k = 4 then cb Z.1 p else if k = 5 then dcnt p (cd Z.1) else if k = 6 then fi (ml Z.2.1) p 0 (cn Z.1).toNat else -1) else -1
section
variable {G : mG} {V : mV} {x m : Nat} {Z : mZ}
theorem r_person (ho : okZ Z) (hv : rZ V m Z) {p k : Int} (hp : rg p) (hk : rg k) : F_X10_person G m p k V = some (V, aPerson Z p k) := by
  have hn := ho.1.1
  have e := r_isP (G := G) ho.1 hv.1 hp
  unfold F_X10_person aPerson
  by_cases h : 0 ≤ p ∧ p < cn Z.1
  · rw [if_pos h] at e ⊢
    refine E_bd e (E_gd (by decide) (E_if (fun q => absurd q (by decide)) (fun _ => E_gd hk ?_)))
    by_cases k0 : k = 0
    · rw [if_pos k0, if_pos k0]
      refine E_bd (V1 := V) (v1 := cw Z.1 p) ?_ rfl
      unfold F_X10_wardOf
      exact E_gd ⟨by omega, by omega, by omega⟩ (E_so rfl (hv.1.2.1 p h.1 h.2))
    rw [if_neg k0, if_neg k0]
    by_cases k1 : k = 1
    · rw [if_pos k1, if_pos k1]; exact E_bd (r_lives hv.2.1 hn.2 h) rfl
    rw [if_neg k1, if_neg k1]
    by_cases k2 : k = 2
    · rw [if_pos k2, if_pos k2]; exact E_bd (r_wat hv.2.1 hn.2 h) rfl
    rw [if_neg k2, if_neg k2]
    by_cases k3 : k = 3
    · rw [if_pos k3, if_pos k3]; exact E_gd ⟨by omega, by omega, by omega⟩ (E_so rfl (hv.1.2.2.2.2.1 p h.1 h.2).1)
    rw [if_neg k3, if_neg k3]
    by_cases k4 : k = 4
    · rw [if_pos k4, if_pos k4]; exact E_gd ⟨by omega, by omega, by omega⟩ (E_so rfl (hv.1.2.2.2.2.1 p h.1 h.2).2)
    rw [if_neg k4, if_neg k4]
    by_cases k5 : k = 5
    · rw [if_pos k5, if_pos k5]; exact E_bd (r_dutiesOf ho.1 hv.1 hp) rfl
    rw [if_neg k5, if_neg k5]
    by_cases k6 : k = 6
    · rw [if_pos k6, if_pos k6]; exact E_bd (r_who hv.1 ho.1 hv.2.1 ho.2.1 hp) rfl
    rw [if_neg k6, if_neg k6]
  · rw [if_neg h] at e ⊢
    exact E_bd e (E_gd (by decide) (E_if (fun _ => rfl) (fun q => absurd rfl q)))
end

/-! what a city has (class) -/
def els (lv : Int → Int) : Int → Int := fun p => if lv p = -1 then 0 else if lv p = p then 0 else 1
noncomputable def aHas (Z : mZ) (k : Int) : Int := if k = 0 then cn Z.1 else if k = 1 then ct Z.1 else if k = 2 then ((cd Z.1).length : Int) else if k = 3 then mh Z.2.1 else if k = 4 ∨ k = 5 then ci (ml Z.2.1) (-1) 0 (cn Z.1).toNat else if k = 6 then ci (els (ml Z.2.1)) 1 0 (cn Z.1).toNat else if k = 7 then ((me Z.2.1).length : Int) else if k = 8 then (Z.2.2.1.length : Int) else -1
theorem srt_full {C : mCy} (ho : okC C) : (srt (cn C).toNat (cd C)).length = (cd C).length := by
  have hn := ho.1
  have key : ∀ (n : Nat), (srt n (cd C)).length = ((cd C).filter (fun d => decide (d.1 < (n : Int)))).length := by
    intro n
    have base : ∀ D : List (Int × Int × Int), (∀ d ∈ D, 0 ≤ d.1) → ∀ n : Nat, (srt n D).length = (D.filter (fun d => decide (d.1 < (n : Int)))).length := by
      intro D hD n
      induction n with
      | zero =>
        have : D.filter (fun d => decide (d.1 < ((0 : Nat) : Int))) = [] := by
          rw [List.filter_eq_nil_iff]; intro d hd; have := hD d hd; simp; omega
        rw [this]; rfl
      | succ n ih =>
        rw [srt_succ, List.length_append, ih]
        clear ih
        induction D with
        | nil => rfl
        | cons d D ih2 =>
          have ih3 := ih2 (fun d' h' => hD d' (List.mem_cons_of_mem _ h'))
          rw [List.filter_cons, List.filter_cons, List.filter_cons]
          by_cases h1 : d.1 < (n : Int)
          · rw [if_pos (by simpa using h1), if_neg (by simp; omega), if_pos (by simp; omega), List.length_cons, List.length_cons]; omega
          · by_cases h2 : d.1 = (n : Int)
            · rw [if_neg (by simpa using h1), if_pos (by simpa using h2), if_pos (by simp; omega), List.length_cons, List.length_cons]; omega
            · rw [if_neg (by simpa using h1), if_neg (by simpa using h2), if_neg (by simp; omega)]; omega
    exact base _ (fun d hd => (ho.2.2.1.2 d hd).1.1) n
  rw [key, List.filter_eq_self.mpr]
  intro d hd
  have := (ho.2.2.1.2 d hd).1
  simp; omega
section
variable {G : mG} {V : mV} {x m : Nat} {Z : mZ}
theorem c_els (hG : is9 G x) (ho : okZ Z) (hv : vZ G V x Z) : F_X9_countElsewhere G x V = some (V, ci (els (ml Z.2.1)) 1 0 (cn Z.1).toNat) := by
  have hn := ho.1.1
  have hsz : gI V (gR G x 10 + 1) 1 = cn Z.1 := hv.2.1.2.1.1.1
  have main : Wp (lp (fun (s : Int × Int) V => B_X9_countElsewhere_4 G x s.1 s.2 V) FU (0, 0) V) (fun V' q => V' = V ∧ q.2.1 = ci (els (ml Z.2.1)) 1 0 (cn Z.1).toNat) := by
    refine W_lp (fun w (y : Int × Int) U => U = V ∧ ∃ k : Nat, y = (ci (els (ml Z.2.1)) 1 0 k, (k : Int)) ∧ k + w = (cn Z.1).toNat) ?_ FU (cn Z.1).toNat _ V ⟨rfl, 0, rfl, by omega⟩ (by unfold FU; omega)
    rintro w y U ⟨rfl, k, rfl, hw⟩
    show Wp (B_X9_countElsewhere_4 G x (ci (els (ml Z.2.1)) 1 0 k) (k : Int) U) _
    unfold B_X9_countElsewhere_4
    refine W_be p7_size ?_
    rw [hsz]
    refine W_gd ⟨by omega, by omega⟩ (W_gd ⟨by omega, by omega⟩ (W_if (fun q => W_so (Or.inr ⟨Nat.one_ne_zero, rfl, ?_⟩)) (fun q => ?_)))
    · have e : k = (cn Z.1).toNat := by omega
      show ci (els (ml Z.2.1)) 1 0 k = _
      rw [e]
    · have hl := ho.2.1.2.1 (k : Int) (by omega) (by omega)
      have c := ci_snoc (els (ml Z.2.1)) 1 k 0
      rw [show (0 : Int) + (k : Int) = (k : Int) by omega] at c
      refine W_be (rw_get (s4_1s (s9_8s hG)) (s4_1c (s9_8s hG)) hv.2.2.1.2.1 hn.2 ⟨by omega, by omega⟩) (W_gd ⟨by omega, by omega⟩ (W_if (fun e => ?_) (fun e => W_if (fun e2 => ?_) (fun e2 => ?_))))
      · have z : els (ml Z.2.1) (k : Int) = 0 := by unfold els; rw [if_pos e]
        exact W_lt (W_so (Or.inl ⟨rfl, w - 1, by omega, rfl, k + 1, by rw [c, z, if_neg (by decide), Int.add_zero]; rfl, by omega⟩))
      · have z : els (ml Z.2.1) (k : Int) = 0 := by unfold els; rw [if_neg e, if_pos e2]
        exact W_lt (W_so (Or.inl ⟨rfl, w - 1, by omega, rfl, k + 1, by rw [c, z, if_neg (by decide), Int.add_zero]; rfl, by omega⟩))
      · have z : els (ml Z.2.1) (k : Int) = 1 := by unfold els; rw [if_neg e, if_neg e2]
        exact W_lt (W_lt (W_so (Or.inl ⟨rfl, w - 1, by omega, rfl, k + 1, by rw [c, z, if_pos rfl]; rfl, by omega⟩)))
  obtain ⟨V', q, e1, rfl, e2⟩ := main
  unfold F_X9_countElsewhere
  exact E_bd e1 (E_so rfl e2)
end

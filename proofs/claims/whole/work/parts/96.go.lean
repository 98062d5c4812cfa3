/-! hours go by, a step is taken back (class) -/
noncomputable def goZ (Z : mZ) (k : Int) : mZ := if (1 ≤ k ∧ k ≤ 500) ∧ mh Z.2.1 + k ≤ 9999 then (Z.1, (hoursS Z.1 k.toNat (s0 Z.2.1)).1, (Z.2.1 :: Z.2.2.1).take 20, Z.2.2.2) else refZ Z 2
def aGo (Z : mZ) (k : Int) : Int := if (1 ≤ k ∧ k ≤ 500) ∧ mh Z.2.1 + k ≤ 9999 then mh Z.2.1 + k else -1
def undoZ (Z : mZ) : mZ := match Z.2.2.1 with
  | [] => refZ Z 4
  | M :: P => (Z.1, M, P, Z.2.2.2)
def aUndo (Z : mZ) : Int := match Z.2.2.1 with
  | [] => 0
  | _ :: _ => 1
theorem okZ_undo {Z : mZ} (h : okZ Z) : okZ (undoZ Z) := by
  obtain ⟨C, M, P, R⟩ := Z
  obtain ⟨a, b, c⟩ := h
  cases P with
  | nil => exact ⟨a, b, c⟩
  | cons Q P => exact ⟨a, c Q List.mem_cons_self, fun Q' h' => c Q' (List.mem_cons_of_mem _ h')⟩
section
variable {G : mG} {V : mV} {x m : Nat} {Z : mZ}
theorem c_go (hG : is9 G x) (ho : okZ Z) (hv : vZ G V x Z) {k : Int} (hk : rg k) :
    ∃ V', F_X9_go G x k V = some (V', aGo Z k) ∧ fr (fun i => i = x + 6 ∨ (x + 27 ≤ i ∧ i ≤ x + 37) ∨ (x + 45 ≤ i ∧ i < x + 245) ∨ (gR G x 10 ≤ i ∧ i ≤ gR G x 10 + 40)) V V' ∧ vZ G V' x (goZ Z k) ∧ okZ (goZ Z k) := by
  have hn := ho.1.1
  have hh0 := ho.2.1.1
  have no : ¬ ((1 ≤ k ∧ k ≤ 500) ∧ mh Z.2.1 + k ≤ 9999) → ∃ V', F_X9_go_J27 G x k V = some (V', aGo Z k) ∧ fr (fun i => i = x + 6 ∨ (x + 27 ≤ i ∧ i ≤ x + 37) ∨ (x + 45 ≤ i ∧ i < x + 245) ∨ (gR G x 10 ≤ i ∧ i ≤ gR G x 10 + 40)) V V' ∧ vZ G V' x (goZ Z k) ∧ okZ (goZ Z k) := by
    intro q
    obtain ⟨V1, e1, k1, w1⟩ := c_refuse hG hv (k := 2) (by decide)
    unfold goZ aGo
    rw [if_neg q, if_neg q]
    exact ⟨V1, by unfold F_X9_go_J27; exact E_bd e1 rfl, k1, w1, okZ_ref ho⟩
  have hM0 : gI V (x + 227) 0 = mh Z.2.1 := hv.2.2.1.1
  by_cases h : (1 ≤ k ∧ k ≤ 500) ∧ mh Z.2.1 + k ≤ 9999
  · obtain ⟨a, b, c, d, ⟨e0, f⟩, g, i, j⟩ := hv
    have hG5 := s9_5s hG
    obtain ⟨V1, e1, k1, w1⟩ := c_remember (V := V) (y := x + 45) (mo := x + 227) (s9_7s hG) (s9_8s hG) (by omega) hn c i
    have hS : kS0 V1 (x + 27) (Z.2.1, e0.2) := kS0.fr (S := (Z.2.1, e0.2)) f k1 (fun j p q => by omega)
    obtain ⟨V2, e2, k2, a2, b2, c2, d2, f2, g2, -⟩ := c_bring (V := V1) (x := x) (mo := x + 227) (S := (Z.2.1, e0.2)) (B := 240 * mh Z.2.1) (k := k.toNat) hG5 (s9_10s hG) (s9_8s hG) ho.1 (b.fr k1 (fun j p q _ => by omega)) (d.fr k1 (by omega) (by omega)) (by omega) (by omega) (c.fr k1 (fun i p q => by omega)) ho.2.1 hS (by show mh Z.2.1 + _ ≤ 9999; omega) (by omega) (by omega)
    rw [Int.toNat_of_nonneg (by omega)] at e2
    have ind := hours_ind (C := Z.1) k.toNat (S := (Z.2.1, e0.2)) (S' := s0 Z.2.1) rfl
    rw [ind] at c2 d2 g2
    have g2' : mh (hoursS Z.1 k.toNat (s0 Z.2.1)).1 = mh Z.2.1 + k := by rw [g2]; show mh Z.2.1 + _ = _; omega
    have k12 : fr (fun i => (x + 45 ≤ i ∧ i ≤ x + 226) ∨ sH (x + 27) (gR G x 10) (x + 227) i) V V2 := (k1.mono (fun i q => Or.inl (by omega))).trans (k2.mono (fun i q => Or.inr q))
    refine ⟨V2, ?_, k12.mono (fun i q => by simp only [sH, isSk] at q; omega), ?_, ?_⟩
    · unfold F_X9_go aGo
      rw [if_pos h, hM0]
      refine E_gd hk (E_if (fun q => by omega) (fun _ => E_if (fun q => by omega) (fun _ => E_gd ⟨by omega, by omega⟩ (E_if (fun _ => E_bd e1 (E_bd e2 (E_so rfl ?_))) (fun q => by omega)))))
      rw [c2.1, g2']
    · unfold goZ
      rw [if_pos h]
      refine ⟨a, a2, ?_, b2, ⟨_, f2⟩, ?_, w1.fr k2 (fun j p q w => by simp only [sH, isSk] at w; omega), j.fr k12 (by simp only [sH, isSk]; omega) (by simp only [sH, isSk]; omega)⟩
      · exact c2.more (by rw [g2']; omega)
      · rw [k12.I (by simp only [sH, isSk]; omega)]; exact g
    · unfold goZ
      rw [if_pos h]
      refine ⟨ho.1, d2, fun Q hQ => ?_⟩
      rcases List.mem_cons.mp (List.mem_of_mem_take hQ) with q | q
      · rw [q]; exact ho.2.1
      · exact ho.2.2 Q q
  · obtain ⟨V1, e1, r1⟩ := no h
    refine ⟨V1, ?_, r1⟩
    unfold F_X9_go
    refine E_gd hk (E_if (fun _ => e1) (fun q1 => E_if (fun _ => e1) (fun q2 => ?_)))
    rw [hM0]
    exact E_gd ⟨by omega, by omega⟩ (E_if (fun q3 => by omega) (fun _ => e1))
theorem c_undo (hG : is9 G x) (ho : okZ Z) (hv : vZ G V x Z) :
    ∃ V', F_X9_undo G x V = some (V', aUndo Z) ∧ fr (fun i => i = x + 6 ∨ (x + 27 ≤ i ∧ i ≤ x + 37) ∨ (x + 45 ≤ i ∧ i < x + 245) ∨ (gR G x 10 ≤ i ∧ i ≤ gR G x 10 + 40)) V V' ∧ vZ G V' x (undoZ Z) := by
  obtain ⟨C, M, P, R⟩ := Z
  have hn := ho.1.1
  cases P with
  | nil =>
    obtain ⟨V1, e1, k1, w1⟩ := c_refuse hG hv (k := 4) (by decide)
    refine ⟨V1, ?_, k1, w1⟩
    unfold F_X9_undo
    exact E_bd (c_recall0 hv.2.2.2.2.2.2.1) (E_gd (by decide) (E_if (fun _ => E_bd e1 rfl) (fun q => absurd rfl q)))
  | cons Q P =>
    obtain ⟨a, b, c, d, ⟨e0, f⟩, g, i, j⟩ := hv
    obtain ⟨V1, e1, k1, w1, p1⟩ := c_recall (V := V) (y := x + 45) (mo := x + 227) (s9_7s hG) (s9_8s hG) (by omega) hn i
    refine ⟨V1, ?_, k1.mono (fun i q => by omega), a, b.fr k1 (fun j p q _ => by omega), w1, d.fr k1 (by omega) (by omega), ⟨e0, f.fr k1 (fun j p q => by omega)⟩, ?_, p1, j.fr k1 (by omega) (by omega)⟩
    · unfold F_X9_undo
      exact E_bd e1 (E_gd (by decide) (E_if (fun q => absurd q (by decide)) (fun _ => rfl)))
    · rw [k1.I (by omega)]; exact g
end

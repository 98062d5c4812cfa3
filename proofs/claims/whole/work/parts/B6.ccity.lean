/-! a whole city read (class) -/
def aCi (T : mT2) : Nat → mCy → Nat → tC
  | 0, C, p => .inr (C, p)
  | f + 1, C, p => if kdT T p = 3 then .inr (C, p) else match aSt C T p with
    | .inl e => .inl e
    | .inr y => aCi T f y.1 y.2
def aCity (T : mT2) : tC := aCi T 71 C00 (bsk T 0)
theorem toC_i {x : (Int × Int) ⊕ Nat} {C C' : mCy} {q : Nat} (h : toC x C = .inr (C', q)) : C' = C ∧ x = .inr q := by
  cases x with
  | inl e => cases h
  | inr q' => cases h; exact ⟨rfl, rfl⟩
theorem aSt1_cu {C C' : mCy} {T : mT2} {p q : Nat} (h : aSt1 C T p = .inr (C', q)) : cu C' = cu C := by
  unfold aSt1 at h
  by_cases u70 : cu C = 70
  · rw [if_pos u70] at h; cases h
  rw [if_neg u70] at h
  by_cases w0 : nmT T p = 0
  · rw [if_pos w0] at h
    by_cases z : cn C = 10
    · rw [if_pos z] at h; cases h
    · rw [if_neg z] at h; rw [(toC_i h).1]; rfl
  rw [if_neg w0] at h
  by_cases w2 : nmT T p = 2
  · rw [if_pos w2] at h
    by_cases z : ct C = 8
    · rw [if_pos z] at h; cases h
    · rw [if_neg z] at h; rw [(toC_i h).1]; rfl
  rw [if_neg w2] at h
  by_cases w4 : nmT T p = 4
  · rw [if_pos w4] at h
    by_cases z : (cd C).length = 24
    · rw [if_pos z] at h; cases h
    · rw [if_neg z] at h; rw [(toC_i h).1]; rfl
  rw [if_neg w4] at h
  by_cases w6 : nmT T p = 6
  · rw [if_pos w6] at h; rw [(toC_i h).1]; rfl
  rw [if_neg w6] at h
  by_cases w7 : nmT T p = 7
  · rw [if_pos w7] at h; rw [(toC_i h).1]; rfl
  rw [if_neg w7] at h
  by_cases w8 : 8 ≤ nmT T p ∧ nmT T p ≤ 11
  · rw [if_pos w8] at h
    by_cases z : co C (nmT T p - 8).toNat ≠ []
    · rw [if_pos z] at h; cases h
    · rw [if_neg z] at h
      unfold aRu at h
      cases hR : rd (kT ((nmT T p - 8).toNat - 1) T) 64 (if (nmT T p - 8).toNat ≤ 1 then 3 else 0) 0 (nxT T p) with
      | inl e => rw [hR] at h; cases h
      | inr y => rw [hR] at h; cases h; rfl
  · rw [if_neg w8] at h; cases h
theorem aSt_cu {C C' : mCy} {T : mT2} {p q : Nat} (h : aSt C T p = .inr (C', q)) : cu C' = cu C + 1 ∧ cu C ≠ 70 := by
  unfold aSt at h
  cases hA : aSt1 C T p with
  | inl e => rw [hA] at h; cases h
  | inr y =>
    obtain ⟨C1, q1⟩ := y
    rw [hA] at h
    have := toC_i (show toC (nSg T 59 q1) (addU C1) = .inr (C', q) from h)
    refine ⟨?_, fun u => ?_⟩
    · rw [this.1]
      show cu C1 + 1 = cu C + 1
      rw [aSt1_cu hA]
    · unfold aSt1 at hA; rw [if_pos u] at hA; cases hA
section
variable {G : mG} {V V' : mV} {c r x : Nat} {C : mCy} {T : mT2} {n z : Nat}
theorem c_cityL (hT : tOk T) (hd : r + 12 < c) (hx : r ≠ x) : ∀ (w : Nat) (G : mG) (V : mV) (C : mCy) (p : Nat) (fu : Nat), is6 G r → is1 G c → bC V c C → 0 ≤ cu C → cu C + w = 71 → 0 < w → w < fu → rs6 V r T (.inr p) →
    ∃ G' V' q, lp (fun (s : Int) (Z : mW) => B_X6_readCity_6 r c s Z) fu (cu C) (n, z, G, V) = some ((n, z, G', V'), q) ∧ gE r x G G' ∧ (is6 G' r ∧ is1 G' c) ∧ frj r (fun i => i = r ∨ (c ≤ i ∧ i ≤ c + 40)) V V' ∧ gI V' r 10 = gI V r 10 ∧ oC G' V' r c T (aCi T w C p) := by
  intro w
  induction w with
  | zero => intro G V C p fu _ _ _ _ _ h; exact absurd h (by decide)
  | succ w ih =>
    intro G V C p fu hG hc h hu hw _ hf hs
    obtain ⟨fu, rfl⟩ : ∃ i, fu = i + 1 := ⟨fu - 1, by omega⟩
    unfold aCi
    by_cases hk : kdT T p = 3
    · rw [if_pos hk]
      refine ⟨G, V, (1, cu C), lp_stop (q := (1, cu C)) ?_ Nat.one_ne_zero (by omega), gE_refl, ⟨hG, hc⟩, frj_refl, rfl, hs, h⟩
      show B_X6_readCity_6 r c (cu C) (n, z, G, V) = _
      unfold B_X6_readCity_6
      exact E_gd ⟨hG, hc⟩ (E_gd ⟨by omega, by omega⟩ (E_if (fun y => absurd y (by omega)) (fun _ => E_bd (k6_fine hs.2) (E_gd (by decide) (E_if (fun y => absurd y (by decide)) (fun _ => E_bd (k6_kd hG hs.1) (E_gd kd_r (E_if (fun _ => rfl) (fun y => absurd (by omega) y)))))))))
    · rw [if_neg hk]
      obtain ⟨G1, V1, e1, g1, ⟨i6, i1⟩, k1, k10, o⟩ := c_stmt (x := x) (n := n) (z := z) hG hc hT hd hx h ⟨hu, by omega⟩ hs hk
      rw [lp_more e1]
      cases hA : aSt C T p with
      | inl e =>
        rw [hA] at o
        refine ⟨G1, V1, (1, cu C + 1), lp_stop (q := (1, cu C + 1)) ?_ Nat.one_ne_zero (by omega), g1, ⟨i6, i1⟩, k1, k10, o⟩
        show B_X6_readCity_6 r c (cu C + 1) (n, z, G1, V1) = _
        unfold B_X6_readCity_6
        exact E_gd ⟨i6, i1⟩ (E_gd ⟨by omega, by omega⟩ (E_if (fun _ => rfl) (fun _ => E_bd (k6_bad o.1.bad.1 o.1.bad.2) (E_gd (by decide) (E_if (fun _ => rfl) (fun y => absurd rfl y))))))
      | inr y =>
        obtain ⟨C1, q1⟩ := y
        rw [hA] at o
        obtain ⟨o1, o2⟩ := o
        obtain ⟨a1, a2⟩ := aSt_cu hA
        obtain ⟨G2, V2, q, e2, g2, i2, k2, k20, oo⟩ := ih G1 V1 C1 q1 fu i6 i1 o2 (by omega) (by omega) (by omega) (by omega) o1
        rw [a1] at e2
        exact ⟨G2, V2, q, e2, g1.trans g2, i2, k1.trans k2, k20.trans k10, oo⟩
theorem c_readCity (hG : is6 G r) (hc : is1 G c) (hT : tOk T) (hd : r + 12 < c) (hx : r ≠ x) (h : zC G V c) (hs : rs6 V r T (.inr (bsk T 0))) :
    ∃ G' V', F_X6_readCity r c (n, z, G, V) = some ((n, z, G', V'), 0) ∧ gE r x G G' ∧ (is6 G' r ∧ is1 G' c) ∧ frj r (fun i => i = r ∨ (c ≤ i ∧ i ≤ c + 40)) V V' ∧ gI V' r 10 = gI V r 10 ∧ oC G' V' r c T (aCity T) := by
  obtain ⟨V1, e1, k1, b1⟩ := c_clear hc h
  have r1 := rs6.w hs k1 (fun i a b => by omega)
  obtain ⟨G2, V2, q, e2, g2, i2, k2, k20, oo⟩ := c_cityL (x := x) (n := n) (z := z) hT hd hx 71 G V1 C00 (bsk T 0) FU hG hc b1 (by decide) (by decide) (by decide) (by unfold FU; decide) r1
  refine ⟨G2, V2, ?_, g2, i2, ((k1.mono (fun i q => by omega)).j).trans k2, by rw [k20, k1.I (by omega)], oo⟩
  unfold F_X6_readCity
  exact E_gd ⟨hG, hc⟩ (E_bd e1 (E_bd e2 (E_gd i2 rfl)))
end

/-! its picture stands too -/
section
variable {G G' : mG} {V V' U : mV} {x m n : Nat} {Y : mY}
theorem vY_up0 (h : vY G V x Y) (k : fr (fun i => x + 327 ≤ i) V U) (e10 : gR G' x 10 = gR G x 10) (e11 : gR G' x 11 = gR G x 11) (hq : ∀ a, a < x + 327 → qG G' a = qG G a) : vY G' U x Y := by
  obtain ⟨⟨p1, p2, p3, p4, ⟨s0, p5⟩, p6, p7, p8⟩, ⟨b1, b2⟩, c, d, e, ⟨f1, f2⟩, g, i, ⟨j1, j2, j3, j4⟩⟩ := h
  have rzu : ∀ {t : Nat}, rz G V t → t + 1 < x + 327 → rz G' U t := by
    intro t h ht
    unfold rz at h ⊢
    rw [k.I (by omega), hq _ ht]; exact h
  have kI : ∀ {t j : Nat}, t < x + 327 → gI U t j = gI V t j := fun {t j} ht => k.I (by omega) j
  refine ⟨⟨by rw [e10]; exact p1, by rw [e10]; exact p2.fr k (fun j q0 q1 _ => by omega), p3.fr k (fun j q0 q1 => by omega), p4.fr k (by omega) (by omega), ⟨s0, p5.fr k (fun j q0 q1 => by omega)⟩, by rw [kI (by omega)]; exact p6, p7.fr k (fun j q0 q1 => by omega), p8.fr k (by omega) (by omega)⟩, ⟨by rw [e10, e11]; exact b1, ?_⟩, c.fr k (by omega) (by omega), ⟨by rw [kI (by omega)]; exact d.1, by rw [kI (by omega)]; exact d.2⟩, e.fr k (by omega) (by omega), ⟨f1.fr k (by omega) (by omega), fun q => by rw [kI (by omega)]; exact f2 q⟩, by rw [k.1]; exact g, ?_, ⟨?_, j2.fr k (by omega) (by omega), rzu j3 (by omega), by rw [kI (by omega)]; exact j4⟩⟩
  · rw [e11]
    obtain ⟨⟨z1, z2, z3, z4, z5, z6, z7, z8, z9⟩, ⟨w1, w2, w3, w4⟩, v1, v2, v3, v4⟩ := b2
    have bb : gR G x 11 + 41 ≤ x + 327 := by omega
    exact ⟨⟨rzu z1 (by omega), rzu z2 (by omega), rzu z3 (by omega), rzu z4 (by omega), rzu z5 (by omega), rzu z6 (by omega), rzu z7 (by omega), rzu z8 (by omega), rzu z9 (by omega)⟩, ⟨rzu w1 (by omega), rzu w2 (by omega), rzu w3 (by omega), rzu w4 (by omega)⟩, by rw [kI (by omega)]; exact v1, by rw [kI (by omega)]; exact v2, by rw [kI (by omega)]; exact v3, by rw [kI (by omega)]; exact v4⟩
  · show 0 ≤ gI U (x + 43) 1 ∧ gI U (x + 43) 1 ≤ 10
    rw [kI (by omega)]; exact i
  · obtain ⟨z1, z2, z3, z4, z5⟩ := j1
    exact ⟨rzu z1 (by omega), rzu z2 (by omega), rzu z3 (by omega), rzu z4 (by omega), rzu z5 (by omega)⟩
theorem vY_JL {J L : Nat → Nat → Int} (h : vY G (V.1, J, V.2.2.1, L) x Y) (k : gJ V x 13 = J x 13) : vY G V x Y :=
  ⟨h.1, h.2.1, h.2.2.1, h.2.2.2.1, h.2.2.2.2.1, h.2.2.2.2.2.1, k.trans h.2.2.2.2.2.2.1, h.2.2.2.2.2.2.2.1, h.2.2.2.2.2.2.2.2⟩
theorem vY_up (h : vY G V x Y) (hm : m = x + 327) (hV : ∀ a, a < m → gI V' a = gI V a ∧ gJ V' a = gJ V a ∧ gA V' a = gA V a ∧ gL V' a = gL V a) (hG : gb m G G') : vY G' V' x Y := by
  have hq : ∀ a, a < x + 327 → qG G' a = qG G a := fun a ha => by unfold qG; rw [hG.1 a (by omega)]
  have e : ∀ j, gR G' x j = gR G x j := fun j => by unfold gR; rw [hG.2.1 x j (by omega)]
  have k : fr (fun i => x + 327 ≤ i) V (V'.1, V.2.1, V'.2.2.1, V.2.2.2) := ⟨rfl, rfl, fun i hi => ⟨(hV i (by omega)).1, (hV i (by omega)).2.2.1⟩⟩
  exact vY_JL (vY_up0 h k (e 10) (e 11) hq) (by rw [(hV x (by omega)).2.1]; rfl)
end

/-! made: the town's object -/
def q2m : Nat := a_nf 7 + 43 + a_nf 7 + 10 + a_nf 7 + 2 + a_nf 7 + 3 + a_nf 7 + 10
def q0m : Nat := a_nf 7 + 100 + a_nf 7 + 1024 + a_nf 7 + 10
def q5m : Nat := 20 + 20 * (a_nf 4 + q4m)
def q1m : Nat := a_nf 7 + 10 + a_nf 7 + 10 + a_nf 7 + 10 + a_nf 7 + 10 + a_nf 7 + 100 + a_nf 7 + 8 + a_nf 7 + 8 + a_nf 7 + 24 + a_nf 7 + 24 + a_nf 7 + 24 + a_nf 3 + (a_nf 7 + 1600 + a_nf 7 + 64) + a_nf 3 + (a_nf 7 + 1600 + a_nf 7 + 64) + a_nf 3 + (a_nf 7 + 1600 + a_nf 7 + 64) + a_nf 3 + (a_nf 7 + 1600 + a_nf 7 + 64)
section
variable {G G' : mG} {V V' : mV} {r k n z c d s q sz : Nat}
theorem is5_up (h : is5 G s) (k : gx r n G G') (hs : s + 182 ≤ n) (hr : r < s) : is5 G' s := by
  obtain ⟨a, b, e, f, g⟩ := h
  exact ⟨by rw [k.1 _ (by omega)]; exact a, by rw [k.2.1 _ _ (by omega) (by omega)]; exact b, by rw [k.1 _ (by omega)]; exact e, fun j hj => by rw [k.2.2 _ _ (by omega)]; exact f j hj, fun j hj => is4_up (g j hj) k (by omega) (by omega)⟩
theorem is6_up (h : is6 G s) (h7 : gR G s 7 = s + 13) (k : gx r n G G') (hs : s + 18 ≤ n) (hr : r < s) : is6 G' s ∧ gR G' s 7 = s + 13 := by
  obtain ⟨a, a1, b1, c1, a2, b2, c2, a3, b3, c3, a4, b4, c4, a5, b5, c5, a6, b6, c6, d0, e0, d1, e1⟩ := h
  have u : ∀ {t : Nat}, is7 G t → s ≤ t → t + 1 < s + 18 → is7 G' t ∧ qG G' (t + 1) = qG G (t + 1) := fun ht h1 h2 => is7_up ht k (by omega) (by omega)
  have o : ∀ j, G'.2.1 s j = G.2.1 s j := fun j => k.2.1 _ _ (by omega) (by omega)
  have e7 : gR G' s 7 = s + 13 := by unfold gR at h7 ⊢; rw [o 7]; exact h7
  exact ⟨⟨by rw [k.1 _ (by omega)]; exact a, (o _).trans a1, (u b1 (by omega) (by omega)).1, (u b1 (by omega) (by omega)).2.trans c1, (o _).trans a2, (u b2 (by omega) (by omega)).1, (u b2 (by omega) (by omega)).2.trans c2, (o _).trans a3, (u b3 (by omega) (by omega)).1, (u b3 (by omega) (by omega)).2.trans c3, (o _).trans a4, (u b4 (by omega) (by omega)).1, (u b4 (by omega) (by omega)).2.trans c4, (o _).trans a5, (u b5 (by omega) (by omega)).1, (u b5 (by omega) (by omega)).2.trans c5, (o _).trans a6, (u b6 (by omega) (by omega)).1, (u b6 (by omega) (by omega)).2.trans c6, by rw [e7, o 7, d0, h7], by rw [e7]; rw [h7] at e0; exact is3_up e0 k (by omega) (by omega), (o _).trans d1, is3_up e1 k (by omega) (by omega)⟩, e7⟩
theorem is1_up (h : is1 G s) (k : gx r n G G') (hs : s + 41 ≤ n) (hr : r < s) : is1 G' s := by
  obtain ⟨a, a0, b0, c0, a1, b1, c1, a2, b2, c2, a3, b3, c3, a4, b4, c4, a5, b5, c5, a6, b6, c6, a7, b7, c7, a8, b8, c8, a9, b9, c9, d0, e0, d1, e1, d2, e2, d3, e3⟩ := h
  have u : ∀ {t : Nat}, is7 G t → s ≤ t → t + 1 < s + 41 → is7 G' t ∧ qG G' (t + 1) = qG G (t + 1) := fun ht h1 h2 => is7_up ht k (by omega) (by omega)
  have o : ∀ j, G'.2.1 s j = G.2.1 s j := fun j => k.2.1 _ _ (by omega) (by omega)
  exact ⟨by rw [k.1 _ (by omega)]; exact a, (o _).trans a0, (u b0 (by omega) (by omega)).1, (u b0 (by omega) (by omega)).2.trans c0, (o _).trans a1, (u b1 (by omega) (by omega)).1, (u b1 (by omega) (by omega)).2.trans c1, (o _).trans a2, (u b2 (by omega) (by omega)).1, (u b2 (by omega) (by omega)).2.trans c2, (o _).trans a3, (u b3 (by omega) (by omega)).1, (u b3 (by omega) (by omega)).2.trans c3, (o _).trans a4, (u b4 (by omega) (by omega)).1, (u b4 (by omega) (by omega)).2.trans c4, (o _).trans a5, (u b5 (by omega) (by omega)).1, (u b5 (by omega) (by omega)).2.trans c5, (o _).trans a6, (u b6 (by omega) (by omega)).1, (u b6 (by omega) (by omega)).2.trans c6, (o _).trans a7, (u b7 (by omega) (by omega)).1, (u b7 (by omega) (by omega)).2.trans c7, (o _).trans a8, (u b8 (by omega) (by omega)).1, (u b8 (by omega) (by omega)).2.trans c8, (o _).trans a9, (u b9 (by omega) (by omega)).1, (u b9 (by omega) (by omega)).2.trans c9, (o _).trans d0, is3_up e0 k (by omega) (by omega), (o _).trans d1, is3_up e1 k (by omega) (by omega), (o _).trans d2, is3_up e2 k (by omega) (by omega), (o _).trans d3, is3_up e3 k (by omega) (by omega)⟩
end

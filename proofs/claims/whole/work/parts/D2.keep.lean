/-! the one side stands while the other is made -/
section
variable {G G' : mG} {V V' : mV} {x m n : Nat} {Y : mY}
/-- all below n stands -/
def gb (n : Nat) (G G' : mG) : Prop := (∀ a, a < n → G'.1 a = G.1 a) ∧ (∀ a j, a < n → G'.2.1 a j = G.2.1 a j) ∧ ∀ a j, a < n → G'.2.2 a j = G.2.2 a j
theorem gb.gx {r : Nat} (h : gb n G G') : gx r n G G' := ⟨h.1, fun a j ha _ => h.2.1 a j ha, h.2.2⟩
theorem is9_up (h : is9 G x) (h7 : gR G (x + 9) 7 = x + 22) (k : gb n G G') (hs : x + 327 ≤ n) (hc : (gR G x 10 = x + 245 ∧ gR G x 11 = x + 286) ∨ (gR G x 10 = x + 286 ∧ gR G x 11 = x + 245)) : is9 G' x ∧ gR G' x 10 = gR G x 10 ∧ gR G' x 11 = gR G x 11 := by
  have g : gx x n G G' := k.gx
  have o : ∀ j, G'.2.1 x j = G.2.1 x j := fun j => k.2.1 _ _ (by omega)
  have u : ∀ {t : Nat}, is7 G t → x < t → t + 1 < x + 327 → is7 G' t ∧ qG G' (t + 1) = qG G (t + 1) := fun ht h1 h2 => is7_up ht g (by omega) (by omega)
  have e10 : gR G' x 10 = gR G x 10 := by unfold gR; rw [o 10]
  have e11 : gR G' x 11 = gR G x 11 := by unfold gR; rw [o 11]
  refine ⟨⟨by rw [k.1 _ (by omega)]; exact h.1, (o _).trans (s9_0r h), (u (s9_0s h) (by omega) (by omega)).1, (u (s9_0s h) (by omega) (by omega)).2.trans (s9_0c h), (o _).trans (s9_1r h), (u (s9_1s h) (by omega) (by omega)).1, (u (s9_1s h) (by omega) (by omega)).2.trans (s9_1c h), (o _).trans (s9_2r h), (u (s9_2s h) (by omega) (by omega)).1, (u (s9_2s h) (by omega) (by omega)).2.trans (s9_2c h), (o _).trans (s9_3r h), (u (s9_3s h) (by omega) (by omega)).1, (u (s9_3s h) (by omega) (by omega)).2.trans (s9_3c h), (o _).trans (s9_4r h), (is6_up (s9_4s h) h7 g (by omega) (by omega)).1, (o _).trans (s9_5r h), is2_up (s9_5s h) g (by omega) (by omega), (o _).trans (s9_6r h), is0_up (s9_6s h) g (by omega) (by omega), (o _).trans (s9_7r h), is5_up (s9_7s h) g (by omega) (by omega), (o _).trans (s9_8r h), is4_up (s9_8s h) g (by omega) (by omega), (o _).trans (s9_9r h), is4_up (s9_9s h) g (by omega) (by omega), by rw [e10]; exact (o _).trans (s9_10r h), by rw [e10]; exact is1_up (s9_10s h) g (by omega) (by omega), by rw [e11]; exact (o _).trans (s9_11r h), by rw [e11]; exact is1_up (s9_11s h) g (by omega) (by omega)⟩, e10, e11⟩
end

/-! made: twenty moments kept -/
def q4m : Nat := a_nf 7 + 10 + a_nf 7 + 10 + a_nf 7 + 100 + a_nf 7 + 160
section
variable {G G' : mG} {V V' : mV} {r k n z c d s q sz : Nat}
theorem made4' (hc : G.1 n = .inl 4) : ∃ G' V', F_X4_init n (n + 1, z, G, V) = some ((n + 9, z + q4m, G', V'), 0) ∧ is4 G' n ∧ gx n (n + 1) G G' ∧ vx n (n + 1) V V' := by
  obtain ⟨G', V', e, h⟩ := made4 (z := z) (V := V) hc
  exact ⟨G', V', e.trans (by unfold q4m; simp only [Nat.add_assoc]), h⟩
theorem made5 (hc : G.1 r = .inl 5) : ∃ G' V', F_X5_init r (r + 1, z, G, V) = some ((r + 182, z + 20 + 20 * (a_nf 4 + q4m), G', V'), 0) ∧ is5 G' r ∧ gx r (r + 1) G G' ∧ vb (r + 1) V V' := by
  obtain ⟨G5, hG5⟩ : ∃ G5, G5 = sR (zQ (nw G (r + 1) (.inr (3, 20))) (r + 1)) r 0 (.ref (r + 1)) := ⟨_, rfl⟩
  have a1 : ∀ a, a ≠ r + 1 → G5.1 a = G.1 a := fun a ha => by
    rw [hG5]
    show (if a = r + 1 then _ else G.1 a) = _
    rw [if_neg ha]
  have a2 : G5.1 (r + 1) = .inr (3, 20) := by
    rw [hG5]
    show (if r + 1 = r + 1 then _ else _) = _
    rw [if_pos rfl]
  have a3 : G5.2.1 r 0 = .ref (r + 1) := by
    rw [hG5]
    show (if r = r ∧ 0 = 0 then _ else _) = _
    rw [if_pos ⟨rfl, rfl⟩]
  have a4 : gx r (r + 1) G G5 := ⟨fun a ha => a1 a (by omega), fun a j ha w => by
    rw [hG5]
    show (if a = r ∧ j = 0 then _ else G.2.1 a j) = _
    rw [if_neg (fun q => w q.1)], fun a j ha => by
    rw [hG5]
    show (if a = r + 1 then none else G.2.2 a j) = _
    rw [if_neg (by omega)]⟩
  obtain ⟨I, hI⟩ : ∃ I : Nat → mW → Prop, I = fun k W => W.1 = r + 2 + 9 * k ∧ W.2.1 = z + 20 + k * (a_nf 4 + q4m) ∧ W.2.2.1.1 r = .inl 5 ∧ W.2.2.1.2.1 r 0 = .ref (r + 1) ∧ W.2.2.1.1 (r + 1) = .inr (3, 20) ∧ (∀ j, j < k → W.2.2.1.2.2 (r + 1) j = some (r + 2 + 9 * j) ∧ is4 W.2.2.1 (r + 2 + 9 * j)) ∧ gx r (r + 1) G W.2.2.1 ∧ vb (r + 1) V W.2.2.2 := ⟨_, rfl⟩
  have main : Wp (lp (fun (s : Int) (Z : mW) => B_X5_init_15 r s Z) FU 0 (r + 1 + 1, z + 20, G5, V)) (fun W _ => I 20 W) := by
    refine W_lp (fun w (y : Int) W => ∃ k : Nat, y = (k : Int) ∧ k + w = 20 ∧ I k W) ?_ FU 20 _ _ ⟨0, rfl, rfl, ?_⟩ (by unfold FU; decide)
    · rintro w y ⟨n, zz, Gk, Vk⟩ ⟨k, rfl, hw, hk⟩
      have hk' := hk
      rw [hI] at hk'
      obtain ⟨h1, h2, h3, h4, h5, h6, h7, h8⟩ := hk'
      have h1' : n = r + 2 + 9 * k := h1
      have h2' : zz = z + 20 + k * (a_nf 4 + q4m) := h2
      unfold B_X5_init_15
      refine W_gd h3 (W_gd ⟨h4, h5⟩ (W_gd ⟨by omega, by omega⟩ (W_gd ⟨by decide, by decide⟩ (W_if (fun q => W_so (Or.inr ⟨Nat.one_ne_zero, ?_⟩)) (fun q => W_gd ⟨h4, h5⟩ (W_lt (W_lt ?_)))))))
      · have e : k = 20 := by omega
        rw [e] at hk; exact hk
      obtain ⟨G14, hG14⟩ : ∃ G14, G14 = zR (nw Gk n (.inl 4)) n := ⟨_, rfl⟩
      have b1 : ∀ a, a ≠ n → G14.1 a = Gk.1 a := fun a ha => by
        rw [hG14]
        show (if a = n then _ else Gk.1 a) = _
        rw [if_neg ha]
      have b2 : G14.1 n = .inl 4 := by
        rw [hG14]
        show (if n = n then _ else _) = _
        rw [if_pos rfl]
      have b3 : ∀ a j, a ≠ n → G14.2.1 a j = Gk.2.1 a j := fun a j ha => by
        rw [hG14]
        show (if a = n then _ else Gk.2.1 a j) = _
        rw [if_neg ha]
      obtain ⟨G', V', e, i4, g, v⟩ := made4' (n := n) (z := zz + a_nf 4) (V := z0 Vk n) b2
      have c1 : ∀ a, a < n → G'.1 a = Gk.1 a := fun a ha => (g.1 a (by omega)).trans (b1 a (by omega))
      have c2 : ∀ a j, a < n → G'.2.1 a j = Gk.2.1 a j := fun a j ha => (g.2.1 a j (by omega) (by omega)).trans (b3 a j (by omega))
      have c3 : ∀ a j, a < n → G'.2.2 a j = Gk.2.2 a j := fun a j ha => (g.2.2 a j (by omega)).trans (by rw [hG14]; rfl)
      have gg : gx r n Gk G' := ⟨c1, fun a j ha _ => c2 a j ha, c3⟩
      have n1 : G'.1 r = .inl 5 := (c1 r (by omega)).trans h3
      have n2 : G'.1 (r + 1) = .inr (3, 20) := (c1 _ (by omega)).trans h5
      dsimp only
      rw [← hG14]
      refine W_gd ⟨(b1 r (by omega)).trans h3, (b1 _ (by omega)).trans h5, b2⟩ (W_be e (W_gd ⟨n1, n2, i4⟩ (W_gd ⟨by omega, by omega, by omega⟩ (W_lt (W_lt (W_so (Or.inl ⟨rfl, w - 1, by omega, k + 1, rfl, by omega, ?_⟩)))))))
      rw [hI]
      refine ⟨by show n + 9 = _; omega, ?_, n1, (c2 r 0 (by omega)).trans h4, n2, fun j hj => ?_, ?_, ?_⟩
      · show zz + a_nf 4 + q4m = _
        rw [h2', Nat.add_mul, Nat.one_mul]; omega
      · show (if r + 1 = r + 1 ∧ j = ((k : Int)).toNat then some n else G'.2.2 (r + 1) j) = _ ∧ is4 G' (r + 2 + 9 * j)
        rw [Int.toNat_natCast]
        by_cases ej : j = k
        · rw [if_pos ⟨rfl, ej⟩, ej, ← h1']
          exact ⟨rfl, i4⟩
        · rw [if_neg (fun q => ej q.2), c3 _ _ (by omega)]
          exact ⟨(h6 j (by omega)).1, is4_up (h6 j (by omega)).2 gg (by omega) (by omega)⟩
      · refine ⟨fun a ha => (c1 a (by omega)).trans (h7.1 a ha), fun a j ha wa => (c2 a j (by omega)).trans (h7.2.1 a j ha wa), fun a j ha => ?_⟩
        show (if a = r + 1 ∧ _ then some n else G'.2.2 a j) = _
        rw [if_neg (fun q => by omega), c3 _ _ (by omega)]
        exact h7.2.2 a j ha
      · refine fun a ha => ?_
        obtain ⟨x1, x2, x3, x4⟩ := v a (by omega) (by omega)
        obtain ⟨y1, y2, y3, y4⟩ := h8 a ha
        refine ⟨?_, ?_, x3.trans y3, x4.trans y4⟩
        · show gI V' a = _
          rw [x1, ← y1]
          funext j
          show (if a = n then 0 else Vk.1 a j) = _
          rw [if_neg (by omega)]; rfl
        · show gJ V' a = _
          rw [x2, ← y2]
          funext j
          show (if a = n then 0 else Vk.2.1 a j) = _
          rw [if_neg (by omega)]; rfl
    · rw [hI]
      exact ⟨rfl, by show z + 20 = z + 20 + 0 * _; rw [Nat.zero_mul], (a1 r (by omega)).trans hc, a3, a2, fun j hj => by omega, a4, fun _ _ => ⟨rfl, rfl, rfl, rfl⟩⟩
  obtain ⟨⟨n, zz, G', V'⟩, u, e, hk⟩ := main
  rw [hI] at hk
  obtain ⟨h1, h2, h3, h4, h5, h6, h7, h8⟩ := hk
  have h1' : n = r + 2 + 9 * 20 := h1
  have h2' : zz = z + 20 + 20 * (a_nf 4 + q4m) := h2
  refine ⟨G', V', ?_, ⟨h3, h4, h5, fun j hj => (h6 j hj).1, fun j hj => (h6 j hj).2⟩, h7, h8⟩
  unfold F_X5_init
  refine E_gd hc (E_lt (E_gd ⟨?_, ?_⟩ (E_lt ?_)))
  · show (if r = r + 1 then _ else G.1 r) = _
    rw [if_neg (by omega)]; exact hc
  · show (if r + 1 = r + 1 then _ else _) = _
    rw [if_pos rfl]
  · dsimp only
    rw [← hG5]
    refine E_bd e (E_gd h3 ?_)
    show some ((n, zz, G', V'), (0 : Int)) = _
    rw [h1', h2']
end

/-! made: the other side, ready for its calls -/
section
variable {G G' : mG} {V V' : mV} {r z : Nat}
def q10m : Nat := 0 + 1600 + 6 + 6 + 4 + 4 + 4 + 4 + 2 + 6 + 5 + 5 + 6 + 3 + 6 + 5 + 3 + 6 + 4 + 3 + 6 + 2 + 3 + 3 + 3 + 3 + 3 + 6 + 40 + 40 + 144 + 20 + 20 + 200 + 8 + 8 + 3200 + 282 + 282 + 3 + 10 + 10 + 11264 + 100 + 5640 + 60 + 5 + 4 + 5 + 5 + 4 + 5 + 3 + 3 + 2 + 3 + 3 + 3 + 5 + 3 + 6 + 4 + 4 + 3 + 6 + 4 + 4 + 5 + 1700 + 1700 + 1700 + 123
theorem made10 (hc : G.1 r = .inl 10) (hz : gI V r = fun _ => 0) : ∃ G' V', F_X10_init r (r + 1, z, G, V) = some ((r + 72, z + q10m, G', V'), 0) ∧ is10 G' r ∧ gx r (r + 1) G G' ∧ (∀ a, a < r → gI V' a = gI V a ∧ gJ V' a = gJ V a ∧ gA V' a = gA V a ∧ gL V' a = gL V a) ∧ rY V' r Y00 := by
  obtain ⟨G1, V1, e0, c1, y0, vi0, vj0, a0_0, a0_1, a0_2, a0_3, a0_4, a0_5, a0_6⟩ := mk_init (n := r + 1) (z := z) (V := V) hc (by omega)
  obtain ⟨G2, V2, e1, c2, y1, vi1, vj1, a1_0, a1_1, a1_2, a1_3, a1_4, a1_5⟩ := mk_init_J172 (n := r + 8) (z := z + 1600 + 6 + 6 + 4 + 4 + 4 + 4) (V := V1) c1 (by omega)
  obtain ⟨G3, V3, e2, c3, y2, vi2, vj2, a2_0, a2_1, a2_2, a2_3, a2_4, a2_5⟩ := mk_init_J351 (n := r + 14) (z := z + 1600 + 6 + 6 + 4 + 4 + 4 + 4 + 2 + 6 + 5 + 5 + 6 + 3) (V := V2) c2 (by omega)
  obtain ⟨G4, V4, e3, c4, y3, vi3, vj3, a3_0, a3_1, a3_2, a3_3, a3_4, a3_5, a3_6⟩ := mk_init_J530 (n := r + 20) (z := z + 1600 + 6 + 6 + 4 + 4 + 4 + 4 + 2 + 6 + 5 + 5 + 6 + 3 + 6 + 5 + 3 + 6 + 4 + 3) (V := V3) c3 (by omega)
  obtain ⟨G5, V5, e4, c5, y4, vi4, vj4, a4_0, a4_1, a4_2, a4_3, a4_4, a4_5, a4_6, a4_7, a4_8, a4_9, a4_10⟩ := mk_init_J695 (n := r + 27) (z := z + 1600 + 6 + 6 + 4 + 4 + 4 + 4 + 2 + 6 + 5 + 5 + 6 + 3 + 6 + 5 + 3 + 6 + 4 + 3 + 6 + 2 + 3 + 3 + 3 + 3 + 3) (V := V4) c4 (by omega)
  obtain ⟨G6, V6, e5, c6, y5, vi5, vj5, a5_0, a5_1, a5_2, a5_3, a5_4, a5_5, a5_6, a5_7, a5_8, a5_9, a5_10⟩ := mk_init_J821 (n := r + 38) (z := z + 1600 + 6 + 6 + 4 + 4 + 4 + 4 + 2 + 6 + 5 + 5 + 6 + 3 + 6 + 5 + 3 + 6 + 4 + 3 + 6 + 2 + 3 + 3 + 3 + 3 + 3 + 6 + 40 + 40 + 144 + 20 + 20 + 200 + 8 + 8 + 3200 + 282) (V := V5) c5 (by omega)
  obtain ⟨G7, V7, e6, c7, y6, vi6, vj6, a6_0, a6_1, a6_2, a6_3, a6_4, a6_5, a6_6⟩ := mk_init_J983 (n := r + 49) (z := z + 1600 + 6 + 6 + 4 + 4 + 4 + 4 + 2 + 6 + 5 + 5 + 6 + 3 + 6 + 5 + 3 + 6 + 4 + 3 + 6 + 2 + 3 + 3 + 3 + 3 + 3 + 6 + 40 + 40 + 144 + 20 + 20 + 200 + 8 + 8 + 3200 + 282 + 282 + 3 + 10 + 10 + 11264 + 100 + 5640 + 60 + 5 + 4 + 5) (V := V6) c6 (by omega)
  obtain ⟨G8, V8, e7, c8, y7, vi7, vj7, a7_0, a7_1, a7_2, a7_3, a7_4, a7_5, a7_6⟩ := mk_init_J1157 (n := r + 56) (z := z + 1600 + 6 + 6 + 4 + 4 + 4 + 4 + 2 + 6 + 5 + 5 + 6 + 3 + 6 + 5 + 3 + 6 + 4 + 3 + 6 + 2 + 3 + 3 + 3 + 3 + 3 + 6 + 40 + 40 + 144 + 20 + 20 + 200 + 8 + 8 + 3200 + 282 + 282 + 3 + 10 + 10 + 11264 + 100 + 5640 + 60 + 5 + 4 + 5 + 5 + 4 + 5 + 3 + 3 + 2 + 3) (V := V7) c7 (by omega)
  obtain ⟨G9, V9, e8, c9, y8, vi8, vj8, a8_0, a8_1, a8_2, a8_3, a8_4, a8_5, a8_6, a8_7⟩ := mk_init_J1347 (n := r + 63) (z := z + 1600 + 6 + 6 + 4 + 4 + 4 + 4 + 2 + 6 + 5 + 5 + 6 + 3 + 6 + 5 + 3 + 6 + 4 + 3 + 6 + 2 + 3 + 3 + 3 + 3 + 3 + 6 + 40 + 40 + 144 + 20 + 20 + 200 + 8 + 8 + 3200 + 282 + 282 + 3 + 10 + 10 + 11264 + 100 + 5640 + 60 + 5 + 4 + 5 + 5 + 4 + 5 + 3 + 3 + 2 + 3 + 3 + 3 + 5 + 3 + 6 + 4 + 4) (V := V8) c8 (by omega)
  obtain ⟨G10, V10, e9, c10, y9, vi9, vj9, a9_0⟩ := mk_init_J1520 (n := r + 71) (z := z + 1600 + 6 + 6 + 4 + 4 + 4 + 4 + 2 + 6 + 5 + 5 + 6 + 3 + 6 + 5 + 3 + 6 + 4 + 3 + 6 + 2 + 3 + 3 + 3 + 3 + 3 + 6 + 40 + 40 + 144 + 20 + 20 + 200 + 8 + 8 + 3200 + 282 + 282 + 3 + 10 + 10 + 11264 + 100 + 5640 + 60 + 5 + 4 + 5 + 5 + 4 + 5 + 3 + 3 + 2 + 3 + 3 + 3 + 5 + 3 + 6 + 4 + 4 + 3 + 6 + 4 + 4 + 5 + 1700 + 1700 + 1700) (V := V9) c9 (by omega)
  have T10 : gy r (r + 72) 200 G10 V10 G10 V10 := gy_refl
  have T9 : gy r (r + 71) 107 G9 V9 G10 V10 := y9.trans T10 (by omega) (by decide)
  have T8 : gy r (r + 63) 92 G8 V8 G10 V10 := y8.trans T9 (by omega) (by decide)
  have T7 : gy r (r + 56) 85 G7 V7 G10 V10 := y7.trans T8 (by omega) (by decide)
  have T6 : gy r (r + 49) 78 G6 V6 G10 V10 := y6.trans T7 (by omega) (by decide)
  have T5 : gy r (r + 38) 50 G5 V5 G10 V10 := y5.trans T6 (by omega) (by decide)
  have T4 : gy r (r + 27) 36 G4 V4 G10 V10 := y4.trans T5 (by omega) (by decide)
  have T3 : gy r (r + 20) 28 G3 V3 G10 V10 := y3.trans T4 (by omega) (by decide)
  have T2 : gy r (r + 14) 22 G2 V2 G10 V10 := y2.trans T3 (by omega) (by decide)
  have T1 : gy r (r + 8) 16 G1 V1 G10 V10 := y1.trans T2 (by omega) (by decide)
  have T0 : gy r (r + 1) 0 G V G10 V10 := y0.trans T1 (by omega) (by decide)
  have b0 := a0_0.up T1 (by omega) (by omega) (by decide)
  have b1 := a0_1.up T1 (by omega) (by omega) (by decide)
  have b2 := a0_2.up T1 (by omega) (by omega) (by decide)
  have b3 := a0_3.up T1 (by omega) (by omega) (by decide)
  have b4 := a0_4.up T1 (by omega) (by omega) (by decide)
  have b5 := a0_5.up T1 (by omega) (by omega) (by decide)
  have b6 := a0_6.up T1 (by omega) (by omega) (by decide)
  have b7 := a1_0.up T2 (by omega) (by omega) (by decide)
  have b8 := a1_1.up T2 (by omega) (by omega) (by decide)
  have b9 := a1_2.up T2 (by omega) (by omega) (by decide)
  have b10 := a1_3.up T2 (by omega) (by omega) (by decide)
  have b11 := a1_4.up T2 (by omega) (by omega) (by decide)
  have b12 := a1_5.up T2 (by omega) (by omega) (by decide)
  have b13 := a2_0.up T3 (by omega) (by omega) (by decide)
  have b14 := a2_1.up T3 (by omega) (by omega) (by decide)
  have b15 := a2_2.up T3 (by omega) (by omega) (by decide)
  have b16 := a2_3.up T3 (by omega) (by omega) (by decide)
  have b17 := a2_4.up T3 (by omega) (by omega) (by decide)
  have b18 := a2_5.up T3 (by omega) (by omega) (by decide)
  have b19 := a3_0.up T4 (by omega) (by omega) (by decide)
  have b20 := a3_1.up T4 (by omega) (by omega) (by decide)
  have b21 := a3_2.up T4 (by omega) (by omega) (by decide)
  have b22 := a3_3.up T4 (by omega) (by omega) (by decide)
  have b23 := a3_4.up T4 (by omega) (by omega) (by decide)
  have b24 := a3_5.up T4 (by omega) (by omega) (by decide)
  have b25 := a3_6.up T4 (by omega) (by omega) (by decide)
  have b26 := a4_0.up T5 (by omega) (by omega) (by decide)
  have b27 := a4_1.up T5 (by omega) (by omega) (by decide)
  have b28 := a4_2.up T5 (by omega) (by omega) (by decide)
  have b29 := a4_3.up T5 (by omega) (by omega) (by decide)
  have b30 := a4_4.up T5 (by omega) (by omega) (by decide)
  have b31 := a4_5.up T5 (by omega) (by omega) (by decide)
  have b32 := a4_6.up T5 (by omega) (by omega) (by decide)
  have b33 := a4_7.up T5 (by omega) (by omega) (by decide)
  have b34 := a4_8.up T5 (by omega) (by omega) (by decide)
  have b35 := a4_9.up T5 (by omega) (by omega) (by decide)
  have b36 := a4_10.up T5 (by omega) (by omega) (by decide)
  have b37 := a5_0.up T6 (by omega) (by omega) (by decide)
  have b38 := a5_1.up T6 (by omega) (by omega) (by decide)
  have b39 := a5_2.up T6 (by omega) (by omega) (by decide)
  have b40 := a5_3.up T6 (by omega) (by omega) (by decide)
  have b41 := a5_4.up T6 (by omega) (by omega) (by decide)
  have b42 := a5_5.up T6 (by omega) (by omega) (by decide)
  have b43 := a5_6.up T6 (by omega) (by omega) (by decide)
  have b44 := a5_7.up T6 (by omega) (by omega) (by decide)
  have b45 := a5_8.up T6 (by omega) (by omega) (by decide)
  have b46 := a5_9.up T6 (by omega) (by omega) (by decide)
  have b47 := a5_10.up T6 (by omega) (by omega) (by decide)
  have b48 := a6_0.up T7 (by omega) (by omega) (by decide)
  have b49 := a6_1.up T7 (by omega) (by omega) (by decide)
  have b50 := a6_2.up T7 (by omega) (by omega) (by decide)
  have b51 := a6_3.up T7 (by omega) (by omega) (by decide)
  have b52 := a6_4.up T7 (by omega) (by omega) (by decide)
  have b53 := a6_5.up T7 (by omega) (by omega) (by decide)
  have b54 := a6_6.up T7 (by omega) (by omega) (by decide)
  have b55 := a7_0.up T8 (by omega) (by omega) (by decide)
  have b56 := a7_1.up T8 (by omega) (by omega) (by decide)
  have b57 := a7_2.up T8 (by omega) (by omega) (by decide)
  have b58 := a7_3.up T8 (by omega) (by omega) (by decide)
  have b59 := a7_4.up T8 (by omega) (by omega) (by decide)
  have b60 := a7_5.up T8 (by omega) (by omega) (by decide)
  have b61 := a7_6.up T8 (by omega) (by omega) (by decide)
  have b62 := a8_0.up T9 (by omega) (by omega) (by decide)
  have b63 := a8_1.up T9 (by omega) (by omega) (by decide)
  have b64 := a8_2.up T9 (by omega) (by omega) (by decide)
  have b65 := a8_3.up T9 (by omega) (by omega) (by decide)
  have b66 := a8_4.up T9 (by omega) (by omega) (by decide)
  have b67 := a8_5.up T9 (by omega) (by omega) (by decide)
  have b68 := a8_6.up T9 (by omega) (by omega) (by decide)
  have b69 := a8_7.up T9 (by omega) (by omega) (by decide)
  have b70 := a9_0.up T10 (by omega) (by omega) (by decide)
  have gi : gI V10 = gI (sI V r 8 (-1)) := by rw [vi9, vi8, vi7, vi6, vi5, vi4, vi3, vi2, vi1, vi0]
  have gj0 : gJ V5 = gJ V := by rw [vj4, vj3, vj2, vj1, vj0]
  have gj : gJ V10 = gJ (sJ V r 71 1) := by rw [vj9, vj8, vj7, vj6, vj5]; show u2 (gJ V5) r 71 1 = u2 (gJ V) r 71 1; rw [gj0]
  have gz : ∀ k, k ≠ 8 → gI V10 r k = 0 := fun k hk => by rw [gi, gI_sI, if_neg (fun q => hk q.2), hz]
  have g8 : gI V10 r 8 = -1 := by rw [gi, gI_sI, if_pos ⟨rfl, rfl⟩]
  have i10 : is10 G10 r := ⟨c10, b0.1, b0.2.1, b1.1, b1.2.1, b2.1, b2.2.1, b3.1, b3.2.1, b4.1, b4.2.1, b5.1, b5.2.1, b6.1, b6.2.1, b7.1, b7.2.1, b8.1, b8.2.1, b9.1, b9.2.1, b10.1, b10.2.1, b11.1, b11.2.1, b12.1, b12.2.1, b13.1, b13.2.1, b14.1, b14.2.1, b15.1, b15.2.1, b16.1, b16.2.1, b17.1, b17.2.1, b18.1, b18.2.1, b19.1, b19.2.1, b20.1, b20.2.1, b21.1, b21.2.1, b22.1, b22.2.1, b23.1, b23.2.1, b24.1, b24.2.1, b25.1, b25.2.1, b26.1, b26.2.1, b27.1, b27.2.1, b28.1, b28.2.1, b29.1, b29.2.1, b30.1, b30.2.1, b31.1, b31.2.1, b32.1, b32.2.1, b33.1, b33.2.1, b34.1, b34.2.1, b35.1, b35.2.1, b36.1, b36.2.1, b37.1, b37.2.1, b38.1, b38.2.1, b39.1, b39.2.1, b40.1, b40.2.1, b41.1, b41.2.1, b42.1, b42.2.1, b43.1, b43.2.1, b44.1, b44.2.1, b45.1, b45.2.1, b46.1, b46.2.1, b47.1, b47.2.1, b48.1, b48.2.1, b49.1, b49.2.1, b50.1, b50.2.1, b51.1, b51.2.1, b52.1, b52.2.1, b53.1, b53.2.1, b54.1, b54.2.1, b55.1, b55.2.1, b56.1, b56.2.1, b57.1, b57.2.1, b58.1, b58.2.1, b59.1, b59.2.1, b60.1, b60.2.1, b61.1, b61.2.1, b62.1, b62.2.1, b63.1, b63.2.1, b64.1, b64.2.1, b65.1, b65.2.1, b66.1, b66.2.1, b67.1, b67.2.1, b68.1, b68.2.1, b69.1, b69.2.1, b70.1, b70.2.1⟩
  refine ⟨G10, V10, ?_, i10, ⟨fun a ha => T0.1 a ha, fun a j ha w => T0.2.1 a j ha (Or.inl w), fun a j _ => by rw [T0.2.2.1]⟩, fun a ha => ⟨?_, ?_, T0.2.2.2.1 a (by omega), T0.2.2.2.2 a (by omega)⟩, ⟨⟨⟨?_, ?_, ?_⟩, fun p p0 p1 => ?_, fun p p0 p1 => ?_, fun j hj => absurd hj (Nat.not_lt_zero _), fun p p0 p1 => ?_, ⟨?_, ?_, ?_, ?_⟩, fun p p0 p1 => ?_, fun p p0 p1 => ?_, fun a b x0 x1 _ _ => ?_⟩, ⟨?_, fun p p0 p1 => ?_, fun p l p0 p1 _ _ => ?_, ?_, fun i hi => absurd hi (Nat.not_lt_zero _)⟩, ⟨?_, Nat.zero_le _, ?_, fun i hi => absurd hi (Nat.not_lt_zero _)⟩, fun k k0 k1 => ?_, ?_⟩, ⟨fun j hj => absurd hj (Nat.not_lt_zero _), ?_⟩, ⟨gz 7 (by decide), g8⟩, ⟨?_, fun j hj => absurd hj (Nat.not_lt_zero _)⟩, ⟨?_, fun j hj => absurd hj (Nat.not_lt_zero _), fun q => absurd rfl q⟩, ?_, ?_⟩
  · rw [e0, e1, e2, e3, e4, e5, e6, e7, e8, e9]
    unfold q10m
    simp only [Nat.add_assoc, Nat.zero_add]
  · rw [gi]; funext k; rw [gI_sI, if_neg (by omega)]
  · rw [gj]; funext k; show u2 (gJ V) r 71 1 a k = _; unfold u2; rw [if_neg (by omega)]
  · exact b26.2.2 3 (by decide)
  · exact b26.2.2 4 (by decide)
  · exact b26.2.2 5 (by decide)
  · have p1' : p < 0 := p1
    omega
  · have p1' : p < 0 := p1
    omega
  · have p1' : p < 0 := p1
    omega
  · exact Or.inl ⟨rfl, b33.2.2 4 (by decide)⟩
  · exact Or.inl ⟨rfl, b33.2.2 5 (by decide)⟩
  · exact Or.inl ⟨rfl, b33.2.2 6 (by decide)⟩
  · exact Or.inl ⟨rfl, b33.2.2 7 (by decide)⟩
  · have p1' : p < 0 := p1
    omega
  · have p1' : p < 0 := p1
    omega
  · have x1' : a < 0 := x1
    omega
  · exact b36.2.2 0 (by decide)
  · have p1' : p < 0 := p1
    omega
  · have p1' : p < 0 := p1
    omega
  · exact b36.2.2 121 (by decide)
  · exact gz 69 (by decide)
  · rw [gz 70 (by decide)]; exact ⟨by decide, by decide⟩
  · exact b1.2.2 k.toNat (by omega)
  · exact Or.inr (Or.inl (gz 61 (by decide)))
  · exact gz 1 (by decide)
  · exact gz 108 (by decide)
  · rw [gz 72 (by decide)]; rfl
  · rw [gj]; exact gJ_sJe
  · intro k hk
    unfold isW at hk
    have hh : k = 3 ∨ k = 4 ∨ k = 5 ∨ k = 6 ∨ k = 7 ∨ k = 8 ∨ k = 9 ∨ k = 10 ∨ k = 11 ∨ k = 12 ∨ k = 13 ∨ k = 14 ∨ k = 15 ∨ k = 16 ∨ k = 17 ∨ k = 18 ∨ k = 19 ∨ k = 20 ∨ k = 21 ∨ k = 22 ∨ k = 23 ∨ k = 24 ∨ k = 25 ∨ k = 26 ∨ k = 46 ∨ k = 47 ∨ k = 48 ∨ k = 49 ∨ k = 50 ∨ k = 51 ∨ k = 52 ∨ k = 53 ∨ k = 54 ∨ k = 55 ∨ k = 56 ∨ k = 57 ∨ k = 58 ∨ k = 59 ∨ k = 60 ∨ k = 61 ∨ k = 62 ∨ k = 63 ∨ k = 64 ∨ k = 65 ∨ k = 66 ∨ k = 67 := by omega
    rcases hh with rfl | rfl | rfl | rfl | rfl | rfl | rfl | rfl | rfl | rfl | rfl | rfl | rfl | rfl | rfl | rfl | rfl | rfl | rfl | rfl | rfl | rfl | rfl | rfl | rfl | rfl | rfl | rfl | rfl | rfl | rfl | rfl | rfl | rfl | rfl | rfl | rfl | rfl | rfl | rfl | rfl | rfl | rfl | rfl | rfl | rfl
    · exact fun j hj => b2.2.2 j hj
    · exact fun j hj => b3.2.2 j hj
    · exact fun j hj => b4.2.2 j hj
    · exact fun j hj => b5.2.2 j hj
    · exact fun j hj => b6.2.2 j hj
    · exact fun j hj => b7.2.2 j hj
    · exact fun j hj => b8.2.2 j hj
    · exact fun j hj => b9.2.2 j hj
    · exact fun j hj => b10.2.2 j hj
    · exact fun j hj => b11.2.2 j hj
    · exact fun j hj => b12.2.2 j hj
    · exact fun j hj => b13.2.2 j hj
    · exact fun j hj => b14.2.2 j hj
    · exact fun j hj => b15.2.2 j hj
    · exact fun j hj => b16.2.2 j hj
    · exact fun j hj => b17.2.2 j hj
    · exact fun j hj => b18.2.2 j hj
    · exact fun j hj => b19.2.2 j hj
    · exact fun j hj => b20.2.2 j hj
    · exact fun j hj => b21.2.2 j hj
    · exact fun j hj => b22.2.2 j hj
    · exact fun j hj => b23.2.2 j hj
    · exact fun j hj => b24.2.2 j hj
    · exact fun j hj => b25.2.2 j hj
    · exact fun j hj => b45.2.2 j hj
    · exact fun j hj => b46.2.2 j hj
    · exact fun j hj => b47.2.2 j hj
    · exact fun j hj => b48.2.2 j hj
    · exact fun j hj => b49.2.2 j hj
    · exact fun j hj => b50.2.2 j hj
    · exact fun j hj => b51.2.2 j hj
    · exact fun j hj => b52.2.2 j hj
    · exact fun j hj => b53.2.2 j hj
    · exact fun j hj => b54.2.2 j hj
    · exact fun j hj => b55.2.2 j hj
    · exact fun j hj => b56.2.2 j hj
    · exact fun j hj => b57.2.2 j hj
    · exact fun j hj => b58.2.2 j hj
    · exact fun j hj => b59.2.2 j hj
    · exact fun j hj => b60.2.2 j hj
    · exact fun j hj => b61.2.2 j hj
    · exact fun j hj => b62.2.2 j hj
    · exact fun j hj => b63.2.2 j hj
    · exact fun j hj => b64.2.2 j hj
    · exact fun j hj => b65.2.2 j hj
    · exact fun j hj => b66.2.2 j hj
end

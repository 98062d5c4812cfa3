/-! made: the other side, its arrays -/
def ak (G : mG) (V : mV) (r k a : Nat) (x : Nat ⊕ (Nat × Nat)) (c : Nat → Int) (len : Nat) : Prop := G.2.1 r k = .ref a ∧ G.1 a = x ∧ ∀ j, j < len → gA V a j = c j
def gy (r n q : Nat) (G : mG) (V : mV) (G' : mG) (V' : mV) : Prop := (∀ a, a < n → G'.1 a = G.1 a) ∧ (∀ a j, a < n → (a ≠ r ∨ j < q) → G'.2.1 a j = G.2.1 a j) ∧ G'.2.2 = G.2.2 ∧ (∀ a, a < n → gA V' a = gA V a) ∧ ∀ a, a < n → gL V' a = gL V a
section
variable {G G' : mG} {V V' : mV} {r n k q z a len : Nat} {c : Nat → Int}
theorem gy_refl : gy r n q G V G V := ⟨fun _ _ => rfl, fun _ _ _ _ => rfl, rfl, fun _ _ => rfl, fun _ _ => rfl⟩
theorem gy.trans {n' q' : Nat} {G1 : mG} {V1 : mV} (h : gy r n q G V G' V') (g : gy r n' q' G' V' G1 V1) (hn : n ≤ n') (hq : q ≤ q') : gy r n q G V G1 V1 :=
  ⟨fun a ha => (g.1 a (by omega)).trans (h.1 a ha), fun a j ha w => (g.2.1 a j (by omega) (by omega)).trans (h.2.1 a j ha w), g.2.2.1.trans h.2.2.1, fun a ha => (g.2.2.2.1 a (by omega)).trans (h.2.2.2.1 a ha), fun a ha => (g.2.2.2.2 a (by omega)).trans (h.2.2.2.2 a ha)⟩
theorem gy.weak {n' q' : Nat} (h : gy r n q G V G' V') (hn : n' ≤ n) (hq : q' ≤ q) : gy r n' q' G V G' V' := gy_refl.trans h hn hq
theorem ak.up {x : Nat ⊕ (Nat × Nat)} (h : ak G V r k a x c len) (g : gy r n q G V G' V') (ha : a < n) (hr : r < n) (hk : k < q) : ak G' V' r k a x c len :=
  ⟨(g.2.1 r k hr (Or.inr hk)).trans h.1, (g.1 a ha).trans h.2.1, fun j hj => by rw [g.2.2.2.1 a ha]; exact h.2.2 j hj⟩
theorem st_c {x : Nat ⊕ (Nat × Nat)} {v : Value} (hr : r < a) (hc : G.1 r = .inl 10) : (sR (nw G a x) r k v).1 r = .inl 10 := by
  show (if r = a then _ else G.1 r) = _
  rw [if_neg (by omega)]; exact hc
theorem nw_c {x : Nat ⊕ (Nat × Nat)} (hr : r < a) (hc : G.1 r = .inl 10) : (nw G a x).1 r = .inl 10 := by
  show (if r = a then _ else G.1 r) = _
  rw [if_neg (by omega)]; exact hc
theorem nw_a {x : Nat ⊕ (Nat × Nat)} : (nw G a x).1 a = x := by
  show (if a = a then _ else _) = _
  rw [if_pos rfl]
theorem ak_new {x : Nat ⊕ (Nat × Nat)} (h : ∀ j, j < len → gA V' a j = c j) : ak (sR (nw G a x) r k (.ref a)) V' r k a x c len :=
  ⟨by show (if r = r ∧ k = k then _ else _) = _; rw [if_pos ⟨rfl, rfl⟩], nw_a, h⟩
theorem gy_new {x : Nat ⊕ (Nat × Nat)} (h : ∀ b, b ≠ a → gA V' b = gA V b) (h2 : ∀ b, b ≠ a → gL V' b = gL V b) : gy r a k G V (sR (nw G a x) r k (.ref a)) V' :=
  ⟨fun b hb => by show (if b = a then _ else G.1 b) = _; rw [if_neg (by omega)], fun b j hb w => by show (if b = r ∧ j = k then _ else G.2.1 b j) = _; rw [if_neg (by omega)], rfl, fun b hb => h b (by omega), fun b hb => h2 b (by omega)⟩
theorem zA_o {b : Nat} (h : b ≠ a) : gA (zA V a) b = gA V b := by
  funext j
  show (if b = a then 0 else V.2.2.1 b j) = _
  rw [if_neg h]; rfl
theorem zL_o {b : Nat} (h : b ≠ a) : gL (zL V a) b = gL V b := by
  funext j
  show (if b = a then 0 else V.2.2.2 b j) = _
  rw [if_neg h]; rfl
theorem zA_s {j : Nat} : gA (zA V a) a j = 0 := by
  show (if a = a then 0 else V.2.2.1 a j) = _
  rw [if_pos rfl]
theorem mk_init (hc : G.1 r = .inl 10) (hr : r < n) : ∃ G' V', F_X10_init r (n, z, G, V) = F_X10_init_J172 r (n + 7, z + 1600 + 6 + 6 + 4 + 4 + 4 + 4, G', V') ∧ G'.1 r = .inl 10 ∧ gy r n 0 G V G' V' ∧ gI V' = gI (sI V r 8 (-1)) ∧ gJ V' = gJ V ∧ ak G' V' r 0 n (.inr (0, 1600)) (fun _ => 0) 1600 ∧ ak G' V' r 9 (n + 1) (.inr (0, 6)) (fun _ => 0) 6 ∧ ak G' V' r 11 (n + 2) (.inr (1, 6)) (fun j => (wl.getD 0 []).getD j 0 + 96) 6 ∧ ak G' V' r 12 (n + 3) (.inr (1, 4)) (fun j => (wl.getD 1 []).getD j 0 + 96) 4 ∧ ak G' V' r 13 (n + 4) (.inr (1, 4)) (fun j => (wl.getD 2 []).getD j 0 + 96) 4 ∧ ak G' V' r 14 (n + 5) (.inr (1, 4)) (fun j => (wl.getD 3 []).getD j 0 + 96) 4 ∧ ak G' V' r 15 (n + 6) (.inr (1, 4)) (fun j => (wl.getD 4 []).getD j 0 + 96) 4 := by
  obtain ⟨G1, hG1⟩ : ∃ H, H = sR (nw G n (.inr (0, 1600))) r 0 (.ref n) := ⟨_, rfl⟩
  obtain ⟨V1, hV1⟩ : ∃ U, U = sI (zA V n) r 8 (-1) := ⟨_, rfl⟩
  have c1 : G1.1 r = .inl 10 := by rw [hG1]; exact st_c (by omega) hc
  have y1 : gy r n 0 G V G1 V1 := by
    rw [hG1, hV1]
    exact gy_new (fun b hb => (zA_o hb)) (fun _ _ => rfl)
  have a1 : ak G1 V1 r 0 n (.inr (0, 1600)) (fun _ => 0) 1600 := by
    rw [hG1, hV1]
    exact ak_new (fun j _ => zA_s)
  have vi1 : gI V1 = gI (sI V r 8 (-1)) := by rw [hV1]; rfl
  have vj1 : gJ V1 = gJ V := by rw [hV1]; rfl
  obtain ⟨G2, hG2⟩ : ∃ H, H = sR (nw G1 (n + 1) (.inr (0, 6))) r 9 (.ref (n + 1)) := ⟨_, rfl⟩
  obtain ⟨V2, hV2⟩ : ∃ U, U = zA V1 (n + 1) := ⟨_, rfl⟩
  have c2 : G2.1 r = .inl 10 := by rw [hG2]; exact st_c (by omega) c1
  have y2 : gy r (n + 1) 9 G1 V1 G2 V2 := by
    rw [hG2, hV2]
    exact gy_new (fun b hb => (zA_o hb)) (fun _ _ => rfl)
  have a2 : ak G2 V2 r 9 (n + 1) (.inr (0, 6)) (fun _ => 0) 6 := by
    rw [hG2, hV2]
    exact ak_new (fun j _ => zA_s)
  have vi2 : gI V2 = gI V1 := by rw [hV2]; rfl
  have vj2 : gJ V2 = gJ V1 := by rw [hV2]; rfl
  obtain ⟨G3, hG3⟩ : ∃ H, H = sR (nw G2 (n + 2) (.inr (1, 6))) r 11 (.ref (n + 2)) := ⟨_, rfl⟩
  obtain ⟨V3, hV3⟩ : ∃ U, U = sA (sA (sA (sA (sA (sA (zA V2 (n + 2)) (n + 2) 0 112) (n + 2) 1 101) (n + 2) 2 114) (n + 2) 3 115) (n + 2) 4 111) (n + 2) 5 110 := ⟨_, rfl⟩
  have c3 : G3.1 r = .inl 10 := by rw [hG3]; exact st_c (by omega) c2
  have y3 : gy r (n + 2) 11 G2 V2 G3 V3 := by
    rw [hG3, hV3]
    exact gy_new (fun b hb => ((gA_sAo hb).trans ((gA_sAo hb).trans ((gA_sAo hb).trans ((gA_sAo hb).trans ((gA_sAo hb).trans ((gA_sAo hb).trans (zA_o hb)))))))) (fun _ _ => rfl)
  have a3 : ak G3 V3 r 11 (n + 2) (.inr (1, 6)) (fun j => (wl.getD 0 []).getD j 0 + 96) 6 := by
    rw [hG3]
    refine ak_new (fun j hj => ?_)
    have hh : j = 0 ∨ j = 1 ∨ j = 2 ∨ j = 3 ∨ j = 4 ∨ j = 5 := by omega
    have h0 : gA V3 (n + 2) 0 = 112 := by rw [hV3]; simp [gA_sA]
    have h1 : gA V3 (n + 2) 1 = 101 := by rw [hV3]; simp [gA_sA]
    have h2 : gA V3 (n + 2) 2 = 114 := by rw [hV3]; simp [gA_sA]
    have h3 : gA V3 (n + 2) 3 = 115 := by rw [hV3]; simp [gA_sA]
    have h4 : gA V3 (n + 2) 4 = 111 := by rw [hV3]; simp [gA_sA]
    have h5 : gA V3 (n + 2) 5 = 110 := by rw [hV3]; simp [gA_sA]
    rcases hh with rfl | rfl | rfl | rfl | rfl | rfl
    · exact h0.trans (by decide)
    · exact h1.trans (by decide)
    · exact h2.trans (by decide)
    · exact h3.trans (by decide)
    · exact h4.trans (by decide)
    · exact h5.trans (by decide)
  have vi3 : gI V3 = gI V2 := by rw [hV3]; rfl
  have vj3 : gJ V3 = gJ V2 := by rw [hV3]; rfl
  obtain ⟨G4, hG4⟩ : ∃ H, H = sR (nw G3 (n + 3) (.inr (1, 4))) r 12 (.ref (n + 3)) := ⟨_, rfl⟩
  obtain ⟨V4, hV4⟩ : ∃ U, U = sA (sA (sA (sA (zA V3 (n + 3)) (n + 3) 0 119) (n + 3) 1 97) (n + 3) 2 114) (n + 3) 3 100 := ⟨_, rfl⟩
  have c4 : G4.1 r = .inl 10 := by rw [hG4]; exact st_c (by omega) c3
  have y4 : gy r (n + 3) 12 G3 V3 G4 V4 := by
    rw [hG4, hV4]
    exact gy_new (fun b hb => ((gA_sAo hb).trans ((gA_sAo hb).trans ((gA_sAo hb).trans ((gA_sAo hb).trans (zA_o hb)))))) (fun _ _ => rfl)
  have a4 : ak G4 V4 r 12 (n + 3) (.inr (1, 4)) (fun j => (wl.getD 1 []).getD j 0 + 96) 4 := by
    rw [hG4]
    refine ak_new (fun j hj => ?_)
    have hh : j = 0 ∨ j = 1 ∨ j = 2 ∨ j = 3 := by omega
    have h0 : gA V4 (n + 3) 0 = 119 := by rw [hV4]; simp [gA_sA]
    have h1 : gA V4 (n + 3) 1 = 97 := by rw [hV4]; simp [gA_sA]
    have h2 : gA V4 (n + 3) 2 = 114 := by rw [hV4]; simp [gA_sA]
    have h3 : gA V4 (n + 3) 3 = 100 := by rw [hV4]; simp [gA_sA]
    rcases hh with rfl | rfl | rfl | rfl
    · exact h0.trans (by decide)
    · exact h1.trans (by decide)
    · exact h2.trans (by decide)
    · exact h3.trans (by decide)
  have vi4 : gI V4 = gI V3 := by rw [hV4]; rfl
  have vj4 : gJ V4 = gJ V3 := by rw [hV4]; rfl
  obtain ⟨G5, hG5⟩ : ∃ H, H = sR (nw G4 (n + 4) (.inr (1, 4))) r 13 (.ref (n + 4)) := ⟨_, rfl⟩
  obtain ⟨V5, hV5⟩ : ∃ U, U = sA (sA (sA (sA (zA V4 (n + 4)) (n + 4) 0 116) (n + 4) 1 97) (n + 4) 2 115) (n + 4) 3 107 := ⟨_, rfl⟩
  have c5 : G5.1 r = .inl 10 := by rw [hG5]; exact st_c (by omega) c4
  have y5 : gy r (n + 4) 13 G4 V4 G5 V5 := by
    rw [hG5, hV5]
    exact gy_new (fun b hb => ((gA_sAo hb).trans ((gA_sAo hb).trans ((gA_sAo hb).trans ((gA_sAo hb).trans (zA_o hb)))))) (fun _ _ => rfl)
  have a5 : ak G5 V5 r 13 (n + 4) (.inr (1, 4)) (fun j => (wl.getD 2 []).getD j 0 + 96) 4 := by
    rw [hG5]
    refine ak_new (fun j hj => ?_)
    have hh : j = 0 ∨ j = 1 ∨ j = 2 ∨ j = 3 := by omega
    have h0 : gA V5 (n + 4) 0 = 116 := by rw [hV5]; simp [gA_sA]
    have h1 : gA V5 (n + 4) 1 = 97 := by rw [hV5]; simp [gA_sA]
    have h2 : gA V5 (n + 4) 2 = 115 := by rw [hV5]; simp [gA_sA]
    have h3 : gA V5 (n + 4) 3 = 107 := by rw [hV5]; simp [gA_sA]
    rcases hh with rfl | rfl | rfl | rfl
    · exact h0.trans (by decide)
    · exact h1.trans (by decide)
    · exact h2.trans (by decide)
    · exact h3.trans (by decide)
  have vi5 : gI V5 = gI V4 := by rw [hV5]; rfl
  have vj5 : gJ V5 = gJ V4 := by rw [hV5]; rfl
  obtain ⟨G6, hG6⟩ : ∃ H, H = sR (nw G5 (n + 5) (.inr (1, 4))) r 14 (.ref (n + 5)) := ⟨_, rfl⟩
  obtain ⟨V6, hV6⟩ : ∃ U, U = sA (sA (sA (sA (zA V5 (n + 5)) (n + 5) 0 104) (n + 5) 1 97) (n + 5) 2 114) (n + 5) 3 100 := ⟨_, rfl⟩
  have c6 : G6.1 r = .inl 10 := by rw [hG6]; exact st_c (by omega) c5
  have y6 : gy r (n + 5) 14 G5 V5 G6 V6 := by
    rw [hG6, hV6]
    exact gy_new (fun b hb => ((gA_sAo hb).trans ((gA_sAo hb).trans ((gA_sAo hb).trans ((gA_sAo hb).trans (zA_o hb)))))) (fun _ _ => rfl)
  have a6 : ak G6 V6 r 14 (n + 5) (.inr (1, 4)) (fun j => (wl.getD 3 []).getD j 0 + 96) 4 := by
    rw [hG6]
    refine ak_new (fun j hj => ?_)
    have hh : j = 0 ∨ j = 1 ∨ j = 2 ∨ j = 3 := by omega
    have h0 : gA V6 (n + 5) 0 = 104 := by rw [hV6]; simp [gA_sA]
    have h1 : gA V6 (n + 5) 1 = 97 := by rw [hV6]; simp [gA_sA]
    have h2 : gA V6 (n + 5) 2 = 114 := by rw [hV6]; simp [gA_sA]
    have h3 : gA V6 (n + 5) 3 = 100 := by rw [hV6]; simp [gA_sA]
    rcases hh with rfl | rfl | rfl | rfl
    · exact h0.trans (by decide)
    · exact h1.trans (by decide)
    · exact h2.trans (by decide)
    · exact h3.trans (by decide)
  have vi6 : gI V6 = gI V5 := by rw [hV6]; rfl
  have vj6 : gJ V6 = gJ V5 := by rw [hV6]; rfl
  obtain ⟨G7, hG7⟩ : ∃ H, H = sR (nw G6 (n + 6) (.inr (1, 4))) r 15 (.ref (n + 6)) := ⟨_, rfl⟩
  obtain ⟨V7, hV7⟩ : ∃ U, U = sA (sA (sA (sA (zA V6 (n + 6)) (n + 6) 0 100) (n + 6) 1 111) (n + 6) 2 101) (n + 6) 3 115 := ⟨_, rfl⟩
  have c7 : G7.1 r = .inl 10 := by rw [hG7]; exact st_c (by omega) c6
  have y7 : gy r (n + 6) 15 G6 V6 G7 V7 := by
    rw [hG7, hV7]
    exact gy_new (fun b hb => ((gA_sAo hb).trans ((gA_sAo hb).trans ((gA_sAo hb).trans ((gA_sAo hb).trans (zA_o hb)))))) (fun _ _ => rfl)
  have a7 : ak G7 V7 r 15 (n + 6) (.inr (1, 4)) (fun j => (wl.getD 4 []).getD j 0 + 96) 4 := by
    rw [hG7]
    refine ak_new (fun j hj => ?_)
    have hh : j = 0 ∨ j = 1 ∨ j = 2 ∨ j = 3 := by omega
    have h0 : gA V7 (n + 6) 0 = 100 := by rw [hV7]; simp [gA_sA]
    have h1 : gA V7 (n + 6) 1 = 111 := by rw [hV7]; simp [gA_sA]
    have h2 : gA V7 (n + 6) 2 = 101 := by rw [hV7]; simp [gA_sA]
    have h3 : gA V7 (n + 6) 3 = 115 := by rw [hV7]; simp [gA_sA]
    rcases hh with rfl | rfl | rfl | rfl
    · exact h0.trans (by decide)
    · exact h1.trans (by decide)
    · exact h2.trans (by decide)
    · exact h3.trans (by decide)
  have vi7 : gI V7 = gI V6 := by rw [hV7]; rfl
  have vj7 : gJ V7 = gJ V6 := by rw [hV7]; rfl
  have T7 : gy r (n + 7) 16 G7 V7 G7 V7 := gy_refl
  have T6 : gy r (n + 6) 15 G6 V6 G7 V7 := (y7.trans T7 (by omega) (by decide)).weak (by omega) (by decide)
  have T5 : gy r (n + 5) 14 G5 V5 G7 V7 := (y6.trans T6 (by omega) (by decide)).weak (by omega) (by decide)
  have T4 : gy r (n + 4) 13 G4 V4 G7 V7 := (y5.trans T5 (by omega) (by decide)).weak (by omega) (by decide)
  have T3 : gy r (n + 3) 12 G3 V3 G7 V7 := (y4.trans T4 (by omega) (by decide)).weak (by omega) (by decide)
  have T2 : gy r (n + 2) 10 G2 V2 G7 V7 := (y3.trans T3 (by omega) (by decide)).weak (by omega) (by decide)
  have T1 : gy r (n + 1) 1 G1 V1 G7 V7 := (y2.trans T2 (by omega) (by decide)).weak (by omega) (by decide)
  have hI : gI V7 = gI (sI V r 8 (-1)) := by rw [vi7, vi6, vi5, vi4, vi3, vi2, vi1]
  have hJ : gJ V7 = gJ V := by rw [vj7, vj6, vj5, vj4, vj3, vj2, vj1]
  refine ⟨G7, V7, ?_, c7, (y1.trans T1 (by omega) (by decide)).weak (by omega) (by decide), hI, hJ, a1.up T1 (by omega) (by omega) (by decide), a2.up T2 (by omega) (by omega) (by decide), a3.up T3 (by omega) (by omega) (by decide), a4.up T4 (by omega) (by omega) (by decide), a5.up T5 (by omega) (by omega) (by decide), a6.up T6 (by omega) (by omega) (by decide), a7.up T7 (by omega) (by omega) (by decide)⟩
  unfold F_X10_init
  refine E_gd hc ?_
  dsimp only
  refine E_lt (E_lt (E_gd ⟨nw_c (by omega) hc, nw_a⟩ (E_lt (E_lt (?_)))))
  rw [← hG1, ← hV1]
  refine E_lt (E_lt (E_gd ⟨nw_c (by omega) c1, nw_a⟩ (E_lt (?_))))
  rw [← hG2, ← hV2]
  refine E_lt (E_lt (E_gd ⟨nw_c (by omega) c2, nw_a⟩ (E_lt (E_lt (E_lt (E_lt (E_lt (E_lt (E_lt (?_))))))))))
  rw [← hG3, ← hV3]
  refine E_lt (E_lt (E_gd ⟨nw_c (by omega) c3, nw_a⟩ (E_lt (E_lt (E_lt (E_lt (E_lt (?_))))))))
  rw [← hG4, ← hV4]
  refine E_lt (E_lt (E_gd ⟨nw_c (by omega) c4, nw_a⟩ (E_lt (E_lt (E_lt (E_lt (E_lt (?_))))))))
  rw [← hG5, ← hV5]
  refine E_lt (E_lt (E_gd ⟨nw_c (by omega) c5, nw_a⟩ (E_lt (E_lt (E_lt (E_lt (E_lt (?_))))))))
  rw [← hG6, ← hV6]
  refine E_lt (E_lt (E_gd ⟨nw_c (by omega) c6, nw_a⟩ (E_lt (E_lt (E_lt (E_lt (E_lt (?_))))))))
  rw [← hG7, ← hV7]
theorem mk_init_J172 (hc : G.1 r = .inl 10) (hr : r < n) : ∃ G' V', F_X10_init_J172 r (n, z, G, V) = F_X10_init_J351 r (n + 6, z + 2 + 6 + 5 + 5 + 6 + 3, G', V') ∧ G'.1 r = .inl 10 ∧ gy r n 16 G V G' V' ∧ gI V' = gI V ∧ gJ V' = gJ V ∧ ak G' V' r 16 n (.inr (1, 2)) (fun j => (wl.getD 5 []).getD j 0 + 96) 2 ∧ ak G' V' r 17 (n + 1) (.inr (1, 6)) (fun j => (wl.getD 6 []).getD j 0 + 96) 6 ∧ ak G' V' r 18 (n + 2) (.inr (1, 5)) (fun j => (wl.getD 7 []).getD j 0 + 96) 5 ∧ ak G' V' r 19 (n + 3) (.inr (1, 5)) (fun j => (wl.getD 8 []).getD j 0 + 96) 5 ∧ ak G' V' r 20 (n + 4) (.inr (1, 6)) (fun j => (wl.getD 9 []).getD j 0 + 96) 6 ∧ ak G' V' r 21 (n + 5) (.inr (1, 3)) (fun j => (wl.getD 10 []).getD j 0 + 96) 3 := by
  obtain ⟨G1, hG1⟩ : ∃ H, H = sR (nw G n (.inr (1, 2))) r 16 (.ref n) := ⟨_, rfl⟩
  obtain ⟨V1, hV1⟩ : ∃ U, U = sA (sA (zA V n) n 0 97) n 1 116 := ⟨_, rfl⟩
  have c1 : G1.1 r = .inl 10 := by rw [hG1]; exact st_c (by omega) hc
  have y1 : gy r n 16 G V G1 V1 := by
    rw [hG1, hV1]
    exact gy_new (fun b hb => ((gA_sAo hb).trans ((gA_sAo hb).trans (zA_o hb)))) (fun _ _ => rfl)
  have a1 : ak G1 V1 r 16 n (.inr (1, 2)) (fun j => (wl.getD 5 []).getD j 0 + 96) 2 := by
    rw [hG1]
    refine ak_new (fun j hj => ?_)
    have hh : j = 0 ∨ j = 1 := by omega
    have h0 : gA V1 n 0 = 97 := by rw [hV1]; simp [gA_sA]
    have h1 : gA V1 n 1 = 116 := by rw [hV1]; simp [gA_sA]
    rcases hh with rfl | rfl
    · exact h0.trans (by decide)
    · exact h1.trans (by decide)
  have vi1 : gI V1 = gI V := by rw [hV1]; rfl
  have vj1 : gJ V1 = gJ V := by rw [hV1]; rfl
  obtain ⟨G2, hG2⟩ : ∃ H, H = sR (nw G1 (n + 1) (.inr (1, 6))) r 17 (.ref (n + 1)) := ⟨_, rfl⟩
  obtain ⟨V2, hV2⟩ : ∃ U, U = sA (sA (sA (sA (sA (sA (zA V1 (n + 1)) (n + 1) 0 99) (n + 1) 1 111) (n + 1) 2 118) (n + 1) 3 101) (n + 1) 4 114) (n + 1) 5 115 := ⟨_, rfl⟩
  have c2 : G2.1 r = .inl 10 := by rw [hG2]; exact st_c (by omega) c1
  have y2 : gy r (n + 1) 17 G1 V1 G2 V2 := by
    rw [hG2, hV2]
    exact gy_new (fun b hb => ((gA_sAo hb).trans ((gA_sAo hb).trans ((gA_sAo hb).trans ((gA_sAo hb).trans ((gA_sAo hb).trans ((gA_sAo hb).trans (zA_o hb)))))))) (fun _ _ => rfl)
  have a2 : ak G2 V2 r 17 (n + 1) (.inr (1, 6)) (fun j => (wl.getD 6 []).getD j 0 + 96) 6 := by
    rw [hG2]
    refine ak_new (fun j hj => ?_)
    have hh : j = 0 ∨ j = 1 ∨ j = 2 ∨ j = 3 ∨ j = 4 ∨ j = 5 := by omega
    have h0 : gA V2 (n + 1) 0 = 99 := by rw [hV2]; simp [gA_sA]
    have h1 : gA V2 (n + 1) 1 = 111 := by rw [hV2]; simp [gA_sA]
    have h2 : gA V2 (n + 1) 2 = 118 := by rw [hV2]; simp [gA_sA]
    have h3 : gA V2 (n + 1) 3 = 101 := by rw [hV2]; simp [gA_sA]
    have h4 : gA V2 (n + 1) 4 = 114 := by rw [hV2]; simp [gA_sA]
    have h5 : gA V2 (n + 1) 5 = 115 := by rw [hV2]; simp [gA_sA]
    rcases hh with rfl | rfl | rfl | rfl | rfl | rfl
    · exact h0.trans (by decide)
    · exact h1.trans (by decide)
    · exact h2.trans (by decide)
    · exact h3.trans (by decide)
    · exact h4.trans (by decide)
    · exact h5.trans (by decide)
  have vi2 : gI V2 = gI V1 := by rw [hV2]; rfl
  have vj2 : gJ V2 = gJ V1 := by rw [hV2]; rfl
  obtain ⟨G3, hG3⟩ : ∃ H, H = sR (nw G2 (n + 2) (.inr (1, 5))) r 18 (.ref (n + 2)) := ⟨_, rfl⟩
  obtain ⟨V3, hV3⟩ : ∃ U, U = sA (sA (sA (sA (sA (zA V2 (n + 2)) (n + 2) 0 107) (n + 2) 1 110) (n + 2) 2 111) (n + 2) 3 119) (n + 2) 4 115 := ⟨_, rfl⟩
  have c3 : G3.1 r = .inl 10 := by rw [hG3]; exact st_c (by omega) c2
  have y3 : gy r (n + 2) 18 G2 V2 G3 V3 := by
    rw [hG3, hV3]
    exact gy_new (fun b hb => ((gA_sAo hb).trans ((gA_sAo hb).trans ((gA_sAo hb).trans ((gA_sAo hb).trans ((gA_sAo hb).trans (zA_o hb))))))) (fun _ _ => rfl)
  have a3 : ak G3 V3 r 18 (n + 2) (.inr (1, 5)) (fun j => (wl.getD 7 []).getD j 0 + 96) 5 := by
    rw [hG3]
    refine ak_new (fun j hj => ?_)
    have hh : j = 0 ∨ j = 1 ∨ j = 2 ∨ j = 3 ∨ j = 4 := by omega
    have h0 : gA V3 (n + 2) 0 = 107 := by rw [hV3]; simp [gA_sA]
    have h1 : gA V3 (n + 2) 1 = 110 := by rw [hV3]; simp [gA_sA]
    have h2 : gA V3 (n + 2) 2 = 111 := by rw [hV3]; simp [gA_sA]
    have h3 : gA V3 (n + 2) 3 = 119 := by rw [hV3]; simp [gA_sA]
    have h4 : gA V3 (n + 2) 4 = 115 := by rw [hV3]; simp [gA_sA]
    rcases hh with rfl | rfl | rfl | rfl | rfl
    · exact h0.trans (by decide)
    · exact h1.trans (by decide)
    · exact h2.trans (by decide)
    · exact h3.trans (by decide)
    · exact h4.trans (by decide)
  have vi3 : gI V3 = gI V2 := by rw [hV3]; rfl
  have vj3 : gJ V3 = gJ V2 := by rw [hV3]; rfl
  obtain ⟨G4, hG4⟩ : ∃ H, H = sR (nw G3 (n + 3) (.inr (1, 5))) r 19 (.ref (n + 3)) := ⟨_, rfl⟩
  obtain ⟨V4, hV4⟩ : ∃ U, U = sA (sA (sA (sA (sA (zA V3 (n + 3)) (n + 3) 0 108) (n + 3) 1 101) (n + 3) 2 97) (n + 3) 3 114) (n + 3) 4 110 := ⟨_, rfl⟩
  have c4 : G4.1 r = .inl 10 := by rw [hG4]; exact st_c (by omega) c3
  have y4 : gy r (n + 3) 19 G3 V3 G4 V4 := by
    rw [hG4, hV4]
    exact gy_new (fun b hb => ((gA_sAo hb).trans ((gA_sAo hb).trans ((gA_sAo hb).trans ((gA_sAo hb).trans ((gA_sAo hb).trans (zA_o hb))))))) (fun _ _ => rfl)
  have a4 : ak G4 V4 r 19 (n + 3) (.inr (1, 5)) (fun j => (wl.getD 8 []).getD j 0 + 96) 5 := by
    rw [hG4]
    refine ak_new (fun j hj => ?_)
    have hh : j = 0 ∨ j = 1 ∨ j = 2 ∨ j = 3 ∨ j = 4 := by omega
    have h0 : gA V4 (n + 3) 0 = 108 := by rw [hV4]; simp [gA_sA]
    have h1 : gA V4 (n + 3) 1 = 101 := by rw [hV4]; simp [gA_sA]
    have h2 : gA V4 (n + 3) 2 = 97 := by rw [hV4]; simp [gA_sA]
    have h3 : gA V4 (n + 3) 3 = 114 := by rw [hV4]; simp [gA_sA]
    have h4 : gA V4 (n + 3) 4 = 110 := by rw [hV4]; simp [gA_sA]
    rcases hh with rfl | rfl | rfl | rfl | rfl
    · exact h0.trans (by decide)
    · exact h1.trans (by decide)
    · exact h2.trans (by decide)
    · exact h3.trans (by decide)
    · exact h4.trans (by decide)
  have vi4 : gI V4 = gI V3 := by rw [hV4]; rfl
  have vj4 : gJ V4 = gJ V3 := by rw [hV4]; rfl
  obtain ⟨G5, hG5⟩ : ∃ H, H = sR (nw G4 (n + 4) (.inr (1, 6))) r 20 (.ref (n + 4)) := ⟨_, rfl⟩
  obtain ⟨V5, hV5⟩ : ∃ U, U = sA (sA (sA (sA (sA (sA (zA V4 (n + 4)) (n + 4) 0 102) (n + 4) 1 111) (n + 4) 2 114) (n + 4) 3 103) (n + 4) 4 101) (n + 4) 5 116 := ⟨_, rfl⟩
  have c5 : G5.1 r = .inl 10 := by rw [hG5]; exact st_c (by omega) c4
  have y5 : gy r (n + 4) 20 G4 V4 G5 V5 := by
    rw [hG5, hV5]
    exact gy_new (fun b hb => ((gA_sAo hb).trans ((gA_sAo hb).trans ((gA_sAo hb).trans ((gA_sAo hb).trans ((gA_sAo hb).trans ((gA_sAo hb).trans (zA_o hb)))))))) (fun _ _ => rfl)
  have a5 : ak G5 V5 r 20 (n + 4) (.inr (1, 6)) (fun j => (wl.getD 9 []).getD j 0 + 96) 6 := by
    rw [hG5]
    refine ak_new (fun j hj => ?_)
    have hh : j = 0 ∨ j = 1 ∨ j = 2 ∨ j = 3 ∨ j = 4 ∨ j = 5 := by omega
    have h0 : gA V5 (n + 4) 0 = 102 := by rw [hV5]; simp [gA_sA]
    have h1 : gA V5 (n + 4) 1 = 111 := by rw [hV5]; simp [gA_sA]
    have h2 : gA V5 (n + 4) 2 = 114 := by rw [hV5]; simp [gA_sA]
    have h3 : gA V5 (n + 4) 3 = 103 := by rw [hV5]; simp [gA_sA]
    have h4 : gA V5 (n + 4) 4 = 101 := by rw [hV5]; simp [gA_sA]
    have h5 : gA V5 (n + 4) 5 = 116 := by rw [hV5]; simp [gA_sA]
    rcases hh with rfl | rfl | rfl | rfl | rfl | rfl
    · exact h0.trans (by decide)
    · exact h1.trans (by decide)
    · exact h2.trans (by decide)
    · exact h3.trans (by decide)
    · exact h4.trans (by decide)
    · exact h5.trans (by decide)
  have vi5 : gI V5 = gI V4 := by rw [hV5]; rfl
  have vj5 : gJ V5 = gJ V4 := by rw [hV5]; rfl
  obtain ⟨G6, hG6⟩ : ∃ H, H = sR (nw G5 (n + 5) (.inr (1, 3))) r 21 (.ref (n + 5)) := ⟨_, rfl⟩
  obtain ⟨V6, hV6⟩ : ∃ U, U = sA (sA (sA (zA V5 (n + 5)) (n + 5) 0 99) (n + 5) 1 97) (n + 5) 2 110 := ⟨_, rfl⟩
  have c6 : G6.1 r = .inl 10 := by rw [hG6]; exact st_c (by omega) c5
  have y6 : gy r (n + 5) 21 G5 V5 G6 V6 := by
    rw [hG6, hV6]
    exact gy_new (fun b hb => ((gA_sAo hb).trans ((gA_sAo hb).trans ((gA_sAo hb).trans (zA_o hb))))) (fun _ _ => rfl)
  have a6 : ak G6 V6 r 21 (n + 5) (.inr (1, 3)) (fun j => (wl.getD 10 []).getD j 0 + 96) 3 := by
    rw [hG6]
    refine ak_new (fun j hj => ?_)
    have hh : j = 0 ∨ j = 1 ∨ j = 2 := by omega
    have h0 : gA V6 (n + 5) 0 = 99 := by rw [hV6]; simp [gA_sA]
    have h1 : gA V6 (n + 5) 1 = 97 := by rw [hV6]; simp [gA_sA]
    have h2 : gA V6 (n + 5) 2 = 110 := by rw [hV6]; simp [gA_sA]
    rcases hh with rfl | rfl | rfl
    · exact h0.trans (by decide)
    · exact h1.trans (by decide)
    · exact h2.trans (by decide)
  have vi6 : gI V6 = gI V5 := by rw [hV6]; rfl
  have vj6 : gJ V6 = gJ V5 := by rw [hV6]; rfl
  have T6 : gy r (n + 6) 22 G6 V6 G6 V6 := gy_refl
  have T5 : gy r (n + 5) 21 G5 V5 G6 V6 := (y6.trans T6 (by omega) (by decide)).weak (by omega) (by decide)
  have T4 : gy r (n + 4) 20 G4 V4 G6 V6 := (y5.trans T5 (by omega) (by decide)).weak (by omega) (by decide)
  have T3 : gy r (n + 3) 19 G3 V3 G6 V6 := (y4.trans T4 (by omega) (by decide)).weak (by omega) (by decide)
  have T2 : gy r (n + 2) 18 G2 V2 G6 V6 := (y3.trans T3 (by omega) (by decide)).weak (by omega) (by decide)
  have T1 : gy r (n + 1) 17 G1 V1 G6 V6 := (y2.trans T2 (by omega) (by decide)).weak (by omega) (by decide)
  have hI : gI V6 = gI V := by rw [vi6, vi5, vi4, vi3, vi2, vi1]
  have hJ : gJ V6 = gJ V := by rw [vj6, vj5, vj4, vj3, vj2, vj1]
  refine ⟨G6, V6, ?_, c6, (y1.trans T1 (by omega) (by decide)).weak (by omega) (by decide), hI, hJ, a1.up T1 (by omega) (by omega) (by decide), a2.up T2 (by omega) (by omega) (by decide), a3.up T3 (by omega) (by omega) (by decide), a4.up T4 (by omega) (by omega) (by decide), a5.up T5 (by omega) (by omega) (by decide), a6.up T6 (by omega) (by omega) (by decide)⟩
  unfold F_X10_init_J172
  refine E_gd hc ?_
  dsimp only
  refine E_lt (E_lt (E_gd ⟨nw_c (by omega) hc, nw_a⟩ (E_lt (E_lt (E_lt (?_))))))
  rw [← hG1, ← hV1]
  refine E_lt (E_lt (E_gd ⟨nw_c (by omega) c1, nw_a⟩ (E_lt (E_lt (E_lt (E_lt (E_lt (E_lt (E_lt (?_))))))))))
  rw [← hG2, ← hV2]
  refine E_lt (E_lt (E_gd ⟨nw_c (by omega) c2, nw_a⟩ (E_lt (E_lt (E_lt (E_lt (E_lt (E_lt (?_)))))))))
  rw [← hG3, ← hV3]
  refine E_lt (E_lt (E_gd ⟨nw_c (by omega) c3, nw_a⟩ (E_lt (E_lt (E_lt (E_lt (E_lt (E_lt (?_)))))))))
  rw [← hG4, ← hV4]
  refine E_lt (E_lt (E_gd ⟨nw_c (by omega) c4, nw_a⟩ (E_lt (E_lt (E_lt (E_lt (E_lt (E_lt (E_lt (?_))))))))))
  rw [← hG5, ← hV5]
  refine E_lt (E_lt (E_gd ⟨nw_c (by omega) c5, nw_a⟩ (E_lt (E_lt (E_lt (E_lt (?_)))))))
  rw [← hG6, ← hV6]
theorem mk_init_J351 (hc : G.1 r = .inl 10) (hr : r < n) : ∃ G' V', F_X10_init_J351 r (n, z, G, V) = F_X10_init_J530 r (n + 6, z + 6 + 5 + 3 + 6 + 4 + 3, G', V') ∧ G'.1 r = .inl 10 ∧ gy r n 22 G V G' V' ∧ gI V' = gI V ∧ gJ V' = gJ V ∧ ak G' V' r 22 n (.inr (1, 6)) (fun j => (wl.getD 11 []).getD j 0 + 96) 6 ∧ ak G' V' r 23 (n + 1) (.inr (1, 5)) (fun j => (wl.getD 12 []).getD j 0 + 96) 5 ∧ ak G' V' r 24 (n + 2) (.inr (1, 3)) (fun j => (wl.getD 13 []).getD j 0 + 96) 3 ∧ ak G' V' r 25 (n + 3) (.inr (1, 6)) (fun j => (wl.getD 14 []).getD j 0 + 96) 6 ∧ ak G' V' r 26 (n + 4) (.inr (1, 4)) (fun j => (wl.getD 15 []).getD j 0 + 96) 4 ∧ ak G' V' r 27 (n + 5) (.inr (1, 3)) (fun j => (wl.getD 16 []).getD j 0 + 96) 3 := by
  obtain ⟨G1, hG1⟩ : ∃ H, H = sR (nw G n (.inr (1, 6))) r 22 (.ref n) := ⟨_, rfl⟩
  obtain ⟨V1, hV1⟩ : ∃ U, U = sA (sA (sA (sA (sA (sA (zA V n) n 0 110) n 1 111) n 2 116) n 3 105) n 4 99) n 5 101 := ⟨_, rfl⟩
  have c1 : G1.1 r = .inl 10 := by rw [hG1]; exact st_c (by omega) hc
  have y1 : gy r n 22 G V G1 V1 := by
    rw [hG1, hV1]
    exact gy_new (fun b hb => ((gA_sAo hb).trans ((gA_sAo hb).trans ((gA_sAo hb).trans ((gA_sAo hb).trans ((gA_sAo hb).trans ((gA_sAo hb).trans (zA_o hb)))))))) (fun _ _ => rfl)
  have a1 : ak G1 V1 r 22 n (.inr (1, 6)) (fun j => (wl.getD 11 []).getD j 0 + 96) 6 := by
    rw [hG1]
    refine ak_new (fun j hj => ?_)
    have hh : j = 0 ∨ j = 1 ∨ j = 2 ∨ j = 3 ∨ j = 4 ∨ j = 5 := by omega
    have h0 : gA V1 n 0 = 110 := by rw [hV1]; simp [gA_sA]
    have h1 : gA V1 n 1 = 111 := by rw [hV1]; simp [gA_sA]
    have h2 : gA V1 n 2 = 116 := by rw [hV1]; simp [gA_sA]
    have h3 : gA V1 n 3 = 105 := by rw [hV1]; simp [gA_sA]
    have h4 : gA V1 n 4 = 99 := by rw [hV1]; simp [gA_sA]
    have h5 : gA V1 n 5 = 101 := by rw [hV1]; simp [gA_sA]
    rcases hh with rfl | rfl | rfl | rfl | rfl | rfl
    · exact h0.trans (by decide)
    · exact h1.trans (by decide)
    · exact h2.trans (by decide)
    · exact h3.trans (by decide)
    · exact h4.trans (by decide)
    · exact h5.trans (by decide)
  have vi1 : gI V1 = gI V := by rw [hV1]; rfl
  have vj1 : gJ V1 = gJ V := by rw [hV1]; rfl
  obtain ⟨G2, hG2⟩ : ∃ H, H = sR (nw G1 (n + 1) (.inr (1, 5))) r 23 (.ref (n + 1)) := ⟨_, rfl⟩
  obtain ⟨V2, hV2⟩ : ∃ U, U = sA (sA (sA (sA (sA (zA V1 (n + 1)) (n + 1) 0 99) (n + 1) 1 108) (n + 1) 2 111) (n + 1) 3 99) (n + 1) 4 107 := ⟨_, rfl⟩
  have c2 : G2.1 r = .inl 10 := by rw [hG2]; exact st_c (by omega) c1
  have y2 : gy r (n + 1) 23 G1 V1 G2 V2 := by
    rw [hG2, hV2]
    exact gy_new (fun b hb => ((gA_sAo hb).trans ((gA_sAo hb).trans ((gA_sAo hb).trans ((gA_sAo hb).trans ((gA_sAo hb).trans (zA_o hb))))))) (fun _ _ => rfl)
  have a2 : ak G2 V2 r 23 (n + 1) (.inr (1, 5)) (fun j => (wl.getD 12 []).getD j 0 + 96) 5 := by
    rw [hG2]
    refine ak_new (fun j hj => ?_)
    have hh : j = 0 ∨ j = 1 ∨ j = 2 ∨ j = 3 ∨ j = 4 := by omega
    have h0 : gA V2 (n + 1) 0 = 99 := by rw [hV2]; simp [gA_sA]
    have h1 : gA V2 (n + 1) 1 = 108 := by rw [hV2]; simp [gA_sA]
    have h2 : gA V2 (n + 1) 2 = 111 := by rw [hV2]; simp [gA_sA]
    have h3 : gA V2 (n + 1) 3 = 99 := by rw [hV2]; simp [gA_sA]
    have h4 : gA V2 (n + 1) 4 = 107 := by rw [hV2]; simp [gA_sA]
    rcases hh with rfl | rfl | rfl | rfl | rfl
    · exact h0.trans (by decide)
    · exact h1.trans (by decide)
    · exact h2.trans (by decide)
    · exact h3.trans (by decide)
    · exact h4.trans (by decide)
  have vi2 : gI V2 = gI V1 := by rw [hV2]; rfl
  have vj2 : gJ V2 = gJ V1 := by rw [hV2]; rfl
  obtain ⟨G3, hG3⟩ : ∃ H, H = sR (nw G2 (n + 2) (.inr (1, 3))) r 24 (.ref (n + 2)) := ⟨_, rfl⟩
  obtain ⟨V3, hV3⟩ : ∃ U, U = sA (sA (sA (zA V2 (n + 2)) (n + 2) 0 100) (n + 2) 1 97) (n + 2) 2 121 := ⟨_, rfl⟩
  have c3 : G3.1 r = .inl 10 := by rw [hG3]; exact st_c (by omega) c2
  have y3 : gy r (n + 2) 24 G2 V2 G3 V3 := by
    rw [hG3, hV3]
    exact gy_new (fun b hb => ((gA_sAo hb).trans ((gA_sAo hb).trans ((gA_sAo hb).trans (zA_o hb))))) (fun _ _ => rfl)
  have a3 : ak G3 V3 r 24 (n + 2) (.inr (1, 3)) (fun j => (wl.getD 13 []).getD j 0 + 96) 3 := by
    rw [hG3]
    refine ak_new (fun j hj => ?_)
    have hh : j = 0 ∨ j = 1 ∨ j = 2 := by omega
    have h0 : gA V3 (n + 2) 0 = 100 := by rw [hV3]; simp [gA_sA]
    have h1 : gA V3 (n + 2) 1 = 97 := by rw [hV3]; simp [gA_sA]
    have h2 : gA V3 (n + 2) 2 = 121 := by rw [hV3]; simp [gA_sA]
    rcases hh with rfl | rfl | rfl
    · exact h0.trans (by decide)
    · exact h1.trans (by decide)
    · exact h2.trans (by decide)
  have vi3 : gI V3 = gI V2 := by rw [hV3]; rfl
  have vj3 : gJ V3 = gJ V2 := by rw [hV3]; rfl
  obtain ⟨G4, hG4⟩ : ∃ H, H = sR (nw G3 (n + 3) (.inr (1, 6))) r 25 (.ref (n + 3)) := ⟨_, rfl⟩
  obtain ⟨V4, hV4⟩ : ∃ U, U = sA (sA (sA (sA (sA (sA (zA V3 (n + 3)) (n + 3) 0 112) (n + 3) 1 111) (n + 3) 2 105) (n + 3) 3 110) (n + 3) 4 116) (n + 3) 5 115 := ⟨_, rfl⟩
  have c4 : G4.1 r = .inl 10 := by rw [hG4]; exact st_c (by omega) c3
  have y4 : gy r (n + 3) 25 G3 V3 G4 V4 := by
    rw [hG4, hV4]
    exact gy_new (fun b hb => ((gA_sAo hb).trans ((gA_sAo hb).trans ((gA_sAo hb).trans ((gA_sAo hb).trans ((gA_sAo hb).trans ((gA_sAo hb).trans (zA_o hb)))))))) (fun _ _ => rfl)
  have a4 : ak G4 V4 r 25 (n + 3) (.inr (1, 6)) (fun j => (wl.getD 14 []).getD j 0 + 96) 6 := by
    rw [hG4]
    refine ak_new (fun j hj => ?_)
    have hh : j = 0 ∨ j = 1 ∨ j = 2 ∨ j = 3 ∨ j = 4 ∨ j = 5 := by omega
    have h0 : gA V4 (n + 3) 0 = 112 := by rw [hV4]; simp [gA_sA]
    have h1 : gA V4 (n + 3) 1 = 111 := by rw [hV4]; simp [gA_sA]
    have h2 : gA V4 (n + 3) 2 = 105 := by rw [hV4]; simp [gA_sA]
    have h3 : gA V4 (n + 3) 3 = 110 := by rw [hV4]; simp [gA_sA]
    have h4 : gA V4 (n + 3) 4 = 116 := by rw [hV4]; simp [gA_sA]
    have h5 : gA V4 (n + 3) 5 = 115 := by rw [hV4]; simp [gA_sA]
    rcases hh with rfl | rfl | rfl | rfl | rfl | rfl
    · exact h0.trans (by decide)
    · exact h1.trans (by decide)
    · exact h2.trans (by decide)
    · exact h3.trans (by decide)
    · exact h4.trans (by decide)
    · exact h5.trans (by decide)
  have vi4 : gI V4 = gI V3 := by rw [hV4]; rfl
  have vj4 : gJ V4 = gJ V3 := by rw [hV4]; rfl
  obtain ⟨G5, hG5⟩ : ∃ H, H = sR (nw G4 (n + 4) (.inr (1, 4))) r 26 (.ref (n + 4)) := ⟨_, rfl⟩
  obtain ⟨V5, hV5⟩ : ∃ U, U = sA (sA (sA (sA (zA V4 (n + 4)) (n + 4) 0 115) (n + 4) 1 97) (n + 4) 2 109) (n + 4) 3 101 := ⟨_, rfl⟩
  have c5 : G5.1 r = .inl 10 := by rw [hG5]; exact st_c (by omega) c4
  have y5 : gy r (n + 4) 26 G4 V4 G5 V5 := by
    rw [hG5, hV5]
    exact gy_new (fun b hb => ((gA_sAo hb).trans ((gA_sAo hb).trans ((gA_sAo hb).trans ((gA_sAo hb).trans (zA_o hb)))))) (fun _ _ => rfl)
  have a5 : ak G5 V5 r 26 (n + 4) (.inr (1, 4)) (fun j => (wl.getD 15 []).getD j 0 + 96) 4 := by
    rw [hG5]
    refine ak_new (fun j hj => ?_)
    have hh : j = 0 ∨ j = 1 ∨ j = 2 ∨ j = 3 := by omega
    have h0 : gA V5 (n + 4) 0 = 115 := by rw [hV5]; simp [gA_sA]
    have h1 : gA V5 (n + 4) 1 = 97 := by rw [hV5]; simp [gA_sA]
    have h2 : gA V5 (n + 4) 2 = 109 := by rw [hV5]; simp [gA_sA]
    have h3 : gA V5 (n + 4) 3 = 101 := by rw [hV5]; simp [gA_sA]
    rcases hh with rfl | rfl | rfl | rfl
    · exact h0.trans (by decide)
    · exact h1.trans (by decide)
    · exact h2.trans (by decide)
    · exact h3.trans (by decide)
  have vi5 : gI V5 = gI V4 := by rw [hV5]; rfl
  have vj5 : gJ V5 = gJ V4 := by rw [hV5]; rfl
  obtain ⟨G6, hG6⟩ : ∃ H, H = sR (nw G5 (n + 5) (.inr (1, 3))) r 27 (.ref (n + 5)) := ⟨_, rfl⟩
  obtain ⟨V6, hV6⟩ : ∃ U, U = sA (sA (sA (zA V5 (n + 5)) (n + 5) 0 111) (n + 5) 1 119) (n + 5) 2 110 := ⟨_, rfl⟩
  have c6 : G6.1 r = .inl 10 := by rw [hG6]; exact st_c (by omega) c5
  have y6 : gy r (n + 5) 27 G5 V5 G6 V6 := by
    rw [hG6, hV6]
    exact gy_new (fun b hb => ((gA_sAo hb).trans ((gA_sAo hb).trans ((gA_sAo hb).trans (zA_o hb))))) (fun _ _ => rfl)
  have a6 : ak G6 V6 r 27 (n + 5) (.inr (1, 3)) (fun j => (wl.getD 16 []).getD j 0 + 96) 3 := by
    rw [hG6]
    refine ak_new (fun j hj => ?_)
    have hh : j = 0 ∨ j = 1 ∨ j = 2 := by omega
    have h0 : gA V6 (n + 5) 0 = 111 := by rw [hV6]; simp [gA_sA]
    have h1 : gA V6 (n + 5) 1 = 119 := by rw [hV6]; simp [gA_sA]
    have h2 : gA V6 (n + 5) 2 = 110 := by rw [hV6]; simp [gA_sA]
    rcases hh with rfl | rfl | rfl
    · exact h0.trans (by decide)
    · exact h1.trans (by decide)
    · exact h2.trans (by decide)
  have vi6 : gI V6 = gI V5 := by rw [hV6]; rfl
  have vj6 : gJ V6 = gJ V5 := by rw [hV6]; rfl
  have T6 : gy r (n + 6) 28 G6 V6 G6 V6 := gy_refl
  have T5 : gy r (n + 5) 27 G5 V5 G6 V6 := (y6.trans T6 (by omega) (by decide)).weak (by omega) (by decide)
  have T4 : gy r (n + 4) 26 G4 V4 G6 V6 := (y5.trans T5 (by omega) (by decide)).weak (by omega) (by decide)
  have T3 : gy r (n + 3) 25 G3 V3 G6 V6 := (y4.trans T4 (by omega) (by decide)).weak (by omega) (by decide)
  have T2 : gy r (n + 2) 24 G2 V2 G6 V6 := (y3.trans T3 (by omega) (by decide)).weak (by omega) (by decide)
  have T1 : gy r (n + 1) 23 G1 V1 G6 V6 := (y2.trans T2 (by omega) (by decide)).weak (by omega) (by decide)
  have hI : gI V6 = gI V := by rw [vi6, vi5, vi4, vi3, vi2, vi1]
  have hJ : gJ V6 = gJ V := by rw [vj6, vj5, vj4, vj3, vj2, vj1]
  refine ⟨G6, V6, ?_, c6, (y1.trans T1 (by omega) (by decide)).weak (by omega) (by decide), hI, hJ, a1.up T1 (by omega) (by omega) (by decide), a2.up T2 (by omega) (by omega) (by decide), a3.up T3 (by omega) (by omega) (by decide), a4.up T4 (by omega) (by omega) (by decide), a5.up T5 (by omega) (by omega) (by decide), a6.up T6 (by omega) (by omega) (by decide)⟩
  unfold F_X10_init_J351
  refine E_gd hc ?_
  dsimp only
  refine E_lt (E_lt (E_gd ⟨nw_c (by omega) hc, nw_a⟩ (E_lt (E_lt (E_lt (E_lt (E_lt (E_lt (E_lt (?_))))))))))
  rw [← hG1, ← hV1]
  refine E_lt (E_lt (E_gd ⟨nw_c (by omega) c1, nw_a⟩ (E_lt (E_lt (E_lt (E_lt (E_lt (E_lt (?_)))))))))
  rw [← hG2, ← hV2]
  refine E_lt (E_lt (E_gd ⟨nw_c (by omega) c2, nw_a⟩ (E_lt (E_lt (E_lt (E_lt (?_)))))))
  rw [← hG3, ← hV3]
  refine E_lt (E_lt (E_gd ⟨nw_c (by omega) c3, nw_a⟩ (E_lt (E_lt (E_lt (E_lt (E_lt (E_lt (E_lt (?_))))))))))
  rw [← hG4, ← hV4]
  refine E_lt (E_lt (E_gd ⟨nw_c (by omega) c4, nw_a⟩ (E_lt (E_lt (E_lt (E_lt (E_lt (?_))))))))
  rw [← hG5, ← hV5]
  refine E_lt (E_lt (E_gd ⟨nw_c (by omega) c5, nw_a⟩ (E_lt (E_lt (E_lt (E_lt (?_)))))))
  rw [← hG6, ← hV6]
theorem mk_init_J530 (hc : G.1 r = .inl 10) (hr : r < n) : ∃ G' V', F_X10_init_J530 r (n, z, G, V) = F_X10_init_J695 r (n + 7, z + 6 + 2 + 3 + 3 + 3 + 3 + 3, G', V') ∧ G'.1 r = .inl 10 ∧ gy r n 28 G V G' V' ∧ gI V' = gI V ∧ gJ V' = gJ V ∧ ak G' V' r 28 n (.inr (1, 6)) (fun j => (wl.getD 17 []).getD j 0 + 96) 6 ∧ ak G' V' r 29 (n + 1) (.inr (1, 2)) (fun j => (wl.getD 18 []).getD j 0 + 96) 2 ∧ ak G' V' r 30 (n + 2) (.inr (1, 3)) (fun j => (wl.getD 19 []).getD j 0 + 96) 3 ∧ ak G' V' r 31 (n + 3) (.inr (1, 3)) (fun j => (wl.getD 20 []).getD j 0 + 96) 3 ∧ ak G' V' r 32 (n + 4) (.inr (1, 3)) (fun j => (wl.getD 21 []).getD j 0 + 96) 3 ∧ ak G' V' r 33 (n + 5) (.inr (1, 3)) (fun j => (wl.getD 22 []).getD j 0 + 96) 3 ∧ ak G' V' r 34 (n + 6) (.inr (1, 3)) (fun j => (wl.getD 23 []).getD j 0 + 96) 3 := by
  obtain ⟨G1, hG1⟩ : ∃ H, H = sR (nw G n (.inr (1, 6))) r 28 (.ref n) := ⟨_, rfl⟩
  obtain ⟨V1, hV1⟩ : ∃ U, U = sA (sA (sA (sA (sA (sA (zA V n) n 0 116) n 1 104) n 2 101) n 3 105) n 4 114) n 5 115 := ⟨_, rfl⟩
  have c1 : G1.1 r = .inl 10 := by rw [hG1]; exact st_c (by omega) hc
  have y1 : gy r n 28 G V G1 V1 := by
    rw [hG1, hV1]
    exact gy_new (fun b hb => ((gA_sAo hb).trans ((gA_sAo hb).trans ((gA_sAo hb).trans ((gA_sAo hb).trans ((gA_sAo hb).trans ((gA_sAo hb).trans (zA_o hb)))))))) (fun _ _ => rfl)
  have a1 : ak G1 V1 r 28 n (.inr (1, 6)) (fun j => (wl.getD 17 []).getD j 0 + 96) 6 := by
    rw [hG1]
    refine ak_new (fun j hj => ?_)
    have hh : j = 0 ∨ j = 1 ∨ j = 2 ∨ j = 3 ∨ j = 4 ∨ j = 5 := by omega
    have h0 : gA V1 n 0 = 116 := by rw [hV1]; simp [gA_sA]
    have h1 : gA V1 n 1 = 104 := by rw [hV1]; simp [gA_sA]
    have h2 : gA V1 n 2 = 101 := by rw [hV1]; simp [gA_sA]
    have h3 : gA V1 n 3 = 105 := by rw [hV1]; simp [gA_sA]
    have h4 : gA V1 n 4 = 114 := by rw [hV1]; simp [gA_sA]
    have h5 : gA V1 n 5 = 115 := by rw [hV1]; simp [gA_sA]
    rcases hh with rfl | rfl | rfl | rfl | rfl | rfl
    · exact h0.trans (by decide)
    · exact h1.trans (by decide)
    · exact h2.trans (by decide)
    · exact h3.trans (by decide)
    · exact h4.trans (by decide)
    · exact h5.trans (by decide)
  have vi1 : gI V1 = gI V := by rw [hV1]; rfl
  have vj1 : gJ V1 = gJ V := by rw [hV1]; rfl
  obtain ⟨G2, hG2⟩ : ∃ H, H = sR (nw G1 (n + 1) (.inr (1, 2))) r 29 (.ref (n + 1)) := ⟨_, rfl⟩
  obtain ⟨V2, hV2⟩ : ∃ U, U = sA (sA (zA V1 (n + 1)) (n + 1) 0 111) (n + 1) 1 114 := ⟨_, rfl⟩
  have c2 : G2.1 r = .inl 10 := by rw [hG2]; exact st_c (by omega) c1
  have y2 : gy r (n + 1) 29 G1 V1 G2 V2 := by
    rw [hG2, hV2]
    exact gy_new (fun b hb => ((gA_sAo hb).trans ((gA_sAo hb).trans (zA_o hb)))) (fun _ _ => rfl)
  have a2 : ak G2 V2 r 29 (n + 1) (.inr (1, 2)) (fun j => (wl.getD 18 []).getD j 0 + 96) 2 := by
    rw [hG2]
    refine ak_new (fun j hj => ?_)
    have hh : j = 0 ∨ j = 1 := by omega
    have h0 : gA V2 (n + 1) 0 = 111 := by rw [hV2]; simp [gA_sA]
    have h1 : gA V2 (n + 1) 1 = 114 := by rw [hV2]; simp [gA_sA]
    rcases hh with rfl | rfl
    · exact h0.trans (by decide)
    · exact h1.trans (by decide)
  have vi2 : gI V2 = gI V1 := by rw [hV2]; rfl
  have vj2 : gJ V2 = gJ V1 := by rw [hV2]; rfl
  obtain ⟨G3, hG3⟩ : ∃ H, H = sR (nw G2 (n + 2) (.inr (1, 3))) r 30 (.ref (n + 2)) := ⟨_, rfl⟩
  obtain ⟨V3, hV3⟩ : ∃ U, U = sA (sA (sA (zA V2 (n + 2)) (n + 2) 0 97) (n + 2) 1 110) (n + 2) 2 100 := ⟨_, rfl⟩
  have c3 : G3.1 r = .inl 10 := by rw [hG3]; exact st_c (by omega) c2
  have y3 : gy r (n + 2) 30 G2 V2 G3 V3 := by
    rw [hG3, hV3]
    exact gy_new (fun b hb => ((gA_sAo hb).trans ((gA_sAo hb).trans ((gA_sAo hb).trans (zA_o hb))))) (fun _ _ => rfl)
  have a3 : ak G3 V3 r 30 (n + 2) (.inr (1, 3)) (fun j => (wl.getD 19 []).getD j 0 + 96) 3 := by
    rw [hG3]
    refine ak_new (fun j hj => ?_)
    have hh : j = 0 ∨ j = 1 ∨ j = 2 := by omega
    have h0 : gA V3 (n + 2) 0 = 97 := by rw [hV3]; simp [gA_sA]
    have h1 : gA V3 (n + 2) 1 = 110 := by rw [hV3]; simp [gA_sA]
    have h2 : gA V3 (n + 2) 2 = 100 := by rw [hV3]; simp [gA_sA]
    rcases hh with rfl | rfl | rfl
    · exact h0.trans (by decide)
    · exact h1.trans (by decide)
    · exact h2.trans (by decide)
  have vi3 : gI V3 = gI V2 := by rw [hV3]; rfl
  have vj3 : gJ V3 = gJ V2 := by rw [hV3]; rfl
  obtain ⟨G4, hG4⟩ : ∃ H, H = sR (nw G3 (n + 3) (.inr (1, 3))) r 31 (.ref (n + 3)) := ⟨_, rfl⟩
  obtain ⟨V4, hV4⟩ : ∃ U, U = sA (sA (sA (zA V3 (n + 3)) (n + 3) 0 110) (n + 3) 1 111) (n + 3) 2 116 := ⟨_, rfl⟩
  have c4 : G4.1 r = .inl 10 := by rw [hG4]; exact st_c (by omega) c3
  have y4 : gy r (n + 3) 31 G3 V3 G4 V4 := by
    rw [hG4, hV4]
    exact gy_new (fun b hb => ((gA_sAo hb).trans ((gA_sAo hb).trans ((gA_sAo hb).trans (zA_o hb))))) (fun _ _ => rfl)
  have a4 : ak G4 V4 r 31 (n + 3) (.inr (1, 3)) (fun j => (wl.getD 20 []).getD j 0 + 96) 3 := by
    rw [hG4]
    refine ak_new (fun j hj => ?_)
    have hh : j = 0 ∨ j = 1 ∨ j = 2 := by omega
    have h0 : gA V4 (n + 3) 0 = 110 := by rw [hV4]; simp [gA_sA]
    have h1 : gA V4 (n + 3) 1 = 111 := by rw [hV4]; simp [gA_sA]
    have h2 : gA V4 (n + 3) 2 = 116 := by rw [hV4]; simp [gA_sA]
    rcases hh with rfl | rfl | rfl
    · exact h0.trans (by decide)
    · exact h1.trans (by decide)
    · exact h2.trans (by decide)
  have vi4 : gI V4 = gI V3 := by rw [hV4]; rfl
  have vj4 : gJ V4 = gJ V3 := by rw [hV4]; rfl
  obtain ⟨G5, hG5⟩ : ∃ H, H = sR (nw G4 (n + 4) (.inr (1, 3))) r 32 (.ref (n + 4)) := ⟨_, rfl⟩
  obtain ⟨V5, hV5⟩ : ∃ U, U = sA (sA (sA (zA V4 (n + 4)) (n + 4) 0 97) (n + 4) 1 108) (n + 4) 2 108 := ⟨_, rfl⟩
  have c5 : G5.1 r = .inl 10 := by rw [hG5]; exact st_c (by omega) c4
  have y5 : gy r (n + 4) 32 G4 V4 G5 V5 := by
    rw [hG5, hV5]
    exact gy_new (fun b hb => ((gA_sAo hb).trans ((gA_sAo hb).trans ((gA_sAo hb).trans (zA_o hb))))) (fun _ _ => rfl)
  have a5 : ak G5 V5 r 32 (n + 4) (.inr (1, 3)) (fun j => (wl.getD 21 []).getD j 0 + 96) 3 := by
    rw [hG5]
    refine ak_new (fun j hj => ?_)
    have hh : j = 0 ∨ j = 1 ∨ j = 2 := by omega
    have h0 : gA V5 (n + 4) 0 = 97 := by rw [hV5]; simp [gA_sA]
    have h1 : gA V5 (n + 4) 1 = 108 := by rw [hV5]; simp [gA_sA]
    have h2 : gA V5 (n + 4) 2 = 108 := by rw [hV5]; simp [gA_sA]
    rcases hh with rfl | rfl | rfl
    · exact h0.trans (by decide)
    · exact h1.trans (by decide)
    · exact h2.trans (by decide)
  have vi5 : gI V5 = gI V4 := by rw [hV5]; rfl
  have vj5 : gJ V5 = gJ V4 := by rw [hV5]; rfl
  obtain ⟨G6, hG6⟩ : ∃ H, H = sR (nw G5 (n + 5) (.inr (1, 3))) r 33 (.ref (n + 5)) := ⟨_, rfl⟩
  obtain ⟨V6, hV6⟩ : ∃ U, U = sA (sA (sA (zA V5 (n + 5)) (n + 5) 0 109) (n + 5) 1 105) (n + 5) 2 110 := ⟨_, rfl⟩
  have c6 : G6.1 r = .inl 10 := by rw [hG6]; exact st_c (by omega) c5
  have y6 : gy r (n + 5) 33 G5 V5 G6 V6 := by
    rw [hG6, hV6]
    exact gy_new (fun b hb => ((gA_sAo hb).trans ((gA_sAo hb).trans ((gA_sAo hb).trans (zA_o hb))))) (fun _ _ => rfl)
  have a6 : ak G6 V6 r 33 (n + 5) (.inr (1, 3)) (fun j => (wl.getD 22 []).getD j 0 + 96) 3 := by
    rw [hG6]
    refine ak_new (fun j hj => ?_)
    have hh : j = 0 ∨ j = 1 ∨ j = 2 := by omega
    have h0 : gA V6 (n + 5) 0 = 109 := by rw [hV6]; simp [gA_sA]
    have h1 : gA V6 (n + 5) 1 = 105 := by rw [hV6]; simp [gA_sA]
    have h2 : gA V6 (n + 5) 2 = 110 := by rw [hV6]; simp [gA_sA]
    rcases hh with rfl | rfl | rfl
    · exact h0.trans (by decide)
    · exact h1.trans (by decide)
    · exact h2.trans (by decide)
  have vi6 : gI V6 = gI V5 := by rw [hV6]; rfl
  have vj6 : gJ V6 = gJ V5 := by rw [hV6]; rfl
  obtain ⟨G7, hG7⟩ : ∃ H, H = sR (nw G6 (n + 6) (.inr (1, 3))) r 34 (.ref (n + 6)) := ⟨_, rfl⟩
  obtain ⟨V7, hV7⟩ : ∃ U, U = sA (sA (sA (zA V6 (n + 6)) (n + 6) 0 109) (n + 6) 1 97) (n + 6) 2 120 := ⟨_, rfl⟩
  have c7 : G7.1 r = .inl 10 := by rw [hG7]; exact st_c (by omega) c6
  have y7 : gy r (n + 6) 34 G6 V6 G7 V7 := by
    rw [hG7, hV7]
    exact gy_new (fun b hb => ((gA_sAo hb).trans ((gA_sAo hb).trans ((gA_sAo hb).trans (zA_o hb))))) (fun _ _ => rfl)
  have a7 : ak G7 V7 r 34 (n + 6) (.inr (1, 3)) (fun j => (wl.getD 23 []).getD j 0 + 96) 3 := by
    rw [hG7]
    refine ak_new (fun j hj => ?_)
    have hh : j = 0 ∨ j = 1 ∨ j = 2 := by omega
    have h0 : gA V7 (n + 6) 0 = 109 := by rw [hV7]; simp [gA_sA]
    have h1 : gA V7 (n + 6) 1 = 97 := by rw [hV7]; simp [gA_sA]
    have h2 : gA V7 (n + 6) 2 = 120 := by rw [hV7]; simp [gA_sA]
    rcases hh with rfl | rfl | rfl
    · exact h0.trans (by decide)
    · exact h1.trans (by decide)
    · exact h2.trans (by decide)
  have vi7 : gI V7 = gI V6 := by rw [hV7]; rfl
  have vj7 : gJ V7 = gJ V6 := by rw [hV7]; rfl
  have T7 : gy r (n + 7) 35 G7 V7 G7 V7 := gy_refl
  have T6 : gy r (n + 6) 34 G6 V6 G7 V7 := (y7.trans T7 (by omega) (by decide)).weak (by omega) (by decide)
  have T5 : gy r (n + 5) 33 G5 V5 G7 V7 := (y6.trans T6 (by omega) (by decide)).weak (by omega) (by decide)
  have T4 : gy r (n + 4) 32 G4 V4 G7 V7 := (y5.trans T5 (by omega) (by decide)).weak (by omega) (by decide)
  have T3 : gy r (n + 3) 31 G3 V3 G7 V7 := (y4.trans T4 (by omega) (by decide)).weak (by omega) (by decide)
  have T2 : gy r (n + 2) 30 G2 V2 G7 V7 := (y3.trans T3 (by omega) (by decide)).weak (by omega) (by decide)
  have T1 : gy r (n + 1) 29 G1 V1 G7 V7 := (y2.trans T2 (by omega) (by decide)).weak (by omega) (by decide)
  have hI : gI V7 = gI V := by rw [vi7, vi6, vi5, vi4, vi3, vi2, vi1]
  have hJ : gJ V7 = gJ V := by rw [vj7, vj6, vj5, vj4, vj3, vj2, vj1]
  refine ⟨G7, V7, ?_, c7, (y1.trans T1 (by omega) (by decide)).weak (by omega) (by decide), hI, hJ, a1.up T1 (by omega) (by omega) (by decide), a2.up T2 (by omega) (by omega) (by decide), a3.up T3 (by omega) (by omega) (by decide), a4.up T4 (by omega) (by omega) (by decide), a5.up T5 (by omega) (by omega) (by decide), a6.up T6 (by omega) (by omega) (by decide), a7.up T7 (by omega) (by omega) (by decide)⟩
  unfold F_X10_init_J530
  refine E_gd hc ?_
  dsimp only
  refine E_lt (E_lt (E_gd ⟨nw_c (by omega) hc, nw_a⟩ (E_lt (E_lt (E_lt (E_lt (E_lt (E_lt (E_lt (?_))))))))))
  rw [← hG1, ← hV1]
  refine E_lt (E_lt (E_gd ⟨nw_c (by omega) c1, nw_a⟩ (E_lt (E_lt (E_lt (?_))))))
  rw [← hG2, ← hV2]
  refine E_lt (E_lt (E_gd ⟨nw_c (by omega) c2, nw_a⟩ (E_lt (E_lt (E_lt (E_lt (?_)))))))
  rw [← hG3, ← hV3]
  refine E_lt (E_lt (E_gd ⟨nw_c (by omega) c3, nw_a⟩ (E_lt (E_lt (E_lt (E_lt (?_)))))))
  rw [← hG4, ← hV4]
  refine E_lt (E_lt (E_gd ⟨nw_c (by omega) c4, nw_a⟩ (E_lt (E_lt (E_lt (E_lt (?_)))))))
  rw [← hG5, ← hV5]
  refine E_lt (E_lt (E_gd ⟨nw_c (by omega) c5, nw_a⟩ (E_lt (E_lt (E_lt (E_lt (?_)))))))
  rw [← hG6, ← hV6]
  refine E_lt (E_lt (E_gd ⟨nw_c (by omega) c6, nw_a⟩ (E_lt (E_lt (E_lt (E_lt (?_)))))))
  rw [← hG7, ← hV7]
theorem mk_init_J695 (hc : G.1 r = .inl 10) (hr : r < n) : ∃ G' V', F_X10_init_J695 r (n, z, G, V) = F_X10_init_J821 r (n + 11, z + 6 + 40 + 40 + 144 + 20 + 20 + 200 + 8 + 8 + 3200 + 282, G', V') ∧ G'.1 r = .inl 10 ∧ gy r n 36 G V G' V' ∧ gI V' = gI V ∧ gJ V' = gJ V ∧ ak G' V' r 36 n (.inr (0, 6)) (fun _ => 0) 6 ∧ ak G' V' r 37 (n + 1) (.inr (2, 40)) (fun _ => 0) 0 ∧ ak G' V' r 38 (n + 2) (.inr (0, 40)) (fun _ => 0) 40 ∧ ak G' V' r 39 (n + 3) (.inr (0, 144)) (fun _ => 0) 144 ∧ ak G' V' r 40 (n + 4) (.inr (0, 20)) (fun _ => 0) 20 ∧ ak G' V' r 41 (n + 5) (.inr (0, 20)) (fun _ => 0) 20 ∧ ak G' V' r 42 (n + 6) (.inr (0, 200)) (fun _ => 0) 200 ∧ ak G' V' r 43 (n + 7) (.inr (0, 8)) (fun _ => -1) 8 ∧ ak G' V' r 44 (n + 8) (.inr (0, 8)) (fun _ => 0) 8 ∧ ak G' V' r 45 (n + 9) (.inr (0, 3200)) (fun _ => 0) 3200 ∧ ak G' V' r 49 (n + 10) (.inr (0, 282)) (fun _ => 0) 282 := by
  obtain ⟨G1, hG1⟩ : ∃ H, H = sR (nw G n (.inr (0, 6))) r 36 (.ref n) := ⟨_, rfl⟩
  obtain ⟨V1, hV1⟩ : ∃ U, U = zA V n := ⟨_, rfl⟩
  have c1 : G1.1 r = .inl 10 := by rw [hG1]; exact st_c (by omega) hc
  have y1 : gy r n 36 G V G1 V1 := by
    rw [hG1, hV1]
    exact gy_new (fun b hb => (zA_o hb)) (fun _ _ => rfl)
  have a1 : ak G1 V1 r 36 n (.inr (0, 6)) (fun _ => 0) 6 := by
    rw [hG1, hV1]
    exact ak_new (fun j _ => zA_s)
  have vi1 : gI V1 = gI V := by rw [hV1]; rfl
  have vj1 : gJ V1 = gJ V := by rw [hV1]; rfl
  obtain ⟨G2, hG2⟩ : ∃ H, H = sR (nw G1 (n + 1) (.inr (2, 40))) r 37 (.ref (n + 1)) := ⟨_, rfl⟩
  obtain ⟨V2, hV2⟩ : ∃ U, U = zL V1 (n + 1) := ⟨_, rfl⟩
  have c2 : G2.1 r = .inl 10 := by rw [hG2]; exact st_c (by omega) c1
  have y2 : gy r (n + 1) 37 G1 V1 G2 V2 := by
    rw [hG2, hV2]
    exact gy_new (fun b hb => rfl) (fun b hb => zL_o hb)
  have a2 : ak G2 V2 r 37 (n + 1) (.inr (2, 40)) (fun _ => 0) 0 := by
    rw [hG2]
    exact ak_new (fun j hj => by omega)
  have vi2 : gI V2 = gI V1 := by rw [hV2]; rfl
  have vj2 : gJ V2 = gJ V1 := by rw [hV2]; rfl
  obtain ⟨G3, hG3⟩ : ∃ H, H = sR (nw G2 (n + 2) (.inr (0, 40))) r 38 (.ref (n + 2)) := ⟨_, rfl⟩
  obtain ⟨V3, hV3⟩ : ∃ U, U = zA V2 (n + 2) := ⟨_, rfl⟩
  have c3 : G3.1 r = .inl 10 := by rw [hG3]; exact st_c (by omega) c2
  have y3 : gy r (n + 2) 38 G2 V2 G3 V3 := by
    rw [hG3, hV3]
    exact gy_new (fun b hb => (zA_o hb)) (fun _ _ => rfl)
  have a3 : ak G3 V3 r 38 (n + 2) (.inr (0, 40)) (fun _ => 0) 40 := by
    rw [hG3, hV3]
    exact ak_new (fun j _ => zA_s)
  have vi3 : gI V3 = gI V2 := by rw [hV3]; rfl
  have vj3 : gJ V3 = gJ V2 := by rw [hV3]; rfl
  obtain ⟨G4, hG4⟩ : ∃ H, H = sR (nw G3 (n + 3) (.inr (0, 144))) r 39 (.ref (n + 3)) := ⟨_, rfl⟩
  obtain ⟨V4, hV4⟩ : ∃ U, U = zA V3 (n + 3) := ⟨_, rfl⟩
  have c4 : G4.1 r = .inl 10 := by rw [hG4]; exact st_c (by omega) c3
  have y4 : gy r (n + 3) 39 G3 V3 G4 V4 := by
    rw [hG4, hV4]
    exact gy_new (fun b hb => (zA_o hb)) (fun _ _ => rfl)
  have a4 : ak G4 V4 r 39 (n + 3) (.inr (0, 144)) (fun _ => 0) 144 := by
    rw [hG4, hV4]
    exact ak_new (fun j _ => zA_s)
  have vi4 : gI V4 = gI V3 := by rw [hV4]; rfl
  have vj4 : gJ V4 = gJ V3 := by rw [hV4]; rfl
  obtain ⟨G5, hG5⟩ : ∃ H, H = sR (nw G4 (n + 4) (.inr (0, 20))) r 40 (.ref (n + 4)) := ⟨_, rfl⟩
  obtain ⟨V5, hV5⟩ : ∃ U, U = zA V4 (n + 4) := ⟨_, rfl⟩
  have c5 : G5.1 r = .inl 10 := by rw [hG5]; exact st_c (by omega) c4
  have y5 : gy r (n + 4) 40 G4 V4 G5 V5 := by
    rw [hG5, hV5]
    exact gy_new (fun b hb => (zA_o hb)) (fun _ _ => rfl)
  have a5 : ak G5 V5 r 40 (n + 4) (.inr (0, 20)) (fun _ => 0) 20 := by
    rw [hG5, hV5]
    exact ak_new (fun j _ => zA_s)
  have vi5 : gI V5 = gI V4 := by rw [hV5]; rfl
  have vj5 : gJ V5 = gJ V4 := by rw [hV5]; rfl
  obtain ⟨G6, hG6⟩ : ∃ H, H = sR (nw G5 (n + 5) (.inr (0, 20))) r 41 (.ref (n + 5)) := ⟨_, rfl⟩
  obtain ⟨V6, hV6⟩ : ∃ U, U = zA V5 (n + 5) := ⟨_, rfl⟩
  have c6 : G6.1 r = .inl 10 := by rw [hG6]; exact st_c (by omega) c5
  have y6 : gy r (n + 5) 41 G5 V5 G6 V6 := by
    rw [hG6, hV6]
    exact gy_new (fun b hb => (zA_o hb)) (fun _ _ => rfl)
  have a6 : ak G6 V6 r 41 (n + 5) (.inr (0, 20)) (fun _ => 0) 20 := by
    rw [hG6, hV6]
    exact ak_new (fun j _ => zA_s)
  have vi6 : gI V6 = gI V5 := by rw [hV6]; rfl
  have vj6 : gJ V6 = gJ V5 := by rw [hV6]; rfl
  obtain ⟨G7, hG7⟩ : ∃ H, H = sR (nw G6 (n + 6) (.inr (0, 200))) r 42 (.ref (n + 6)) := ⟨_, rfl⟩
  obtain ⟨V7, hV7⟩ : ∃ U, U = zA V6 (n + 6) := ⟨_, rfl⟩
  have c7 : G7.1 r = .inl 10 := by rw [hG7]; exact st_c (by omega) c6
  have y7 : gy r (n + 6) 42 G6 V6 G7 V7 := by
    rw [hG7, hV7]
    exact gy_new (fun b hb => (zA_o hb)) (fun _ _ => rfl)
  have a7 : ak G7 V7 r 42 (n + 6) (.inr (0, 200)) (fun _ => 0) 200 := by
    rw [hG7, hV7]
    exact ak_new (fun j _ => zA_s)
  have vi7 : gI V7 = gI V6 := by rw [hV7]; rfl
  have vj7 : gJ V7 = gJ V6 := by rw [hV7]; rfl
  obtain ⟨G8, hG8⟩ : ∃ H, H = sR (nw G7 (n + 7) (.inr (0, 8))) r 43 (.ref (n + 7)) := ⟨_, rfl⟩
  obtain ⟨V8, hV8⟩ : ∃ U, U = sA (sA (sA (sA (sA (sA (sA (sA (zA V7 (n + 7)) (n + 7) 0 (-1)) (n + 7) 1 (-1)) (n + 7) 2 (-1)) (n + 7) 3 (-1)) (n + 7) 4 (-1)) (n + 7) 5 (-1)) (n + 7) 6 (-1)) (n + 7) 7 (-1) := ⟨_, rfl⟩
  have c8 : G8.1 r = .inl 10 := by rw [hG8]; exact st_c (by omega) c7
  have y8 : gy r (n + 7) 43 G7 V7 G8 V8 := by
    rw [hG8, hV8]
    exact gy_new (fun b hb => ((gA_sAo hb).trans ((gA_sAo hb).trans ((gA_sAo hb).trans ((gA_sAo hb).trans ((gA_sAo hb).trans ((gA_sAo hb).trans ((gA_sAo hb).trans ((gA_sAo hb).trans (zA_o hb)))))))))) (fun _ _ => rfl)
  have a8 : ak G8 V8 r 43 (n + 7) (.inr (0, 8)) (fun _ => -1) 8 := by
    rw [hG8]
    refine ak_new (fun j hj => ?_)
    have hh : j = 0 ∨ j = 1 ∨ j = 2 ∨ j = 3 ∨ j = 4 ∨ j = 5 ∨ j = 6 ∨ j = 7 := by omega
    have h0 : gA V8 (n + 7) 0 = (-1) := by rw [hV8]; simp [gA_sA]
    have h1 : gA V8 (n + 7) 1 = (-1) := by rw [hV8]; simp [gA_sA]
    have h2 : gA V8 (n + 7) 2 = (-1) := by rw [hV8]; simp [gA_sA]
    have h3 : gA V8 (n + 7) 3 = (-1) := by rw [hV8]; simp [gA_sA]
    have h4 : gA V8 (n + 7) 4 = (-1) := by rw [hV8]; simp [gA_sA]
    have h5 : gA V8 (n + 7) 5 = (-1) := by rw [hV8]; simp [gA_sA]
    have h6 : gA V8 (n + 7) 6 = (-1) := by rw [hV8]; simp [gA_sA]
    have h7 : gA V8 (n + 7) 7 = (-1) := by rw [hV8]; simp [gA_sA]
    rcases hh with rfl | rfl | rfl | rfl | rfl | rfl | rfl | rfl
    · exact h0.trans (by decide)
    · exact h1.trans (by decide)
    · exact h2.trans (by decide)
    · exact h3.trans (by decide)
    · exact h4.trans (by decide)
    · exact h5.trans (by decide)
    · exact h6.trans (by decide)
    · exact h7.trans (by decide)
  have vi8 : gI V8 = gI V7 := by rw [hV8]; rfl
  have vj8 : gJ V8 = gJ V7 := by rw [hV8]; rfl
  obtain ⟨G9, hG9⟩ : ∃ H, H = sR (nw G8 (n + 8) (.inr (0, 8))) r 44 (.ref (n + 8)) := ⟨_, rfl⟩
  obtain ⟨V9, hV9⟩ : ∃ U, U = zA V8 (n + 8) := ⟨_, rfl⟩
  have c9 : G9.1 r = .inl 10 := by rw [hG9]; exact st_c (by omega) c8
  have y9 : gy r (n + 8) 44 G8 V8 G9 V9 := by
    rw [hG9, hV9]
    exact gy_new (fun b hb => (zA_o hb)) (fun _ _ => rfl)
  have a9 : ak G9 V9 r 44 (n + 8) (.inr (0, 8)) (fun _ => 0) 8 := by
    rw [hG9, hV9]
    exact ak_new (fun j _ => zA_s)
  have vi9 : gI V9 = gI V8 := by rw [hV9]; rfl
  have vj9 : gJ V9 = gJ V8 := by rw [hV9]; rfl
  obtain ⟨G10, hG10⟩ : ∃ H, H = sR (nw G9 (n + 9) (.inr (0, 3200))) r 45 (.ref (n + 9)) := ⟨_, rfl⟩
  obtain ⟨V10, hV10⟩ : ∃ U, U = zA V9 (n + 9) := ⟨_, rfl⟩
  have c10 : G10.1 r = .inl 10 := by rw [hG10]; exact st_c (by omega) c9
  have y10 : gy r (n + 9) 45 G9 V9 G10 V10 := by
    rw [hG10, hV10]
    exact gy_new (fun b hb => (zA_o hb)) (fun _ _ => rfl)
  have a10 : ak G10 V10 r 45 (n + 9) (.inr (0, 3200)) (fun _ => 0) 3200 := by
    rw [hG10, hV10]
    exact ak_new (fun j _ => zA_s)
  have vi10 : gI V10 = gI V9 := by rw [hV10]; rfl
  have vj10 : gJ V10 = gJ V9 := by rw [hV10]; rfl
  obtain ⟨G11, hG11⟩ : ∃ H, H = sR (nw G10 (n + 10) (.inr (0, 282))) r 49 (.ref (n + 10)) := ⟨_, rfl⟩
  obtain ⟨V11, hV11⟩ : ∃ U, U = zA V10 (n + 10) := ⟨_, rfl⟩
  have c11 : G11.1 r = .inl 10 := by rw [hG11]; exact st_c (by omega) c10
  have y11 : gy r (n + 10) 49 G10 V10 G11 V11 := by
    rw [hG11, hV11]
    exact gy_new (fun b hb => (zA_o hb)) (fun _ _ => rfl)
  have a11 : ak G11 V11 r 49 (n + 10) (.inr (0, 282)) (fun _ => 0) 282 := by
    rw [hG11, hV11]
    exact ak_new (fun j _ => zA_s)
  have vi11 : gI V11 = gI V10 := by rw [hV11]; rfl
  have vj11 : gJ V11 = gJ V10 := by rw [hV11]; rfl
  have T11 : gy r (n + 11) 50 G11 V11 G11 V11 := gy_refl
  have T10 : gy r (n + 10) 46 G10 V10 G11 V11 := (y11.trans T11 (by omega) (by decide)).weak (by omega) (by decide)
  have T9 : gy r (n + 9) 45 G9 V9 G11 V11 := (y10.trans T10 (by omega) (by decide)).weak (by omega) (by decide)
  have T8 : gy r (n + 8) 44 G8 V8 G11 V11 := (y9.trans T9 (by omega) (by decide)).weak (by omega) (by decide)
  have T7 : gy r (n + 7) 43 G7 V7 G11 V11 := (y8.trans T8 (by omega) (by decide)).weak (by omega) (by decide)
  have T6 : gy r (n + 6) 42 G6 V6 G11 V11 := (y7.trans T7 (by omega) (by decide)).weak (by omega) (by decide)
  have T5 : gy r (n + 5) 41 G5 V5 G11 V11 := (y6.trans T6 (by omega) (by decide)).weak (by omega) (by decide)
  have T4 : gy r (n + 4) 40 G4 V4 G11 V11 := (y5.trans T5 (by omega) (by decide)).weak (by omega) (by decide)
  have T3 : gy r (n + 3) 39 G3 V3 G11 V11 := (y4.trans T4 (by omega) (by decide)).weak (by omega) (by decide)
  have T2 : gy r (n + 2) 38 G2 V2 G11 V11 := (y3.trans T3 (by omega) (by decide)).weak (by omega) (by decide)
  have T1 : gy r (n + 1) 37 G1 V1 G11 V11 := (y2.trans T2 (by omega) (by decide)).weak (by omega) (by decide)
  have hI : gI V11 = gI V := by rw [vi11, vi10, vi9, vi8, vi7, vi6, vi5, vi4, vi3, vi2, vi1]
  have hJ : gJ V11 = gJ V := by rw [vj11, vj10, vj9, vj8, vj7, vj6, vj5, vj4, vj3, vj2, vj1]
  refine ⟨G11, V11, ?_, c11, (y1.trans T1 (by omega) (by decide)).weak (by omega) (by decide), hI, hJ, a1.up T1 (by omega) (by omega) (by decide), a2.up T2 (by omega) (by omega) (by decide), a3.up T3 (by omega) (by omega) (by decide), a4.up T4 (by omega) (by omega) (by decide), a5.up T5 (by omega) (by omega) (by decide), a6.up T6 (by omega) (by omega) (by decide), a7.up T7 (by omega) (by omega) (by decide), a8.up T8 (by omega) (by omega) (by decide), a9.up T9 (by omega) (by omega) (by decide), a10.up T10 (by omega) (by omega) (by decide), a11.up T11 (by omega) (by omega) (by decide)⟩
  unfold F_X10_init_J695
  refine E_gd hc ?_
  dsimp only
  refine E_lt (E_lt (E_gd ⟨nw_c (by omega) hc, nw_a⟩ (E_lt (?_))))
  rw [← hG1, ← hV1]
  refine E_lt (E_lt (E_gd ⟨nw_c (by omega) c1, nw_a⟩ (E_lt (?_))))
  rw [← hG2, ← hV2]
  refine E_lt (E_lt (E_gd ⟨nw_c (by omega) c2, nw_a⟩ (E_lt (?_))))
  rw [← hG3, ← hV3]
  refine E_lt (E_lt (E_gd ⟨nw_c (by omega) c3, nw_a⟩ (E_lt (?_))))
  rw [← hG4, ← hV4]
  refine E_lt (E_lt (E_gd ⟨nw_c (by omega) c4, nw_a⟩ (E_lt (?_))))
  rw [← hG5, ← hV5]
  refine E_lt (E_lt (E_gd ⟨nw_c (by omega) c5, nw_a⟩ (E_lt (?_))))
  rw [← hG6, ← hV6]
  refine E_lt (E_lt (E_gd ⟨nw_c (by omega) c6, nw_a⟩ (E_lt (?_))))
  rw [← hG7, ← hV7]
  refine E_lt (E_lt (E_gd ⟨nw_c (by omega) c7, nw_a⟩ (E_lt (E_lt (E_lt (E_lt (E_lt (E_lt (E_lt (E_lt (E_lt (?_))))))))))))
  rw [← hG8, ← hV8]
  refine E_lt (E_lt (E_gd ⟨nw_c (by omega) c8, nw_a⟩ (E_lt (?_))))
  rw [← hG9, ← hV9]
  refine E_lt (E_lt (E_gd ⟨nw_c (by omega) c9, nw_a⟩ (E_lt (?_))))
  rw [← hG10, ← hV10]
  refine E_lt (E_lt (E_gd ⟨nw_c (by omega) c10, nw_a⟩ (E_lt (?_))))
  rw [← hG11, ← hV11]
theorem mk_init_J821 (hc : G.1 r = .inl 10) (hr : r < n) : ∃ G' V', F_X10_init_J821 r (n, z, G, V) = F_X10_init_J983 r (n + 11, z + 282 + 3 + 10 + 10 + 11264 + 100 + 5640 + 60 + 5 + 4 + 5, G', V') ∧ G'.1 r = .inl 10 ∧ gy r n 50 G V G' V' ∧ gI V' = gI V ∧ gJ V' = gJ (sJ V r 71 1) ∧ ak G' V' r 50 n (.inr (0, 282)) (fun _ => 0) 282 ∧ ak G' V' r 59 (n + 1) (.inr (0, 3)) (fun _ => 0) 3 ∧ ak G' V' r 60 (n + 2) (.inr (0, 10)) (fun _ => 0) 10 ∧ ak G' V' r 63 (n + 3) (.inr (0, 10)) (fun _ => 0) 10 ∧ ak G' V' r 66 (n + 4) (.inr (0, 11264)) (fun _ => 0) 11264 ∧ ak G' V' r 67 (n + 5) (.inr (0, 100)) (fun _ => 0) 100 ∧ ak G' V' r 68 (n + 6) (.inr (0, 5640)) (fun _ => 0) 5640 ∧ ak G' V' r 74 (n + 7) (.inr (0, 60)) (fun _ => 0) 60 ∧ ak G' V' r 75 (n + 8) (.inr (1, 5)) (fun j => (wl.getD 24 []).getD j 0 + 96) 5 ∧ ak G' V' r 76 (n + 9) (.inr (1, 4)) (fun j => (wl.getD 25 []).getD j 0 + 96) 4 ∧ ak G' V' r 77 (n + 10) (.inr (1, 5)) (fun j => (wl.getD 26 []).getD j 0 + 96) 5 := by
  obtain ⟨G1, hG1⟩ : ∃ H, H = sR (nw G n (.inr (0, 282))) r 50 (.ref n) := ⟨_, rfl⟩
  obtain ⟨V1, hV1⟩ : ∃ U, U = zA V n := ⟨_, rfl⟩
  have c1 : G1.1 r = .inl 10 := by rw [hG1]; exact st_c (by omega) hc
  have y1 : gy r n 50 G V G1 V1 := by
    rw [hG1, hV1]
    exact gy_new (fun b hb => (zA_o hb)) (fun _ _ => rfl)
  have a1 : ak G1 V1 r 50 n (.inr (0, 282)) (fun _ => 0) 282 := by
    rw [hG1, hV1]
    exact ak_new (fun j _ => zA_s)
  have vi1 : gI V1 = gI V := by rw [hV1]; rfl
  have vj1 : gJ V1 = gJ V := by rw [hV1]; rfl
  obtain ⟨G2, hG2⟩ : ∃ H, H = sR (nw G1 (n + 1) (.inr (0, 3))) r 59 (.ref (n + 1)) := ⟨_, rfl⟩
  obtain ⟨V2, hV2⟩ : ∃ U, U = zA V1 (n + 1) := ⟨_, rfl⟩
  have c2 : G2.1 r = .inl 10 := by rw [hG2]; exact st_c (by omega) c1
  have y2 : gy r (n + 1) 59 G1 V1 G2 V2 := by
    rw [hG2, hV2]
    exact gy_new (fun b hb => (zA_o hb)) (fun _ _ => rfl)
  have a2 : ak G2 V2 r 59 (n + 1) (.inr (0, 3)) (fun _ => 0) 3 := by
    rw [hG2, hV2]
    exact ak_new (fun j _ => zA_s)
  have vi2 : gI V2 = gI V1 := by rw [hV2]; rfl
  have vj2 : gJ V2 = gJ V1 := by rw [hV2]; rfl
  obtain ⟨G3, hG3⟩ : ∃ H, H = sR (nw G2 (n + 2) (.inr (0, 10))) r 60 (.ref (n + 2)) := ⟨_, rfl⟩
  obtain ⟨V3, hV3⟩ : ∃ U, U = zA V2 (n + 2) := ⟨_, rfl⟩
  have c3 : G3.1 r = .inl 10 := by rw [hG3]; exact st_c (by omega) c2
  have y3 : gy r (n + 2) 60 G2 V2 G3 V3 := by
    rw [hG3, hV3]
    exact gy_new (fun b hb => (zA_o hb)) (fun _ _ => rfl)
  have a3 : ak G3 V3 r 60 (n + 2) (.inr (0, 10)) (fun _ => 0) 10 := by
    rw [hG3, hV3]
    exact ak_new (fun j _ => zA_s)
  have vi3 : gI V3 = gI V2 := by rw [hV3]; rfl
  have vj3 : gJ V3 = gJ V2 := by rw [hV3]; rfl
  obtain ⟨G4, hG4⟩ : ∃ H, H = sR (nw G3 (n + 3) (.inr (0, 10))) r 63 (.ref (n + 3)) := ⟨_, rfl⟩
  obtain ⟨V4, hV4⟩ : ∃ U, U = zA V3 (n + 3) := ⟨_, rfl⟩
  have c4 : G4.1 r = .inl 10 := by rw [hG4]; exact st_c (by omega) c3
  have y4 : gy r (n + 3) 63 G3 V3 G4 V4 := by
    rw [hG4, hV4]
    exact gy_new (fun b hb => (zA_o hb)) (fun _ _ => rfl)
  have a4 : ak G4 V4 r 63 (n + 3) (.inr (0, 10)) (fun _ => 0) 10 := by
    rw [hG4, hV4]
    exact ak_new (fun j _ => zA_s)
  have vi4 : gI V4 = gI V3 := by rw [hV4]; rfl
  have vj4 : gJ V4 = gJ V3 := by rw [hV4]; rfl
  obtain ⟨G5, hG5⟩ : ∃ H, H = sR (nw G4 (n + 4) (.inr (0, 11264))) r 66 (.ref (n + 4)) := ⟨_, rfl⟩
  obtain ⟨V5, hV5⟩ : ∃ U, U = zA V4 (n + 4) := ⟨_, rfl⟩
  have c5 : G5.1 r = .inl 10 := by rw [hG5]; exact st_c (by omega) c4
  have y5 : gy r (n + 4) 66 G4 V4 G5 V5 := by
    rw [hG5, hV5]
    exact gy_new (fun b hb => (zA_o hb)) (fun _ _ => rfl)
  have a5 : ak G5 V5 r 66 (n + 4) (.inr (0, 11264)) (fun _ => 0) 11264 := by
    rw [hG5, hV5]
    exact ak_new (fun j _ => zA_s)
  have vi5 : gI V5 = gI V4 := by rw [hV5]; rfl
  have vj5 : gJ V5 = gJ V4 := by rw [hV5]; rfl
  obtain ⟨G6, hG6⟩ : ∃ H, H = sR (nw G5 (n + 5) (.inr (0, 100))) r 67 (.ref (n + 5)) := ⟨_, rfl⟩
  obtain ⟨V6, hV6⟩ : ∃ U, U = zA V5 (n + 5) := ⟨_, rfl⟩
  have c6 : G6.1 r = .inl 10 := by rw [hG6]; exact st_c (by omega) c5
  have y6 : gy r (n + 5) 67 G5 V5 G6 V6 := by
    rw [hG6, hV6]
    exact gy_new (fun b hb => (zA_o hb)) (fun _ _ => rfl)
  have a6 : ak G6 V6 r 67 (n + 5) (.inr (0, 100)) (fun _ => 0) 100 := by
    rw [hG6, hV6]
    exact ak_new (fun j _ => zA_s)
  have vi6 : gI V6 = gI V5 := by rw [hV6]; rfl
  have vj6 : gJ V6 = gJ V5 := by rw [hV6]; rfl
  obtain ⟨G7, hG7⟩ : ∃ H, H = sR (nw G6 (n + 6) (.inr (0, 5640))) r 68 (.ref (n + 6)) := ⟨_, rfl⟩
  obtain ⟨V7, hV7⟩ : ∃ U, U = sJ (zA V6 (n + 6)) r 71 1 := ⟨_, rfl⟩
  have c7 : G7.1 r = .inl 10 := by rw [hG7]; exact st_c (by omega) c6
  have y7 : gy r (n + 6) 68 G6 V6 G7 V7 := by
    rw [hG7, hV7]
    exact gy_new (fun b hb => (zA_o hb)) (fun _ _ => rfl)
  have a7 : ak G7 V7 r 68 (n + 6) (.inr (0, 5640)) (fun _ => 0) 5640 := by
    rw [hG7, hV7]
    exact ak_new (fun j _ => zA_s)
  have vi7 : gI V7 = gI V6 := by rw [hV7]; rfl
  have vj7 : gJ V7 = gJ (sJ V6 r 71 1) := by rw [hV7]; rfl
  obtain ⟨G8, hG8⟩ : ∃ H, H = sR (nw G7 (n + 7) (.inr (0, 60))) r 74 (.ref (n + 7)) := ⟨_, rfl⟩
  obtain ⟨V8, hV8⟩ : ∃ U, U = zA V7 (n + 7) := ⟨_, rfl⟩
  have c8 : G8.1 r = .inl 10 := by rw [hG8]; exact st_c (by omega) c7
  have y8 : gy r (n + 7) 74 G7 V7 G8 V8 := by
    rw [hG8, hV8]
    exact gy_new (fun b hb => (zA_o hb)) (fun _ _ => rfl)
  have a8 : ak G8 V8 r 74 (n + 7) (.inr (0, 60)) (fun _ => 0) 60 := by
    rw [hG8, hV8]
    exact ak_new (fun j _ => zA_s)
  have vi8 : gI V8 = gI V7 := by rw [hV8]; rfl
  have vj8 : gJ V8 = gJ V7 := by rw [hV8]; rfl
  obtain ⟨G9, hG9⟩ : ∃ H, H = sR (nw G8 (n + 8) (.inr (1, 5))) r 75 (.ref (n + 8)) := ⟨_, rfl⟩
  obtain ⟨V9, hV9⟩ : ∃ U, U = sA (sA (sA (sA (sA (zA V8 (n + 8)) (n + 8) 0 102) (n + 8) 1 105) (n + 8) 2 114) (n + 8) 3 115) (n + 8) 4 116 := ⟨_, rfl⟩
  have c9 : G9.1 r = .inl 10 := by rw [hG9]; exact st_c (by omega) c8
  have y9 : gy r (n + 8) 75 G8 V8 G9 V9 := by
    rw [hG9, hV9]
    exact gy_new (fun b hb => ((gA_sAo hb).trans ((gA_sAo hb).trans ((gA_sAo hb).trans ((gA_sAo hb).trans ((gA_sAo hb).trans (zA_o hb))))))) (fun _ _ => rfl)
  have a9 : ak G9 V9 r 75 (n + 8) (.inr (1, 5)) (fun j => (wl.getD 24 []).getD j 0 + 96) 5 := by
    rw [hG9]
    refine ak_new (fun j hj => ?_)
    have hh : j = 0 ∨ j = 1 ∨ j = 2 ∨ j = 3 ∨ j = 4 := by omega
    have h0 : gA V9 (n + 8) 0 = 102 := by rw [hV9]; simp [gA_sA]
    have h1 : gA V9 (n + 8) 1 = 105 := by rw [hV9]; simp [gA_sA]
    have h2 : gA V9 (n + 8) 2 = 114 := by rw [hV9]; simp [gA_sA]
    have h3 : gA V9 (n + 8) 3 = 115 := by rw [hV9]; simp [gA_sA]
    have h4 : gA V9 (n + 8) 4 = 116 := by rw [hV9]; simp [gA_sA]
    rcases hh with rfl | rfl | rfl | rfl | rfl
    · exact h0.trans (by decide)
    · exact h1.trans (by decide)
    · exact h2.trans (by decide)
    · exact h3.trans (by decide)
    · exact h4.trans (by decide)
  have vi9 : gI V9 = gI V8 := by rw [hV9]; rfl
  have vj9 : gJ V9 = gJ V8 := by rw [hV9]; rfl
  obtain ⟨G10, hG10⟩ : ∃ H, H = sR (nw G9 (n + 9) (.inr (1, 4))) r 76 (.ref (n + 9)) := ⟨_, rfl⟩
  obtain ⟨V10, hV10⟩ : ∃ U, U = sA (sA (sA (sA (zA V9 (n + 9)) (n + 9) 0 108) (n + 9) 1 97) (n + 9) 2 115) (n + 9) 3 116 := ⟨_, rfl⟩
  have c10 : G10.1 r = .inl 10 := by rw [hG10]; exact st_c (by omega) c9
  have y10 : gy r (n + 9) 76 G9 V9 G10 V10 := by
    rw [hG10, hV10]
    exact gy_new (fun b hb => ((gA_sAo hb).trans ((gA_sAo hb).trans ((gA_sAo hb).trans ((gA_sAo hb).trans (zA_o hb)))))) (fun _ _ => rfl)
  have a10 : ak G10 V10 r 76 (n + 9) (.inr (1, 4)) (fun j => (wl.getD 25 []).getD j 0 + 96) 4 := by
    rw [hG10]
    refine ak_new (fun j hj => ?_)
    have hh : j = 0 ∨ j = 1 ∨ j = 2 ∨ j = 3 := by omega
    have h0 : gA V10 (n + 9) 0 = 108 := by rw [hV10]; simp [gA_sA]
    have h1 : gA V10 (n + 9) 1 = 97 := by rw [hV10]; simp [gA_sA]
    have h2 : gA V10 (n + 9) 2 = 115 := by rw [hV10]; simp [gA_sA]
    have h3 : gA V10 (n + 9) 3 = 116 := by rw [hV10]; simp [gA_sA]
    rcases hh with rfl | rfl | rfl | rfl
    · exact h0.trans (by decide)
    · exact h1.trans (by decide)
    · exact h2.trans (by decide)
    · exact h3.trans (by decide)
  have vi10 : gI V10 = gI V9 := by rw [hV10]; rfl
  have vj10 : gJ V10 = gJ V9 := by rw [hV10]; rfl
  obtain ⟨G11, hG11⟩ : ∃ H, H = sR (nw G10 (n + 10) (.inr (1, 5))) r 77 (.ref (n + 10)) := ⟨_, rfl⟩
  obtain ⟨V11, hV11⟩ : ∃ U, U = sA (sA (sA (sA (sA (zA V10 (n + 10)) (n + 10) 0 111) (n + 10) 1 102) (n + 10) 2 116) (n + 10) 3 101) (n + 10) 4 110 := ⟨_, rfl⟩
  have c11 : G11.1 r = .inl 10 := by rw [hG11]; exact st_c (by omega) c10
  have y11 : gy r (n + 10) 77 G10 V10 G11 V11 := by
    rw [hG11, hV11]
    exact gy_new (fun b hb => ((gA_sAo hb).trans ((gA_sAo hb).trans ((gA_sAo hb).trans ((gA_sAo hb).trans ((gA_sAo hb).trans (zA_o hb))))))) (fun _ _ => rfl)
  have a11 : ak G11 V11 r 77 (n + 10) (.inr (1, 5)) (fun j => (wl.getD 26 []).getD j 0 + 96) 5 := by
    rw [hG11]
    refine ak_new (fun j hj => ?_)
    have hh : j = 0 ∨ j = 1 ∨ j = 2 ∨ j = 3 ∨ j = 4 := by omega
    have h0 : gA V11 (n + 10) 0 = 111 := by rw [hV11]; simp [gA_sA]
    have h1 : gA V11 (n + 10) 1 = 102 := by rw [hV11]; simp [gA_sA]
    have h2 : gA V11 (n + 10) 2 = 116 := by rw [hV11]; simp [gA_sA]
    have h3 : gA V11 (n + 10) 3 = 101 := by rw [hV11]; simp [gA_sA]
    have h4 : gA V11 (n + 10) 4 = 110 := by rw [hV11]; simp [gA_sA]
    rcases hh with rfl | rfl | rfl | rfl | rfl
    · exact h0.trans (by decide)
    · exact h1.trans (by decide)
    · exact h2.trans (by decide)
    · exact h3.trans (by decide)
    · exact h4.trans (by decide)
  have vi11 : gI V11 = gI V10 := by rw [hV11]; rfl
  have vj11 : gJ V11 = gJ V10 := by rw [hV11]; rfl
  have T11 : gy r (n + 11) 78 G11 V11 G11 V11 := gy_refl
  have T10 : gy r (n + 10) 77 G10 V10 G11 V11 := (y11.trans T11 (by omega) (by decide)).weak (by omega) (by decide)
  have T9 : gy r (n + 9) 76 G9 V9 G11 V11 := (y10.trans T10 (by omega) (by decide)).weak (by omega) (by decide)
  have T8 : gy r (n + 8) 75 G8 V8 G11 V11 := (y9.trans T9 (by omega) (by decide)).weak (by omega) (by decide)
  have T7 : gy r (n + 7) 69 G7 V7 G11 V11 := (y8.trans T8 (by omega) (by decide)).weak (by omega) (by decide)
  have T6 : gy r (n + 6) 68 G6 V6 G11 V11 := (y7.trans T7 (by omega) (by decide)).weak (by omega) (by decide)
  have T5 : gy r (n + 5) 67 G5 V5 G11 V11 := (y6.trans T6 (by omega) (by decide)).weak (by omega) (by decide)
  have T4 : gy r (n + 4) 64 G4 V4 G11 V11 := (y5.trans T5 (by omega) (by decide)).weak (by omega) (by decide)
  have T3 : gy r (n + 3) 61 G3 V3 G11 V11 := (y4.trans T4 (by omega) (by decide)).weak (by omega) (by decide)
  have T2 : gy r (n + 2) 60 G2 V2 G11 V11 := (y3.trans T3 (by omega) (by decide)).weak (by omega) (by decide)
  have T1 : gy r (n + 1) 51 G1 V1 G11 V11 := (y2.trans T2 (by omega) (by decide)).weak (by omega) (by decide)
  have hI : gI V11 = gI V := by rw [vi11, vi10, vi9, vi8, vi7, vi6, vi5, vi4, vi3, vi2, vi1]
  have hJ0 : gJ V6 = gJ V := by rw [vj6, vj5, vj4, vj3, vj2, vj1]
  have hJ : gJ V11 = gJ (sJ V r 71 1) := by rw [vj11, vj10, vj9, vj8, vj7]; show u2 (gJ V6) r 71 1 = u2 (gJ V) r 71 1; rw [hJ0]
  refine ⟨G11, V11, ?_, c11, (y1.trans T1 (by omega) (by decide)).weak (by omega) (by decide), hI, hJ, a1.up T1 (by omega) (by omega) (by decide), a2.up T2 (by omega) (by omega) (by decide), a3.up T3 (by omega) (by omega) (by decide), a4.up T4 (by omega) (by omega) (by decide), a5.up T5 (by omega) (by omega) (by decide), a6.up T6 (by omega) (by omega) (by decide), a7.up T7 (by omega) (by omega) (by decide), a8.up T8 (by omega) (by omega) (by decide), a9.up T9 (by omega) (by omega) (by decide), a10.up T10 (by omega) (by omega) (by decide), a11.up T11 (by omega) (by omega) (by decide)⟩
  unfold F_X10_init_J821
  refine E_gd hc ?_
  dsimp only
  refine E_lt (E_lt (E_gd ⟨nw_c (by omega) hc, nw_a⟩ (E_lt (?_))))
  rw [← hG1, ← hV1]
  refine E_lt (E_lt (E_gd ⟨nw_c (by omega) c1, nw_a⟩ (E_lt (?_))))
  rw [← hG2, ← hV2]
  refine E_lt (E_lt (E_gd ⟨nw_c (by omega) c2, nw_a⟩ (E_lt (?_))))
  rw [← hG3, ← hV3]
  refine E_lt (E_lt (E_gd ⟨nw_c (by omega) c3, nw_a⟩ (E_lt (?_))))
  rw [← hG4, ← hV4]
  refine E_lt (E_lt (E_gd ⟨nw_c (by omega) c4, nw_a⟩ (E_lt (?_))))
  rw [← hG5, ← hV5]
  refine E_lt (E_lt (E_gd ⟨nw_c (by omega) c5, nw_a⟩ (E_lt (?_))))
  rw [← hG6, ← hV6]
  refine E_lt (E_lt (E_gd ⟨nw_c (by omega) c6, nw_a⟩ (E_lt (E_lt (?_)))))
  rw [← hG7, ← hV7]
  refine E_lt (E_lt (E_gd ⟨nw_c (by omega) c7, nw_a⟩ (E_lt (?_))))
  rw [← hG8, ← hV8]
  refine E_lt (E_lt (E_gd ⟨nw_c (by omega) c8, nw_a⟩ (E_lt (E_lt (E_lt (E_lt (E_lt (E_lt (?_)))))))))
  rw [← hG9, ← hV9]
  refine E_lt (E_lt (E_gd ⟨nw_c (by omega) c9, nw_a⟩ (E_lt (E_lt (E_lt (E_lt (E_lt (?_))))))))
  rw [← hG10, ← hV10]
  refine E_lt (E_lt (E_gd ⟨nw_c (by omega) c10, nw_a⟩ (E_lt (E_lt (E_lt (E_lt (E_lt (E_lt (?_)))))))))
  rw [← hG11, ← hV11]
theorem mk_init_J983 (hc : G.1 r = .inl 10) (hr : r < n) : ∃ G' V', F_X10_init_J983 r (n, z, G, V) = F_X10_init_J1157 r (n + 7, z + 5 + 4 + 5 + 3 + 3 + 2 + 3, G', V') ∧ G'.1 r = .inl 10 ∧ gy r n 78 G V G' V' ∧ gI V' = gI V ∧ gJ V' = gJ V ∧ ak G' V' r 78 n (.inr (1, 5)) (fun j => (wl.getD 27 []).getD j 0 + 96) 5 ∧ ak G' V' r 79 (n + 1) (.inr (1, 4)) (fun j => (wl.getD 28 []).getD j 0 + 96) 4 ∧ ak G' V' r 80 (n + 2) (.inr (1, 5)) (fun j => (wl.getD 29 []).getD j 0 + 96) 5 ∧ ak G' V' r 81 (n + 3) (.inr (1, 3)) (fun j => (wl.getD 20 []).getD j 0 + 96) 3 ∧ ak G' V' r 82 (n + 4) (.inr (1, 3)) (fun j => (wl.getD 19 []).getD j 0 + 96) 3 ∧ ak G' V' r 83 (n + 5) (.inr (1, 2)) (fun j => (wl.getD 18 []).getD j 0 + 96) 2 ∧ ak G' V' r 84 (n + 6) (.inr (1, 3)) (fun j => (wl.getD 21 []).getD j 0 + 96) 3 := by
  obtain ⟨G1, hG1⟩ : ∃ H, H = sR (nw G n (.inr (1, 5))) r 78 (.ref n) := ⟨_, rfl⟩
  obtain ⟨V1, hV1⟩ : ∃ U, U = sA (sA (sA (sA (sA (zA V n) n 0 116) n 1 111) n 2 116) n 3 97) n 4 108 := ⟨_, rfl⟩
  have c1 : G1.1 r = .inl 10 := by rw [hG1]; exact st_c (by omega) hc
  have y1 : gy r n 78 G V G1 V1 := by
    rw [hG1, hV1]
    exact gy_new (fun b hb => ((gA_sAo hb).trans ((gA_sAo hb).trans ((gA_sAo hb).trans ((gA_sAo hb).trans ((gA_sAo hb).trans (zA_o hb))))))) (fun _ _ => rfl)
  have a1 : ak G1 V1 r 78 n (.inr (1, 5)) (fun j => (wl.getD 27 []).getD j 0 + 96) 5 := by
    rw [hG1]
    refine ak_new (fun j hj => ?_)
    have hh : j = 0 ∨ j = 1 ∨ j = 2 ∨ j = 3 ∨ j = 4 := by omega
    have h0 : gA V1 n 0 = 116 := by rw [hV1]; simp [gA_sA]
    have h1 : gA V1 n 1 = 111 := by rw [hV1]; simp [gA_sA]
    have h2 : gA V1 n 2 = 116 := by rw [hV1]; simp [gA_sA]
    have h3 : gA V1 n 3 = 97 := by rw [hV1]; simp [gA_sA]
    have h4 : gA V1 n 4 = 108 := by rw [hV1]; simp [gA_sA]
    rcases hh with rfl | rfl | rfl | rfl | rfl
    · exact h0.trans (by decide)
    · exact h1.trans (by decide)
    · exact h2.trans (by decide)
    · exact h3.trans (by decide)
    · exact h4.trans (by decide)
  have vi1 : gI V1 = gI V := by rw [hV1]; rfl
  have vj1 : gJ V1 = gJ V := by rw [hV1]; rfl
  obtain ⟨G2, hG2⟩ : ∃ H, H = sR (nw G1 (n + 1) (.inr (1, 4))) r 79 (.ref (n + 1)) := ⟨_, rfl⟩
  obtain ⟨V2, hV2⟩ : ∃ U, U = sA (sA (sA (sA (zA V1 (n + 1)) (n + 1) 0 109) (n + 1) 1 111) (n + 1) 2 115) (n + 1) 3 116 := ⟨_, rfl⟩
  have c2 : G2.1 r = .inl 10 := by rw [hG2]; exact st_c (by omega) c1
  have y2 : gy r (n + 1) 79 G1 V1 G2 V2 := by
    rw [hG2, hV2]
    exact gy_new (fun b hb => ((gA_sAo hb).trans ((gA_sAo hb).trans ((gA_sAo hb).trans ((gA_sAo hb).trans (zA_o hb)))))) (fun _ _ => rfl)
  have a2 : ak G2 V2 r 79 (n + 1) (.inr (1, 4)) (fun j => (wl.getD 28 []).getD j 0 + 96) 4 := by
    rw [hG2]
    refine ak_new (fun j hj => ?_)
    have hh : j = 0 ∨ j = 1 ∨ j = 2 ∨ j = 3 := by omega
    have h0 : gA V2 (n + 1) 0 = 109 := by rw [hV2]; simp [gA_sA]
    have h1 : gA V2 (n + 1) 1 = 111 := by rw [hV2]; simp [gA_sA]
    have h2 : gA V2 (n + 1) 2 = 115 := by rw [hV2]; simp [gA_sA]
    have h3 : gA V2 (n + 1) 3 = 116 := by rw [hV2]; simp [gA_sA]
    rcases hh with rfl | rfl | rfl | rfl
    · exact h0.trans (by decide)
    · exact h1.trans (by decide)
    · exact h2.trans (by decide)
    · exact h3.trans (by decide)
  have vi2 : gI V2 = gI V1 := by rw [hV2]; rfl
  have vj2 : gJ V2 = gJ V1 := by rw [hV2]; rfl
  obtain ⟨G3, hG3⟩ : ∃ H, H = sR (nw G2 (n + 2) (.inr (1, 5))) r 80 (.ref (n + 2)) := ⟨_, rfl⟩
  obtain ⟨V3, hV3⟩ : ∃ U, U = sA (sA (sA (sA (sA (zA V2 (n + 2)) (n + 2) 0 108) (n + 2) 1 101) (n + 2) 2 97) (n + 2) 3 115) (n + 2) 4 116 := ⟨_, rfl⟩
  have c3 : G3.1 r = .inl 10 := by rw [hG3]; exact st_c (by omega) c2
  have y3 : gy r (n + 2) 80 G2 V2 G3 V3 := by
    rw [hG3, hV3]
    exact gy_new (fun b hb => ((gA_sAo hb).trans ((gA_sAo hb).trans ((gA_sAo hb).trans ((gA_sAo hb).trans ((gA_sAo hb).trans (zA_o hb))))))) (fun _ _ => rfl)
  have a3 : ak G3 V3 r 80 (n + 2) (.inr (1, 5)) (fun j => (wl.getD 29 []).getD j 0 + 96) 5 := by
    rw [hG3]
    refine ak_new (fun j hj => ?_)
    have hh : j = 0 ∨ j = 1 ∨ j = 2 ∨ j = 3 ∨ j = 4 := by omega
    have h0 : gA V3 (n + 2) 0 = 108 := by rw [hV3]; simp [gA_sA]
    have h1 : gA V3 (n + 2) 1 = 101 := by rw [hV3]; simp [gA_sA]
    have h2 : gA V3 (n + 2) 2 = 97 := by rw [hV3]; simp [gA_sA]
    have h3 : gA V3 (n + 2) 3 = 115 := by rw [hV3]; simp [gA_sA]
    have h4 : gA V3 (n + 2) 4 = 116 := by rw [hV3]; simp [gA_sA]
    rcases hh with rfl | rfl | rfl | rfl | rfl
    · exact h0.trans (by decide)
    · exact h1.trans (by decide)
    · exact h2.trans (by decide)
    · exact h3.trans (by decide)
    · exact h4.trans (by decide)
  have vi3 : gI V3 = gI V2 := by rw [hV3]; rfl
  have vj3 : gJ V3 = gJ V2 := by rw [hV3]; rfl
  obtain ⟨G4, hG4⟩ : ∃ H, H = sR (nw G3 (n + 3) (.inr (1, 3))) r 81 (.ref (n + 3)) := ⟨_, rfl⟩
  obtain ⟨V4, hV4⟩ : ∃ U, U = sA (sA (sA (zA V3 (n + 3)) (n + 3) 0 110) (n + 3) 1 111) (n + 3) 2 116 := ⟨_, rfl⟩
  have c4 : G4.1 r = .inl 10 := by rw [hG4]; exact st_c (by omega) c3
  have y4 : gy r (n + 3) 81 G3 V3 G4 V4 := by
    rw [hG4, hV4]
    exact gy_new (fun b hb => ((gA_sAo hb).trans ((gA_sAo hb).trans ((gA_sAo hb).trans (zA_o hb))))) (fun _ _ => rfl)
  have a4 : ak G4 V4 r 81 (n + 3) (.inr (1, 3)) (fun j => (wl.getD 20 []).getD j 0 + 96) 3 := by
    rw [hG4]
    refine ak_new (fun j hj => ?_)
    have hh : j = 0 ∨ j = 1 ∨ j = 2 := by omega
    have h0 : gA V4 (n + 3) 0 = 110 := by rw [hV4]; simp [gA_sA]
    have h1 : gA V4 (n + 3) 1 = 111 := by rw [hV4]; simp [gA_sA]
    have h2 : gA V4 (n + 3) 2 = 116 := by rw [hV4]; simp [gA_sA]
    rcases hh with rfl | rfl | rfl
    · exact h0.trans (by decide)
    · exact h1.trans (by decide)
    · exact h2.trans (by decide)
  have vi4 : gI V4 = gI V3 := by rw [hV4]; rfl
  have vj4 : gJ V4 = gJ V3 := by rw [hV4]; rfl
  obtain ⟨G5, hG5⟩ : ∃ H, H = sR (nw G4 (n + 4) (.inr (1, 3))) r 82 (.ref (n + 4)) := ⟨_, rfl⟩
  obtain ⟨V5, hV5⟩ : ∃ U, U = sA (sA (sA (zA V4 (n + 4)) (n + 4) 0 97) (n + 4) 1 110) (n + 4) 2 100 := ⟨_, rfl⟩
  have c5 : G5.1 r = .inl 10 := by rw [hG5]; exact st_c (by omega) c4
  have y5 : gy r (n + 4) 82 G4 V4 G5 V5 := by
    rw [hG5, hV5]
    exact gy_new (fun b hb => ((gA_sAo hb).trans ((gA_sAo hb).trans ((gA_sAo hb).trans (zA_o hb))))) (fun _ _ => rfl)
  have a5 : ak G5 V5 r 82 (n + 4) (.inr (1, 3)) (fun j => (wl.getD 19 []).getD j 0 + 96) 3 := by
    rw [hG5]
    refine ak_new (fun j hj => ?_)
    have hh : j = 0 ∨ j = 1 ∨ j = 2 := by omega
    have h0 : gA V5 (n + 4) 0 = 97 := by rw [hV5]; simp [gA_sA]
    have h1 : gA V5 (n + 4) 1 = 110 := by rw [hV5]; simp [gA_sA]
    have h2 : gA V5 (n + 4) 2 = 100 := by rw [hV5]; simp [gA_sA]
    rcases hh with rfl | rfl | rfl
    · exact h0.trans (by decide)
    · exact h1.trans (by decide)
    · exact h2.trans (by decide)
  have vi5 : gI V5 = gI V4 := by rw [hV5]; rfl
  have vj5 : gJ V5 = gJ V4 := by rw [hV5]; rfl
  obtain ⟨G6, hG6⟩ : ∃ H, H = sR (nw G5 (n + 5) (.inr (1, 2))) r 83 (.ref (n + 5)) := ⟨_, rfl⟩
  obtain ⟨V6, hV6⟩ : ∃ U, U = sA (sA (zA V5 (n + 5)) (n + 5) 0 111) (n + 5) 1 114 := ⟨_, rfl⟩
  have c6 : G6.1 r = .inl 10 := by rw [hG6]; exact st_c (by omega) c5
  have y6 : gy r (n + 5) 83 G5 V5 G6 V6 := by
    rw [hG6, hV6]
    exact gy_new (fun b hb => ((gA_sAo hb).trans ((gA_sAo hb).trans (zA_o hb)))) (fun _ _ => rfl)
  have a6 : ak G6 V6 r 83 (n + 5) (.inr (1, 2)) (fun j => (wl.getD 18 []).getD j 0 + 96) 2 := by
    rw [hG6]
    refine ak_new (fun j hj => ?_)
    have hh : j = 0 ∨ j = 1 := by omega
    have h0 : gA V6 (n + 5) 0 = 111 := by rw [hV6]; simp [gA_sA]
    have h1 : gA V6 (n + 5) 1 = 114 := by rw [hV6]; simp [gA_sA]
    rcases hh with rfl | rfl
    · exact h0.trans (by decide)
    · exact h1.trans (by decide)
  have vi6 : gI V6 = gI V5 := by rw [hV6]; rfl
  have vj6 : gJ V6 = gJ V5 := by rw [hV6]; rfl
  obtain ⟨G7, hG7⟩ : ∃ H, H = sR (nw G6 (n + 6) (.inr (1, 3))) r 84 (.ref (n + 6)) := ⟨_, rfl⟩
  obtain ⟨V7, hV7⟩ : ∃ U, U = sA (sA (sA (zA V6 (n + 6)) (n + 6) 0 97) (n + 6) 1 108) (n + 6) 2 108 := ⟨_, rfl⟩
  have c7 : G7.1 r = .inl 10 := by rw [hG7]; exact st_c (by omega) c6
  have y7 : gy r (n + 6) 84 G6 V6 G7 V7 := by
    rw [hG7, hV7]
    exact gy_new (fun b hb => ((gA_sAo hb).trans ((gA_sAo hb).trans ((gA_sAo hb).trans (zA_o hb))))) (fun _ _ => rfl)
  have a7 : ak G7 V7 r 84 (n + 6) (.inr (1, 3)) (fun j => (wl.getD 21 []).getD j 0 + 96) 3 := by
    rw [hG7]
    refine ak_new (fun j hj => ?_)
    have hh : j = 0 ∨ j = 1 ∨ j = 2 := by omega
    have h0 : gA V7 (n + 6) 0 = 97 := by rw [hV7]; simp [gA_sA]
    have h1 : gA V7 (n + 6) 1 = 108 := by rw [hV7]; simp [gA_sA]
    have h2 : gA V7 (n + 6) 2 = 108 := by rw [hV7]; simp [gA_sA]
    rcases hh with rfl | rfl | rfl
    · exact h0.trans (by decide)
    · exact h1.trans (by decide)
    · exact h2.trans (by decide)
  have vi7 : gI V7 = gI V6 := by rw [hV7]; rfl
  have vj7 : gJ V7 = gJ V6 := by rw [hV7]; rfl
  have T7 : gy r (n + 7) 85 G7 V7 G7 V7 := gy_refl
  have T6 : gy r (n + 6) 84 G6 V6 G7 V7 := (y7.trans T7 (by omega) (by decide)).weak (by omega) (by decide)
  have T5 : gy r (n + 5) 83 G5 V5 G7 V7 := (y6.trans T6 (by omega) (by decide)).weak (by omega) (by decide)
  have T4 : gy r (n + 4) 82 G4 V4 G7 V7 := (y5.trans T5 (by omega) (by decide)).weak (by omega) (by decide)
  have T3 : gy r (n + 3) 81 G3 V3 G7 V7 := (y4.trans T4 (by omega) (by decide)).weak (by omega) (by decide)
  have T2 : gy r (n + 2) 80 G2 V2 G7 V7 := (y3.trans T3 (by omega) (by decide)).weak (by omega) (by decide)
  have T1 : gy r (n + 1) 79 G1 V1 G7 V7 := (y2.trans T2 (by omega) (by decide)).weak (by omega) (by decide)
  have hI : gI V7 = gI V := by rw [vi7, vi6, vi5, vi4, vi3, vi2, vi1]
  have hJ : gJ V7 = gJ V := by rw [vj7, vj6, vj5, vj4, vj3, vj2, vj1]
  refine ⟨G7, V7, ?_, c7, (y1.trans T1 (by omega) (by decide)).weak (by omega) (by decide), hI, hJ, a1.up T1 (by omega) (by omega) (by decide), a2.up T2 (by omega) (by omega) (by decide), a3.up T3 (by omega) (by omega) (by decide), a4.up T4 (by omega) (by omega) (by decide), a5.up T5 (by omega) (by omega) (by decide), a6.up T6 (by omega) (by omega) (by decide), a7.up T7 (by omega) (by omega) (by decide)⟩
  unfold F_X10_init_J983
  refine E_gd hc ?_
  dsimp only
  refine E_lt (E_lt (E_gd ⟨nw_c (by omega) hc, nw_a⟩ (E_lt (E_lt (E_lt (E_lt (E_lt (E_lt (?_)))))))))
  rw [← hG1, ← hV1]
  refine E_lt (E_lt (E_gd ⟨nw_c (by omega) c1, nw_a⟩ (E_lt (E_lt (E_lt (E_lt (E_lt (?_))))))))
  rw [← hG2, ← hV2]
  refine E_lt (E_lt (E_gd ⟨nw_c (by omega) c2, nw_a⟩ (E_lt (E_lt (E_lt (E_lt (E_lt (E_lt (?_)))))))))
  rw [← hG3, ← hV3]
  refine E_lt (E_lt (E_gd ⟨nw_c (by omega) c3, nw_a⟩ (E_lt (E_lt (E_lt (E_lt (?_)))))))
  rw [← hG4, ← hV4]
  refine E_lt (E_lt (E_gd ⟨nw_c (by omega) c4, nw_a⟩ (E_lt (E_lt (E_lt (E_lt (?_)))))))
  rw [← hG5, ← hV5]
  refine E_lt (E_lt (E_gd ⟨nw_c (by omega) c5, nw_a⟩ (E_lt (E_lt (E_lt (?_))))))
  rw [← hG6, ← hV6]
  refine E_lt (E_lt (E_gd ⟨nw_c (by omega) c6, nw_a⟩ (E_lt (E_lt (E_lt (E_lt (?_)))))))
  rw [← hG7, ← hV7]
theorem mk_init_J1157 (hc : G.1 r = .inl 10) (hr : r < n) : ∃ G' V', F_X10_init_J1157 r (n, z, G, V) = F_X10_init_J1347 r (n + 7, z + 3 + 3 + 5 + 3 + 6 + 4 + 4, G', V') ∧ G'.1 r = .inl 10 ∧ gy r n 85 G V G' V' ∧ gI V' = gI V ∧ gJ V' = gJ V ∧ ak G' V' r 85 n (.inr (1, 3)) (fun j => (wl.getD 22 []).getD j 0 + 96) 3 ∧ ak G' V' r 86 (n + 1) (.inr (1, 3)) (fun j => (wl.getD 23 []).getD j 0 + 96) 3 ∧ ak G' V' r 87 (n + 2) (.inr (1, 5)) (fun j => (wl.getD 12 []).getD j 0 + 96) 5 ∧ ak G' V' r 88 (n + 3) (.inr (1, 3)) (fun j => (wl.getD 13 []).getD j 0 + 96) 3 ∧ ak G' V' r 89 (n + 4) (.inr (1, 6)) (fun j => (wl.getD 14 []).getD j 0 + 96) 6 ∧ ak G' V' r 90 (n + 5) (.inr (1, 4)) (fun j => (wl.getD 15 []).getD j 0 + 96) 4 ∧ ak G' V' r 91 (n + 6) (.inr (1, 4)) (fun j => (wl.getD 3 []).getD j 0 + 96) 4 := by
  obtain ⟨G1, hG1⟩ : ∃ H, H = sR (nw G n (.inr (1, 3))) r 85 (.ref n) := ⟨_, rfl⟩
  obtain ⟨V1, hV1⟩ : ∃ U, U = sA (sA (sA (zA V n) n 0 109) n 1 105) n 2 110 := ⟨_, rfl⟩
  have c1 : G1.1 r = .inl 10 := by rw [hG1]; exact st_c (by omega) hc
  have y1 : gy r n 85 G V G1 V1 := by
    rw [hG1, hV1]
    exact gy_new (fun b hb => ((gA_sAo hb).trans ((gA_sAo hb).trans ((gA_sAo hb).trans (zA_o hb))))) (fun _ _ => rfl)
  have a1 : ak G1 V1 r 85 n (.inr (1, 3)) (fun j => (wl.getD 22 []).getD j 0 + 96) 3 := by
    rw [hG1]
    refine ak_new (fun j hj => ?_)
    have hh : j = 0 ∨ j = 1 ∨ j = 2 := by omega
    have h0 : gA V1 n 0 = 109 := by rw [hV1]; simp [gA_sA]
    have h1 : gA V1 n 1 = 105 := by rw [hV1]; simp [gA_sA]
    have h2 : gA V1 n 2 = 110 := by rw [hV1]; simp [gA_sA]
    rcases hh with rfl | rfl | rfl
    · exact h0.trans (by decide)
    · exact h1.trans (by decide)
    · exact h2.trans (by decide)
  have vi1 : gI V1 = gI V := by rw [hV1]; rfl
  have vj1 : gJ V1 = gJ V := by rw [hV1]; rfl
  obtain ⟨G2, hG2⟩ : ∃ H, H = sR (nw G1 (n + 1) (.inr (1, 3))) r 86 (.ref (n + 1)) := ⟨_, rfl⟩
  obtain ⟨V2, hV2⟩ : ∃ U, U = sA (sA (sA (zA V1 (n + 1)) (n + 1) 0 109) (n + 1) 1 97) (n + 1) 2 120 := ⟨_, rfl⟩
  have c2 : G2.1 r = .inl 10 := by rw [hG2]; exact st_c (by omega) c1
  have y2 : gy r (n + 1) 86 G1 V1 G2 V2 := by
    rw [hG2, hV2]
    exact gy_new (fun b hb => ((gA_sAo hb).trans ((gA_sAo hb).trans ((gA_sAo hb).trans (zA_o hb))))) (fun _ _ => rfl)
  have a2 : ak G2 V2 r 86 (n + 1) (.inr (1, 3)) (fun j => (wl.getD 23 []).getD j 0 + 96) 3 := by
    rw [hG2]
    refine ak_new (fun j hj => ?_)
    have hh : j = 0 ∨ j = 1 ∨ j = 2 := by omega
    have h0 : gA V2 (n + 1) 0 = 109 := by rw [hV2]; simp [gA_sA]
    have h1 : gA V2 (n + 1) 1 = 97 := by rw [hV2]; simp [gA_sA]
    have h2 : gA V2 (n + 1) 2 = 120 := by rw [hV2]; simp [gA_sA]
    rcases hh with rfl | rfl | rfl
    · exact h0.trans (by decide)
    · exact h1.trans (by decide)
    · exact h2.trans (by decide)
  have vi2 : gI V2 = gI V1 := by rw [hV2]; rfl
  have vj2 : gJ V2 = gJ V1 := by rw [hV2]; rfl
  obtain ⟨G3, hG3⟩ : ∃ H, H = sR (nw G2 (n + 2) (.inr (1, 5))) r 87 (.ref (n + 2)) := ⟨_, rfl⟩
  obtain ⟨V3, hV3⟩ : ∃ U, U = sA (sA (sA (sA (sA (zA V2 (n + 2)) (n + 2) 0 99) (n + 2) 1 108) (n + 2) 2 111) (n + 2) 3 99) (n + 2) 4 107 := ⟨_, rfl⟩
  have c3 : G3.1 r = .inl 10 := by rw [hG3]; exact st_c (by omega) c2
  have y3 : gy r (n + 2) 87 G2 V2 G3 V3 := by
    rw [hG3, hV3]
    exact gy_new (fun b hb => ((gA_sAo hb).trans ((gA_sAo hb).trans ((gA_sAo hb).trans ((gA_sAo hb).trans ((gA_sAo hb).trans (zA_o hb))))))) (fun _ _ => rfl)
  have a3 : ak G3 V3 r 87 (n + 2) (.inr (1, 5)) (fun j => (wl.getD 12 []).getD j 0 + 96) 5 := by
    rw [hG3]
    refine ak_new (fun j hj => ?_)
    have hh : j = 0 ∨ j = 1 ∨ j = 2 ∨ j = 3 ∨ j = 4 := by omega
    have h0 : gA V3 (n + 2) 0 = 99 := by rw [hV3]; simp [gA_sA]
    have h1 : gA V3 (n + 2) 1 = 108 := by rw [hV3]; simp [gA_sA]
    have h2 : gA V3 (n + 2) 2 = 111 := by rw [hV3]; simp [gA_sA]
    have h3 : gA V3 (n + 2) 3 = 99 := by rw [hV3]; simp [gA_sA]
    have h4 : gA V3 (n + 2) 4 = 107 := by rw [hV3]; simp [gA_sA]
    rcases hh with rfl | rfl | rfl | rfl | rfl
    · exact h0.trans (by decide)
    · exact h1.trans (by decide)
    · exact h2.trans (by decide)
    · exact h3.trans (by decide)
    · exact h4.trans (by decide)
  have vi3 : gI V3 = gI V2 := by rw [hV3]; rfl
  have vj3 : gJ V3 = gJ V2 := by rw [hV3]; rfl
  obtain ⟨G4, hG4⟩ : ∃ H, H = sR (nw G3 (n + 3) (.inr (1, 3))) r 88 (.ref (n + 3)) := ⟨_, rfl⟩
  obtain ⟨V4, hV4⟩ : ∃ U, U = sA (sA (sA (zA V3 (n + 3)) (n + 3) 0 100) (n + 3) 1 97) (n + 3) 2 121 := ⟨_, rfl⟩
  have c4 : G4.1 r = .inl 10 := by rw [hG4]; exact st_c (by omega) c3
  have y4 : gy r (n + 3) 88 G3 V3 G4 V4 := by
    rw [hG4, hV4]
    exact gy_new (fun b hb => ((gA_sAo hb).trans ((gA_sAo hb).trans ((gA_sAo hb).trans (zA_o hb))))) (fun _ _ => rfl)
  have a4 : ak G4 V4 r 88 (n + 3) (.inr (1, 3)) (fun j => (wl.getD 13 []).getD j 0 + 96) 3 := by
    rw [hG4]
    refine ak_new (fun j hj => ?_)
    have hh : j = 0 ∨ j = 1 ∨ j = 2 := by omega
    have h0 : gA V4 (n + 3) 0 = 100 := by rw [hV4]; simp [gA_sA]
    have h1 : gA V4 (n + 3) 1 = 97 := by rw [hV4]; simp [gA_sA]
    have h2 : gA V4 (n + 3) 2 = 121 := by rw [hV4]; simp [gA_sA]
    rcases hh with rfl | rfl | rfl
    · exact h0.trans (by decide)
    · exact h1.trans (by decide)
    · exact h2.trans (by decide)
  have vi4 : gI V4 = gI V3 := by rw [hV4]; rfl
  have vj4 : gJ V4 = gJ V3 := by rw [hV4]; rfl
  obtain ⟨G5, hG5⟩ : ∃ H, H = sR (nw G4 (n + 4) (.inr (1, 6))) r 89 (.ref (n + 4)) := ⟨_, rfl⟩
  obtain ⟨V5, hV5⟩ : ∃ U, U = sA (sA (sA (sA (sA (sA (zA V4 (n + 4)) (n + 4) 0 112) (n + 4) 1 111) (n + 4) 2 105) (n + 4) 3 110) (n + 4) 4 116) (n + 4) 5 115 := ⟨_, rfl⟩
  have c5 : G5.1 r = .inl 10 := by rw [hG5]; exact st_c (by omega) c4
  have y5 : gy r (n + 4) 89 G4 V4 G5 V5 := by
    rw [hG5, hV5]
    exact gy_new (fun b hb => ((gA_sAo hb).trans ((gA_sAo hb).trans ((gA_sAo hb).trans ((gA_sAo hb).trans ((gA_sAo hb).trans ((gA_sAo hb).trans (zA_o hb)))))))) (fun _ _ => rfl)
  have a5 : ak G5 V5 r 89 (n + 4) (.inr (1, 6)) (fun j => (wl.getD 14 []).getD j 0 + 96) 6 := by
    rw [hG5]
    refine ak_new (fun j hj => ?_)
    have hh : j = 0 ∨ j = 1 ∨ j = 2 ∨ j = 3 ∨ j = 4 ∨ j = 5 := by omega
    have h0 : gA V5 (n + 4) 0 = 112 := by rw [hV5]; simp [gA_sA]
    have h1 : gA V5 (n + 4) 1 = 111 := by rw [hV5]; simp [gA_sA]
    have h2 : gA V5 (n + 4) 2 = 105 := by rw [hV5]; simp [gA_sA]
    have h3 : gA V5 (n + 4) 3 = 110 := by rw [hV5]; simp [gA_sA]
    have h4 : gA V5 (n + 4) 4 = 116 := by rw [hV5]; simp [gA_sA]
    have h5 : gA V5 (n + 4) 5 = 115 := by rw [hV5]; simp [gA_sA]
    rcases hh with rfl | rfl | rfl | rfl | rfl | rfl
    · exact h0.trans (by decide)
    · exact h1.trans (by decide)
    · exact h2.trans (by decide)
    · exact h3.trans (by decide)
    · exact h4.trans (by decide)
    · exact h5.trans (by decide)
  have vi5 : gI V5 = gI V4 := by rw [hV5]; rfl
  have vj5 : gJ V5 = gJ V4 := by rw [hV5]; rfl
  obtain ⟨G6, hG6⟩ : ∃ H, H = sR (nw G5 (n + 5) (.inr (1, 4))) r 90 (.ref (n + 5)) := ⟨_, rfl⟩
  obtain ⟨V6, hV6⟩ : ∃ U, U = sA (sA (sA (sA (zA V5 (n + 5)) (n + 5) 0 115) (n + 5) 1 97) (n + 5) 2 109) (n + 5) 3 101 := ⟨_, rfl⟩
  have c6 : G6.1 r = .inl 10 := by rw [hG6]; exact st_c (by omega) c5
  have y6 : gy r (n + 5) 90 G5 V5 G6 V6 := by
    rw [hG6, hV6]
    exact gy_new (fun b hb => ((gA_sAo hb).trans ((gA_sAo hb).trans ((gA_sAo hb).trans ((gA_sAo hb).trans (zA_o hb)))))) (fun _ _ => rfl)
  have a6 : ak G6 V6 r 90 (n + 5) (.inr (1, 4)) (fun j => (wl.getD 15 []).getD j 0 + 96) 4 := by
    rw [hG6]
    refine ak_new (fun j hj => ?_)
    have hh : j = 0 ∨ j = 1 ∨ j = 2 ∨ j = 3 := by omega
    have h0 : gA V6 (n + 5) 0 = 115 := by rw [hV6]; simp [gA_sA]
    have h1 : gA V6 (n + 5) 1 = 97 := by rw [hV6]; simp [gA_sA]
    have h2 : gA V6 (n + 5) 2 = 109 := by rw [hV6]; simp [gA_sA]
    have h3 : gA V6 (n + 5) 3 = 101 := by rw [hV6]; simp [gA_sA]
    rcases hh with rfl | rfl | rfl | rfl
    · exact h0.trans (by decide)
    · exact h1.trans (by decide)
    · exact h2.trans (by decide)
    · exact h3.trans (by decide)
  have vi6 : gI V6 = gI V5 := by rw [hV6]; rfl
  have vj6 : gJ V6 = gJ V5 := by rw [hV6]; rfl
  obtain ⟨G7, hG7⟩ : ∃ H, H = sR (nw G6 (n + 6) (.inr (1, 4))) r 91 (.ref (n + 6)) := ⟨_, rfl⟩
  obtain ⟨V7, hV7⟩ : ∃ U, U = sA (sA (sA (sA (zA V6 (n + 6)) (n + 6) 0 104) (n + 6) 1 97) (n + 6) 2 114) (n + 6) 3 100 := ⟨_, rfl⟩
  have c7 : G7.1 r = .inl 10 := by rw [hG7]; exact st_c (by omega) c6
  have y7 : gy r (n + 6) 91 G6 V6 G7 V7 := by
    rw [hG7, hV7]
    exact gy_new (fun b hb => ((gA_sAo hb).trans ((gA_sAo hb).trans ((gA_sAo hb).trans ((gA_sAo hb).trans (zA_o hb)))))) (fun _ _ => rfl)
  have a7 : ak G7 V7 r 91 (n + 6) (.inr (1, 4)) (fun j => (wl.getD 3 []).getD j 0 + 96) 4 := by
    rw [hG7]
    refine ak_new (fun j hj => ?_)
    have hh : j = 0 ∨ j = 1 ∨ j = 2 ∨ j = 3 := by omega
    have h0 : gA V7 (n + 6) 0 = 104 := by rw [hV7]; simp [gA_sA]
    have h1 : gA V7 (n + 6) 1 = 97 := by rw [hV7]; simp [gA_sA]
    have h2 : gA V7 (n + 6) 2 = 114 := by rw [hV7]; simp [gA_sA]
    have h3 : gA V7 (n + 6) 3 = 100 := by rw [hV7]; simp [gA_sA]
    rcases hh with rfl | rfl | rfl | rfl
    · exact h0.trans (by decide)
    · exact h1.trans (by decide)
    · exact h2.trans (by decide)
    · exact h3.trans (by decide)
  have vi7 : gI V7 = gI V6 := by rw [hV7]; rfl
  have vj7 : gJ V7 = gJ V6 := by rw [hV7]; rfl
  have T7 : gy r (n + 7) 92 G7 V7 G7 V7 := gy_refl
  have T6 : gy r (n + 6) 91 G6 V6 G7 V7 := (y7.trans T7 (by omega) (by decide)).weak (by omega) (by decide)
  have T5 : gy r (n + 5) 90 G5 V5 G7 V7 := (y6.trans T6 (by omega) (by decide)).weak (by omega) (by decide)
  have T4 : gy r (n + 4) 89 G4 V4 G7 V7 := (y5.trans T5 (by omega) (by decide)).weak (by omega) (by decide)
  have T3 : gy r (n + 3) 88 G3 V3 G7 V7 := (y4.trans T4 (by omega) (by decide)).weak (by omega) (by decide)
  have T2 : gy r (n + 2) 87 G2 V2 G7 V7 := (y3.trans T3 (by omega) (by decide)).weak (by omega) (by decide)
  have T1 : gy r (n + 1) 86 G1 V1 G7 V7 := (y2.trans T2 (by omega) (by decide)).weak (by omega) (by decide)
  have hI : gI V7 = gI V := by rw [vi7, vi6, vi5, vi4, vi3, vi2, vi1]
  have hJ : gJ V7 = gJ V := by rw [vj7, vj6, vj5, vj4, vj3, vj2, vj1]
  refine ⟨G7, V7, ?_, c7, (y1.trans T1 (by omega) (by decide)).weak (by omega) (by decide), hI, hJ, a1.up T1 (by omega) (by omega) (by decide), a2.up T2 (by omega) (by omega) (by decide), a3.up T3 (by omega) (by omega) (by decide), a4.up T4 (by omega) (by omega) (by decide), a5.up T5 (by omega) (by omega) (by decide), a6.up T6 (by omega) (by omega) (by decide), a7.up T7 (by omega) (by omega) (by decide)⟩
  unfold F_X10_init_J1157
  refine E_gd hc ?_
  dsimp only
  refine E_lt (E_lt (E_gd ⟨nw_c (by omega) hc, nw_a⟩ (E_lt (E_lt (E_lt (E_lt (?_)))))))
  rw [← hG1, ← hV1]
  refine E_lt (E_lt (E_gd ⟨nw_c (by omega) c1, nw_a⟩ (E_lt (E_lt (E_lt (E_lt (?_)))))))
  rw [← hG2, ← hV2]
  refine E_lt (E_lt (E_gd ⟨nw_c (by omega) c2, nw_a⟩ (E_lt (E_lt (E_lt (E_lt (E_lt (E_lt (?_)))))))))
  rw [← hG3, ← hV3]
  refine E_lt (E_lt (E_gd ⟨nw_c (by omega) c3, nw_a⟩ (E_lt (E_lt (E_lt (E_lt (?_)))))))
  rw [← hG4, ← hV4]
  refine E_lt (E_lt (E_gd ⟨nw_c (by omega) c4, nw_a⟩ (E_lt (E_lt (E_lt (E_lt (E_lt (E_lt (E_lt (?_))))))))))
  rw [← hG5, ← hV5]
  refine E_lt (E_lt (E_gd ⟨nw_c (by omega) c5, nw_a⟩ (E_lt (E_lt (E_lt (E_lt (E_lt (?_))))))))
  rw [← hG6, ← hV6]
  refine E_lt (E_lt (E_gd ⟨nw_c (by omega) c6, nw_a⟩ (E_lt (E_lt (E_lt (E_lt (E_lt (?_))))))))
  rw [← hG7, ← hV7]
theorem mk_init_J1347 (hc : G.1 r = .inl 10) (hr : r < n) : ∃ G' V', F_X10_init_J1347 r (n, z, G, V) = F_X10_init_J1520 r (n + 8, z + 3 + 6 + 4 + 4 + 5 + 1700 + 1700 + 1700, G', V') ∧ G'.1 r = .inl 10 ∧ gy r n 92 G V G' V' ∧ gI V' = gI V ∧ gJ V' = gJ V ∧ ak G' V' r 92 n (.inr (1, 3)) (fun j => (wl.getD 16 []).getD j 0 + 96) 3 ∧ ak G' V' r 93 (n + 1) (.inr (1, 6)) (fun j => (wl.getD 17 []).getD j 0 + 96) 6 ∧ ak G' V' r 94 (n + 2) (.inr (1, 4)) (fun j => (wl.getD 30 []).getD j 0 + 96) 4 ∧ ak G' V' r 95 (n + 3) (.inr (1, 4)) (fun j => (wl.getD 31 []).getD j 0 + 96) 4 ∧ ak G' V' r 96 (n + 4) (.inr (1, 5)) (fun j => (wl.getD 32 []).getD j 0 + 96) 5 ∧ ak G' V' r 97 (n + 5) (.inr (0, 1700)) (fun _ => 0) 1700 ∧ ak G' V' r 99 (n + 6) (.inr (0, 1700)) (fun _ => 0) 1700 ∧ ak G' V' r 103 (n + 7) (.inr (2, 1700)) (fun _ => 0) 0 := by
  obtain ⟨G1, hG1⟩ : ∃ H, H = sR (nw G n (.inr (1, 3))) r 92 (.ref n) := ⟨_, rfl⟩
  obtain ⟨V1, hV1⟩ : ∃ U, U = sA (sA (sA (zA V n) n 0 111) n 1 119) n 2 110 := ⟨_, rfl⟩
  have c1 : G1.1 r = .inl 10 := by rw [hG1]; exact st_c (by omega) hc
  have y1 : gy r n 92 G V G1 V1 := by
    rw [hG1, hV1]
    exact gy_new (fun b hb => ((gA_sAo hb).trans ((gA_sAo hb).trans ((gA_sAo hb).trans (zA_o hb))))) (fun _ _ => rfl)
  have a1 : ak G1 V1 r 92 n (.inr (1, 3)) (fun j => (wl.getD 16 []).getD j 0 + 96) 3 := by
    rw [hG1]
    refine ak_new (fun j hj => ?_)
    have hh : j = 0 ∨ j = 1 ∨ j = 2 := by omega
    have h0 : gA V1 n 0 = 111 := by rw [hV1]; simp [gA_sA]
    have h1 : gA V1 n 1 = 119 := by rw [hV1]; simp [gA_sA]
    have h2 : gA V1 n 2 = 110 := by rw [hV1]; simp [gA_sA]
    rcases hh with rfl | rfl | rfl
    · exact h0.trans (by decide)
    · exact h1.trans (by decide)
    · exact h2.trans (by decide)
  have vi1 : gI V1 = gI V := by rw [hV1]; rfl
  have vj1 : gJ V1 = gJ V := by rw [hV1]; rfl
  obtain ⟨G2, hG2⟩ : ∃ H, H = sR (nw G1 (n + 1) (.inr (1, 6))) r 93 (.ref (n + 1)) := ⟨_, rfl⟩
  obtain ⟨V2, hV2⟩ : ∃ U, U = sA (sA (sA (sA (sA (sA (zA V1 (n + 1)) (n + 1) 0 116) (n + 1) 1 104) (n + 1) 2 101) (n + 1) 3 105) (n + 1) 4 114) (n + 1) 5 115 := ⟨_, rfl⟩
  have c2 : G2.1 r = .inl 10 := by rw [hG2]; exact st_c (by omega) c1
  have y2 : gy r (n + 1) 93 G1 V1 G2 V2 := by
    rw [hG2, hV2]
    exact gy_new (fun b hb => ((gA_sAo hb).trans ((gA_sAo hb).trans ((gA_sAo hb).trans ((gA_sAo hb).trans ((gA_sAo hb).trans ((gA_sAo hb).trans (zA_o hb)))))))) (fun _ _ => rfl)
  have a2 : ak G2 V2 r 93 (n + 1) (.inr (1, 6)) (fun j => (wl.getD 17 []).getD j 0 + 96) 6 := by
    rw [hG2]
    refine ak_new (fun j hj => ?_)
    have hh : j = 0 ∨ j = 1 ∨ j = 2 ∨ j = 3 ∨ j = 4 ∨ j = 5 := by omega
    have h0 : gA V2 (n + 1) 0 = 116 := by rw [hV2]; simp [gA_sA]
    have h1 : gA V2 (n + 1) 1 = 104 := by rw [hV2]; simp [gA_sA]
    have h2 : gA V2 (n + 1) 2 = 101 := by rw [hV2]; simp [gA_sA]
    have h3 : gA V2 (n + 1) 3 = 105 := by rw [hV2]; simp [gA_sA]
    have h4 : gA V2 (n + 1) 4 = 114 := by rw [hV2]; simp [gA_sA]
    have h5 : gA V2 (n + 1) 5 = 115 := by rw [hV2]; simp [gA_sA]
    rcases hh with rfl | rfl | rfl | rfl | rfl | rfl
    · exact h0.trans (by decide)
    · exact h1.trans (by decide)
    · exact h2.trans (by decide)
    · exact h3.trans (by decide)
    · exact h4.trans (by decide)
    · exact h5.trans (by decide)
  have vi2 : gI V2 = gI V1 := by rw [hV2]; rfl
  have vj2 : gJ V2 = gJ V1 := by rw [hV2]; rfl
  obtain ⟨G3, hG3⟩ : ∃ H, H = sR (nw G2 (n + 2) (.inr (1, 4))) r 94 (.ref (n + 2)) := ⟨_, rfl⟩
  obtain ⟨V3, hV3⟩ : ∃ U, U = sA (sA (sA (sA (zA V2 (n + 2)) (n + 2) 0 104) (n + 2) 1 111) (n + 2) 2 117) (n + 2) 3 114 := ⟨_, rfl⟩
  have c3 : G3.1 r = .inl 10 := by rw [hG3]; exact st_c (by omega) c2
  have y3 : gy r (n + 2) 94 G2 V2 G3 V3 := by
    rw [hG3, hV3]
    exact gy_new (fun b hb => ((gA_sAo hb).trans ((gA_sAo hb).trans ((gA_sAo hb).trans ((gA_sAo hb).trans (zA_o hb)))))) (fun _ _ => rfl)
  have a3 : ak G3 V3 r 94 (n + 2) (.inr (1, 4)) (fun j => (wl.getD 30 []).getD j 0 + 96) 4 := by
    rw [hG3]
    refine ak_new (fun j hj => ?_)
    have hh : j = 0 ∨ j = 1 ∨ j = 2 ∨ j = 3 := by omega
    have h0 : gA V3 (n + 2) 0 = 104 := by rw [hV3]; simp [gA_sA]
    have h1 : gA V3 (n + 2) 1 = 111 := by rw [hV3]; simp [gA_sA]
    have h2 : gA V3 (n + 2) 2 = 117 := by rw [hV3]; simp [gA_sA]
    have h3 : gA V3 (n + 2) 3 = 114 := by rw [hV3]; simp [gA_sA]
    rcases hh with rfl | rfl | rfl | rfl
    · exact h0.trans (by decide)
    · exact h1.trans (by decide)
    · exact h2.trans (by decide)
    · exact h3.trans (by decide)
  have vi3 : gI V3 = gI V2 := by rw [hV3]; rfl
  have vj3 : gJ V3 = gJ V2 := by rw [hV3]; rfl
  obtain ⟨G4, hG4⟩ : ∃ H, H = sR (nw G3 (n + 3) (.inr (1, 4))) r 95 (.ref (n + 3)) := ⟨_, rfl⟩
  obtain ⟨V4, hV4⟩ : ∃ U, U = sA (sA (sA (sA (zA V3 (n + 3)) (n + 3) 0 108) (n + 3) 1 105) (n + 3) 2 102) (n + 3) 3 101 := ⟨_, rfl⟩
  have c4 : G4.1 r = .inl 10 := by rw [hG4]; exact st_c (by omega) c3
  have y4 : gy r (n + 3) 95 G3 V3 G4 V4 := by
    rw [hG4, hV4]
    exact gy_new (fun b hb => ((gA_sAo hb).trans ((gA_sAo hb).trans ((gA_sAo hb).trans ((gA_sAo hb).trans (zA_o hb)))))) (fun _ _ => rfl)
  have a4 : ak G4 V4 r 95 (n + 3) (.inr (1, 4)) (fun j => (wl.getD 31 []).getD j 0 + 96) 4 := by
    rw [hG4]
    refine ak_new (fun j hj => ?_)
    have hh : j = 0 ∨ j = 1 ∨ j = 2 ∨ j = 3 := by omega
    have h0 : gA V4 (n + 3) 0 = 108 := by rw [hV4]; simp [gA_sA]
    have h1 : gA V4 (n + 3) 1 = 105 := by rw [hV4]; simp [gA_sA]
    have h2 : gA V4 (n + 3) 2 = 102 := by rw [hV4]; simp [gA_sA]
    have h3 : gA V4 (n + 3) 3 = 101 := by rw [hV4]; simp [gA_sA]
    rcases hh with rfl | rfl | rfl | rfl
    · exact h0.trans (by decide)
    · exact h1.trans (by decide)
    · exact h2.trans (by decide)
    · exact h3.trans (by decide)
  have vi4 : gI V4 = gI V3 := by rw [hV4]; rfl
  have vj4 : gJ V4 = gJ V3 := by rw [hV4]; rfl
  obtain ⟨G5, hG5⟩ : ∃ H, H = sR (nw G4 (n + 4) (.inr (1, 5))) r 96 (.ref (n + 4)) := ⟨_, rfl⟩
  obtain ⟨V5, hV5⟩ : ∃ U, U = sA (sA (sA (sA (sA (zA V4 (n + 4)) (n + 4) 0 100) (n + 4) 1 114) (n + 4) 2 105) (n + 4) 3 101) (n + 4) 4 115 := ⟨_, rfl⟩
  have c5 : G5.1 r = .inl 10 := by rw [hG5]; exact st_c (by omega) c4
  have y5 : gy r (n + 4) 96 G4 V4 G5 V5 := by
    rw [hG5, hV5]
    exact gy_new (fun b hb => ((gA_sAo hb).trans ((gA_sAo hb).trans ((gA_sAo hb).trans ((gA_sAo hb).trans ((gA_sAo hb).trans (zA_o hb))))))) (fun _ _ => rfl)
  have a5 : ak G5 V5 r 96 (n + 4) (.inr (1, 5)) (fun j => (wl.getD 32 []).getD j 0 + 96) 5 := by
    rw [hG5]
    refine ak_new (fun j hj => ?_)
    have hh : j = 0 ∨ j = 1 ∨ j = 2 ∨ j = 3 ∨ j = 4 := by omega
    have h0 : gA V5 (n + 4) 0 = 100 := by rw [hV5]; simp [gA_sA]
    have h1 : gA V5 (n + 4) 1 = 114 := by rw [hV5]; simp [gA_sA]
    have h2 : gA V5 (n + 4) 2 = 105 := by rw [hV5]; simp [gA_sA]
    have h3 : gA V5 (n + 4) 3 = 101 := by rw [hV5]; simp [gA_sA]
    have h4 : gA V5 (n + 4) 4 = 115 := by rw [hV5]; simp [gA_sA]
    rcases hh with rfl | rfl | rfl | rfl | rfl
    · exact h0.trans (by decide)
    · exact h1.trans (by decide)
    · exact h2.trans (by decide)
    · exact h3.trans (by decide)
    · exact h4.trans (by decide)
  have vi5 : gI V5 = gI V4 := by rw [hV5]; rfl
  have vj5 : gJ V5 = gJ V4 := by rw [hV5]; rfl
  obtain ⟨G6, hG6⟩ : ∃ H, H = sR (nw G5 (n + 5) (.inr (0, 1700))) r 97 (.ref (n + 5)) := ⟨_, rfl⟩
  obtain ⟨V6, hV6⟩ : ∃ U, U = zA V5 (n + 5) := ⟨_, rfl⟩
  have c6 : G6.1 r = .inl 10 := by rw [hG6]; exact st_c (by omega) c5
  have y6 : gy r (n + 5) 97 G5 V5 G6 V6 := by
    rw [hG6, hV6]
    exact gy_new (fun b hb => (zA_o hb)) (fun _ _ => rfl)
  have a6 : ak G6 V6 r 97 (n + 5) (.inr (0, 1700)) (fun _ => 0) 1700 := by
    rw [hG6, hV6]
    exact ak_new (fun j _ => zA_s)
  have vi6 : gI V6 = gI V5 := by rw [hV6]; rfl
  have vj6 : gJ V6 = gJ V5 := by rw [hV6]; rfl
  obtain ⟨G7, hG7⟩ : ∃ H, H = sR (nw G6 (n + 6) (.inr (0, 1700))) r 99 (.ref (n + 6)) := ⟨_, rfl⟩
  obtain ⟨V7, hV7⟩ : ∃ U, U = zA V6 (n + 6) := ⟨_, rfl⟩
  have c7 : G7.1 r = .inl 10 := by rw [hG7]; exact st_c (by omega) c6
  have y7 : gy r (n + 6) 99 G6 V6 G7 V7 := by
    rw [hG7, hV7]
    exact gy_new (fun b hb => (zA_o hb)) (fun _ _ => rfl)
  have a7 : ak G7 V7 r 99 (n + 6) (.inr (0, 1700)) (fun _ => 0) 1700 := by
    rw [hG7, hV7]
    exact ak_new (fun j _ => zA_s)
  have vi7 : gI V7 = gI V6 := by rw [hV7]; rfl
  have vj7 : gJ V7 = gJ V6 := by rw [hV7]; rfl
  obtain ⟨G8, hG8⟩ : ∃ H, H = sR (nw G7 (n + 7) (.inr (2, 1700))) r 103 (.ref (n + 7)) := ⟨_, rfl⟩
  obtain ⟨V8, hV8⟩ : ∃ U, U = zL V7 (n + 7) := ⟨_, rfl⟩
  have c8 : G8.1 r = .inl 10 := by rw [hG8]; exact st_c (by omega) c7
  have y8 : gy r (n + 7) 103 G7 V7 G8 V8 := by
    rw [hG8, hV8]
    exact gy_new (fun b hb => rfl) (fun b hb => zL_o hb)
  have a8 : ak G8 V8 r 103 (n + 7) (.inr (2, 1700)) (fun _ => 0) 0 := by
    rw [hG8]
    exact ak_new (fun j hj => by omega)
  have vi8 : gI V8 = gI V7 := by rw [hV8]; rfl
  have vj8 : gJ V8 = gJ V7 := by rw [hV8]; rfl
  have T8 : gy r (n + 8) 104 G8 V8 G8 V8 := gy_refl
  have T7 : gy r (n + 7) 100 G7 V7 G8 V8 := (y8.trans T8 (by omega) (by decide)).weak (by omega) (by decide)
  have T6 : gy r (n + 6) 98 G6 V6 G8 V8 := (y7.trans T7 (by omega) (by decide)).weak (by omega) (by decide)
  have T5 : gy r (n + 5) 97 G5 V5 G8 V8 := (y6.trans T6 (by omega) (by decide)).weak (by omega) (by decide)
  have T4 : gy r (n + 4) 96 G4 V4 G8 V8 := (y5.trans T5 (by omega) (by decide)).weak (by omega) (by decide)
  have T3 : gy r (n + 3) 95 G3 V3 G8 V8 := (y4.trans T4 (by omega) (by decide)).weak (by omega) (by decide)
  have T2 : gy r (n + 2) 94 G2 V2 G8 V8 := (y3.trans T3 (by omega) (by decide)).weak (by omega) (by decide)
  have T1 : gy r (n + 1) 93 G1 V1 G8 V8 := (y2.trans T2 (by omega) (by decide)).weak (by omega) (by decide)
  have hI : gI V8 = gI V := by rw [vi8, vi7, vi6, vi5, vi4, vi3, vi2, vi1]
  have hJ : gJ V8 = gJ V := by rw [vj8, vj7, vj6, vj5, vj4, vj3, vj2, vj1]
  refine ⟨G8, V8, ?_, c8, (y1.trans T1 (by omega) (by decide)).weak (by omega) (by decide), hI, hJ, a1.up T1 (by omega) (by omega) (by decide), a2.up T2 (by omega) (by omega) (by decide), a3.up T3 (by omega) (by omega) (by decide), a4.up T4 (by omega) (by omega) (by decide), a5.up T5 (by omega) (by omega) (by decide), a6.up T6 (by omega) (by omega) (by decide), a7.up T7 (by omega) (by omega) (by decide), a8.up T8 (by omega) (by omega) (by decide)⟩
  unfold F_X10_init_J1347
  refine E_gd hc ?_
  dsimp only
  refine E_lt (E_lt (E_gd ⟨nw_c (by omega) hc, nw_a⟩ (E_lt (E_lt (E_lt (E_lt (?_)))))))
  rw [← hG1, ← hV1]
  refine E_lt (E_lt (E_gd ⟨nw_c (by omega) c1, nw_a⟩ (E_lt (E_lt (E_lt (E_lt (E_lt (E_lt (E_lt (?_))))))))))
  rw [← hG2, ← hV2]
  refine E_lt (E_lt (E_gd ⟨nw_c (by omega) c2, nw_a⟩ (E_lt (E_lt (E_lt (E_lt (E_lt (?_))))))))
  rw [← hG3, ← hV3]
  refine E_lt (E_lt (E_gd ⟨nw_c (by omega) c3, nw_a⟩ (E_lt (E_lt (E_lt (E_lt (E_lt (?_))))))))
  rw [← hG4, ← hV4]
  refine E_lt (E_lt (E_gd ⟨nw_c (by omega) c4, nw_a⟩ (E_lt (E_lt (E_lt (E_lt (E_lt (E_lt (?_)))))))))
  rw [← hG5, ← hV5]
  refine E_lt (E_lt (E_gd ⟨nw_c (by omega) c5, nw_a⟩ (E_lt (?_))))
  rw [← hG6, ← hV6]
  refine E_lt (E_lt (E_gd ⟨nw_c (by omega) c6, nw_a⟩ (E_lt (?_))))
  rw [← hG7, ← hV7]
  refine E_lt (E_lt (E_gd ⟨nw_c (by omega) c7, nw_a⟩ (E_lt (?_))))
  rw [← hG8, ← hV8]
theorem mk_init_J1520 (hc : G.1 r = .inl 10) (hr : r < n) : ∃ G' V', F_X10_init_J1520 r (n, z, G, V) = some ((n + 1, z + 123, G', V'), 0) ∧ G'.1 r = .inl 10 ∧ gy r n 107 G V G' V' ∧ gI V' = gI V ∧ gJ V' = gJ V ∧ ak G' V' r 107 n (.inr (0, 123)) (fun _ => 0) 123 := by
  obtain ⟨G1, hG1⟩ : ∃ H, H = sR (nw G n (.inr (0, 123))) r 107 (.ref n) := ⟨_, rfl⟩
  obtain ⟨V1, hV1⟩ : ∃ U, U = zA V n := ⟨_, rfl⟩
  have c1 : G1.1 r = .inl 10 := by rw [hG1]; exact st_c (by omega) hc
  have y1 : gy r n 107 G V G1 V1 := by
    rw [hG1, hV1]
    exact gy_new (fun b hb => (zA_o hb)) (fun _ _ => rfl)
  have a1 : ak G1 V1 r 107 n (.inr (0, 123)) (fun _ => 0) 123 := by
    rw [hG1, hV1]
    exact ak_new (fun j _ => zA_s)
  have vi1 : gI V1 = gI V := by rw [hV1]; rfl
  have vj1 : gJ V1 = gJ V := by rw [hV1]; rfl
  have T1 : gy r (n + 1) 108 G1 V1 G1 V1 := gy_refl
  have hI : gI V1 = gI V := by rw [vi1]
  have hJ : gJ V1 = gJ V := by rw [vj1]
  refine ⟨G1, V1, ?_, c1, (y1.trans T1 (by omega) (by decide)).weak (by omega) (by decide), hI, hJ, a1.up T1 (by omega) (by omega) (by decide)⟩
  unfold F_X10_init_J1520
  refine E_gd hc ?_
  dsimp only
  refine E_lt (E_lt (E_gd ⟨nw_c (by omega) hc, nw_a⟩ (E_lt (?_))))
  rw [← hG1, ← hV1]
end

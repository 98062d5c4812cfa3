/-! made: what holds more than rows -/
def vb (n : Nat) (V V' : mV) : Prop := ∀ a, a < n → gI V' a = gI V a ∧ gJ V' a = gJ V a ∧ gA V' a = gA V a ∧ gL V' a = gL V a
theorem vb.trans {n n' : Nat} {V V1 V2 : mV} (h : vb n V V1) (k : vb n' V1 V2) (hn : n ≤ n') : vb n V V2 := fun a q => ⟨(k a (by omega)).1.trans (h a q).1, (k a (by omega)).2.1.trans (h a q).2.1, (k a (by omega)).2.2.1.trans (h a q).2.2.1, (k a (by omega)).2.2.2.trans (h a q).2.2.2⟩
theorem vb.x {r n : Nat} {V V' : mV} (h : vb n V V') : vx r n V V' := fun a q _ => h a q
theorem vb_row {n : Nat} {V : mV} : vb n V (rowV V n) := fun a h => ⟨by
    funext j
    show (if a = n then 0 else V.1 a j) = V.1 a j
    rw [if_neg (by omega)], by
    funext j
    show (if a = n then 0 else V.2.1 a j) = V.2.1 a j
    rw [if_neg (by omega)], by
    funext j
    show (if a = n + 1 then 0 else V.2.2.1 a j) = V.2.2.1 a j
    rw [if_neg (by omega)], rfl⟩
section
variable {G G' : mG} {V V' : mV} {r k n z c d s q sz : Nat}
theorem is3_up (h : is3 G s) (k : gx r n G G') (hs : s + 5 ≤ n) (hr : r < s) : is3 G' s := by
  obtain ⟨a, b, e, f, g, i, j⟩ := h
  obtain ⟨x1, y1⟩ := is7_up e k (by omega) (by omega)
  obtain ⟨x2, y2⟩ := is7_up i k (by omega) (by omega)
  exact ⟨by rw [k.1 _ (by omega)]; exact a, by rw [k.2.1 _ _ (by omega) (by omega)]; exact b, x1, y1.trans f, by rw [k.2.1 _ _ (by omega) (by omega)]; exact g, x2, y2.trans j⟩
theorem is4_up (h : is4 G s) (k : gx r n G G') (hs : s + 9 ≤ n) (hr : r < s) : is4 G' s := by
  obtain ⟨a, a1, b1, c1, a2, b2, c2, a3, b3, c3, a4, b4, c4⟩ := h
  have u : ∀ {t : Nat}, is7 G t → s ≤ t → t + 1 < s + 9 → is7 G' t ∧ qG G' (t + 1) = qG G (t + 1) := fun ht h1 h2 => is7_up ht k (by omega) (by omega)
  have o : ∀ j, G'.2.1 s j = G.2.1 s j := fun j => k.2.1 _ _ (by omega) (by omega)
  exact ⟨by rw [k.1 _ (by omega)]; exact a, (o _).trans a1, (u b1 (by omega) (by omega)).1, (u b1 (by omega) (by omega)).2.trans c1, (o _).trans a2, (u b2 (by omega) (by omega)).1, (u b2 (by omega) (by omega)).2.trans c2, (o _).trans a3, (u b3 (by omega) (by omega)).1, (u b3 (by omega) (by omega)).2.trans c3, (o _).trans a4, (u b4 (by omega) (by omega)).1, (u b4 (by omega) (by omega)).2.trans c4⟩
theorem is0_up (h : is0 G s) (k : gx r n G G') (hs : s + 7 ≤ n) (hr : r < s) : is0 G' s := by
  obtain ⟨a, a1, b1, c1, a2, b2, c2, a3, b3, c3⟩ := h
  have u : ∀ {t : Nat}, is7 G t → s ≤ t → t + 1 < s + 7 → is7 G' t ∧ qG G' (t + 1) = qG G (t + 1) := fun ht h1 h2 => is7_up ht k (by omega) (by omega)
  have o : ∀ j, G'.2.1 s j = G.2.1 s j := fun j => k.2.1 _ _ (by omega) (by omega)
  exact ⟨by rw [k.1 _ (by omega)]; exact a, (o _).trans a1, (u b1 (by omega) (by omega)).1, (u b1 (by omega) (by omega)).2.trans c1, (o _).trans a2, (u b2 (by omega) (by omega)).1, (u b2 (by omega) (by omega)).2.trans c2, (o _).trans a3, (u b3 (by omega) (by omega)).1, (u b3 (by omega) (by omega)).2.trans c3⟩
theorem is2_up (h : is2 G s) (k : gx r n G G') (hs : s + 11 ≤ n) (hr : r < s) : is2 G' s := by
  obtain ⟨a, a1, b1, c1, a2, b2, c2, a3, b3, c3, a4, b4, c4, a5, b5, c5⟩ := h
  have u : ∀ {t : Nat}, is7 G t → s ≤ t → t + 1 < s + 11 → is7 G' t ∧ qG G' (t + 1) = qG G (t + 1) := fun ht h1 h2 => is7_up ht k (by omega) (by omega)
  have o : ∀ j, G'.2.1 s j = G.2.1 s j := fun j => k.2.1 _ _ (by omega) (by omega)
  exact ⟨by rw [k.1 _ (by omega)]; exact a, (o _).trans a1, (u b1 (by omega) (by omega)).1, (u b1 (by omega) (by omega)).2.trans c1, (o _).trans a2, (u b2 (by omega) (by omega)).1, (u b2 (by omega) (by omega)).2.trans c2, (o _).trans a3, (u b3 (by omega) (by omega)).1, (u b3 (by omega) (by omega)).2.trans c3, (o _).trans a4, (u b4 (by omega) (by omega)).1, (u b4 (by omega) (by omega)).2.trans c4, (o _).trans a5, (u b5 (by omega) (by omega)).1, (u b5 (by omega) (by omega)).2.trans c5⟩
/-- an object with its own making -/
theorem addSub {F : Nat → mW → Option (mW × Int)} {P : mG → Prop} {Q : mV → Prop} (hF : ∀ G V z, G.1 n = .inl d → ∃ G' V', F n (n + 1, z, G, V) = some ((n + sz, z + q, G', V'), 0) ∧ P G' ∧ gx n (n + 1) G G' ∧ vx n (n + 1) V V' ∧ ((gI V n = fun _ => 0) → Q V'))
    (hP : ∀ G G', P G → gx r (n + sz) G G' → P G') (hr : r < n) (hc : G.1 r = .inl c) :
    ∃ G4 V4 G5, (∀ {β : Type} (PG : mG → Prop) (_ : ∀ G, P G → PG G) (K : mW → mG → Option β), (lt (zR (nw G n (.inl d)) n) fun G2 => lt (z0 V n) fun V3 => gd (G2.1 r = .inl c ∧ G2.1 n = .inl d) <| bd (F n ((n + 1), (z + a_nf d), G2, V3)) fun W6 v7 => gd (W6.2.2.1.1 r = .inl c ∧ PG W6.2.2.1) <| lt (sR W6.2.2.1 r k (.ref n)) fun G11 => K W6 G11) = K (n + sz, z + a_nf d + q, G4, V4) G5) ∧ P G5 ∧ gx r n G G5 ∧ G5.1 r = .inl c ∧ G5.2.1 r k = .ref n ∧ (∀ j, j ≠ k → G5.2.1 r j = G.2.1 r j) ∧ vb n V V4 ∧ Q V4 := by
  have h1 : (zR (nw G n (.inl d)) n).1 n = .inl d := by
    show (if n = n then _ else G.1 n) = _
    rw [if_pos rfl]
  have h0 : ∀ a, a < n → (zR (nw G n (.inl d)) n).1 a = G.1 a := fun a ha => by
    show (if a = n then _ else G.1 a) = _
    rw [if_neg (by omega)]
  have h2 : ∀ a j, a < n → (zR (nw G n (.inl d)) n).2.1 a j = G.2.1 a j := fun a j ha => by
    show (if a = n then _ else G.2.1 a j) = _
    rw [if_neg (by omega)]
  obtain ⟨G4, V4, e, p, gg, vv, qq⟩ := hF (zR (nw G n (.inl d)) n) (z0 V n) (z + a_nf d) h1
  have hc4 : G4.1 r = .inl c := by rw [gg.1 _ (by omega), h0 _ hr]; exact hc
  have g45 : ∀ m, gx r m G4 (sR G4 r k (.ref n)) := fun m => ⟨fun _ _ => rfl, fun a j _ w => by
    show u2 G4.2.1 r k (.ref n) a j = _
    unfold u2
    rw [if_neg (fun q => w q.1)], fun _ _ _ => rfl⟩
  refine ⟨G4, V4, sR G4 r k (.ref n), fun PG hPG K => ?_, hP _ _ p (g45 _), ⟨fun a ha => ?_, fun a j ha w => ?_, fun a j ha => ?_⟩, hc4, ?_, fun j hj => ?_, fun a ha => ?_, qq ?_⟩
  · exact E_lt (E_lt (E_gd ⟨by rw [h0 _ hr]; exact hc, h1⟩ (E_bd e (E_gd ⟨hc4, hPG _ p⟩ rfl))))
  · show G4.1 a = _
    rw [gg.1 _ (by omega), h0 _ ha]
  · rw [(g45 n).2.1 a j ha w, gg.2.1 _ _ (by omega) (by omega), h2 _ _ ha]
  · show G4.2.2 a j = _
    rw [gg.2.2 _ _ (by omega)]; rfl
  · show u2 G4.2.1 r k (.ref n) r k = _
    unfold u2
    rw [if_pos ⟨rfl, rfl⟩]
  · show u2 G4.2.1 r k (.ref n) r j = _
    unfold u2
    rw [if_neg (fun q => hj q.2), gg.2.1 _ _ (by omega) (by omega), h2 _ _ hr]
  · obtain ⟨x1, x2, x3, x4⟩ := vv a (by omega) (by omega)
    refine ⟨x1.trans ?_, x2.trans ?_, x3, x4⟩
    · funext j
      show (if a = n then 0 else V.1 a j) = _
      rw [if_neg (by omega)]; rfl
    · funext j
      show (if a = n then 0 else V.2.1 a j) = _
      rw [if_neg (by omega)]; rfl
  · funext j
    show (if n = n then 0 else V.1 n j) = 0
    rw [if_pos rfl]
theorem made1 (hc : G.1 r = .inl 1) : ∃ G' V', F_X1_init r (r + 1, z, G, V) = some ((r + 41, z + (a_nf 7 + 10 + a_nf 7 + 10 + a_nf 7 + 10 + a_nf 7 + 10 + a_nf 7 + 100 + a_nf 7 + 8 + a_nf 7 + 8 + a_nf 7 + 24 + a_nf 7 + 24 + a_nf 7 + 24 + a_nf 3 + (a_nf 7 + 1600 + a_nf 7 + 64) + a_nf 3 + (a_nf 7 + 1600 + a_nf 7 + 64) + a_nf 3 + (a_nf 7 + 1600 + a_nf 7 + 64) + a_nf 3 + (a_nf 7 + 1600 + a_nf 7 + 64)), G', V'), 0) ∧ is1 G' r ∧ gx r (r + 1) G G' ∧ vb (r + 1) V V' ∧ gI V' (r + 1) 1 = 0 ∧ gI V' (r + 3) 1 = 0 ∧ gI V' (r + 5) 1 = 0 ∧ gI V' (r + 7) 1 = 0 ∧ gI V' (r + 9) 1 = 0 ∧ gI V' (r + 11) 1 = 0 ∧ gI V' (r + 13) 1 = 0 ∧ gI V' (r + 15) 1 = 0 ∧ gI V' (r + 17) 1 = 0 ∧ gI V' (r + 19) 1 = 0 ∧ (gI V' (r + 22) 1 = 0 ∧ gI V' (r + 24) 1 = 64) ∧ (gI V' (r + 27) 1 = 0 ∧ gI V' (r + 29) 1 = 64) ∧ (gI V' (r + 32) 1 = 0 ∧ gI V' (r + 34) 1 = 64) ∧ (gI V' (r + 37) 1 = 0 ∧ gI V' (r + 39) 1 = 64) := by
  obtain ⟨G1, hG1⟩ : ∃ G1, G1 = rowG G r 0 (r + 1) 10 := ⟨_, rfl⟩
  have c1 : G1.1 r = .inl 1 := by rw [hG1]; exact rowG_c (by omega) hc
  have f1_0 : fl7 G1 r 0 (r + 1) 10 := by rw [hG1]; exact fl7_new (by omega) (by decide)
  obtain ⟨G2, hG2⟩ : ∃ G2, G2 = rowG G1 r 1 (r + 3) 10 := ⟨_, rfl⟩
  have c2 : G2.1 r = .inl 1 := by rw [hG2]; exact rowG_c (by omega) c1
  have f2_0 : fl7 G2 r 0 (r + 1) 10 := by rw [hG2]; exact fl7_old f1_0 (by omega) (by omega) (by omega) (by decide)
  have f2_1 : fl7 G2 r 1 (r + 3) 10 := by rw [hG2]; exact fl7_new (by omega) (by decide)
  obtain ⟨G3, hG3⟩ : ∃ G3, G3 = rowG G2 r 2 (r + 5) 10 := ⟨_, rfl⟩
  have c3 : G3.1 r = .inl 1 := by rw [hG3]; exact rowG_c (by omega) c2
  have f3_0 : fl7 G3 r 0 (r + 1) 10 := by rw [hG3]; exact fl7_old f2_0 (by omega) (by omega) (by omega) (by decide)
  have f3_1 : fl7 G3 r 1 (r + 3) 10 := by rw [hG3]; exact fl7_old f2_1 (by omega) (by omega) (by omega) (by decide)
  have f3_2 : fl7 G3 r 2 (r + 5) 10 := by rw [hG3]; exact fl7_new (by omega) (by decide)
  obtain ⟨G4, hG4⟩ : ∃ G4, G4 = rowG G3 r 3 (r + 7) 10 := ⟨_, rfl⟩
  have c4 : G4.1 r = .inl 1 := by rw [hG4]; exact rowG_c (by omega) c3
  have f4_0 : fl7 G4 r 0 (r + 1) 10 := by rw [hG4]; exact fl7_old f3_0 (by omega) (by omega) (by omega) (by decide)
  have f4_1 : fl7 G4 r 1 (r + 3) 10 := by rw [hG4]; exact fl7_old f3_1 (by omega) (by omega) (by omega) (by decide)
  have f4_2 : fl7 G4 r 2 (r + 5) 10 := by rw [hG4]; exact fl7_old f3_2 (by omega) (by omega) (by omega) (by decide)
  have f4_3 : fl7 G4 r 3 (r + 7) 10 := by rw [hG4]; exact fl7_new (by omega) (by decide)
  obtain ⟨G5, hG5⟩ : ∃ G5, G5 = rowG G4 r 4 (r + 9) 100 := ⟨_, rfl⟩
  have c5 : G5.1 r = .inl 1 := by rw [hG5]; exact rowG_c (by omega) c4
  have f5_0 : fl7 G5 r 0 (r + 1) 10 := by rw [hG5]; exact fl7_old f4_0 (by omega) (by omega) (by omega) (by decide)
  have f5_1 : fl7 G5 r 1 (r + 3) 10 := by rw [hG5]; exact fl7_old f4_1 (by omega) (by omega) (by omega) (by decide)
  have f5_2 : fl7 G5 r 2 (r + 5) 10 := by rw [hG5]; exact fl7_old f4_2 (by omega) (by omega) (by omega) (by decide)
  have f5_3 : fl7 G5 r 3 (r + 7) 10 := by rw [hG5]; exact fl7_old f4_3 (by omega) (by omega) (by omega) (by decide)
  have f5_4 : fl7 G5 r 4 (r + 9) 100 := by rw [hG5]; exact fl7_new (by omega) (by decide)
  obtain ⟨G6, hG6⟩ : ∃ G6, G6 = rowG G5 r 5 (r + 11) 8 := ⟨_, rfl⟩
  have c6 : G6.1 r = .inl 1 := by rw [hG6]; exact rowG_c (by omega) c5
  have f6_0 : fl7 G6 r 0 (r + 1) 10 := by rw [hG6]; exact fl7_old f5_0 (by omega) (by omega) (by omega) (by decide)
  have f6_1 : fl7 G6 r 1 (r + 3) 10 := by rw [hG6]; exact fl7_old f5_1 (by omega) (by omega) (by omega) (by decide)
  have f6_2 : fl7 G6 r 2 (r + 5) 10 := by rw [hG6]; exact fl7_old f5_2 (by omega) (by omega) (by omega) (by decide)
  have f6_3 : fl7 G6 r 3 (r + 7) 10 := by rw [hG6]; exact fl7_old f5_3 (by omega) (by omega) (by omega) (by decide)
  have f6_4 : fl7 G6 r 4 (r + 9) 100 := by rw [hG6]; exact fl7_old f5_4 (by omega) (by omega) (by omega) (by decide)
  have f6_5 : fl7 G6 r 5 (r + 11) 8 := by rw [hG6]; exact fl7_new (by omega) (by decide)
  obtain ⟨G7, hG7⟩ : ∃ G7, G7 = rowG G6 r 6 (r + 13) 8 := ⟨_, rfl⟩
  have c7 : G7.1 r = .inl 1 := by rw [hG7]; exact rowG_c (by omega) c6
  have f7_0 : fl7 G7 r 0 (r + 1) 10 := by rw [hG7]; exact fl7_old f6_0 (by omega) (by omega) (by omega) (by decide)
  have f7_1 : fl7 G7 r 1 (r + 3) 10 := by rw [hG7]; exact fl7_old f6_1 (by omega) (by omega) (by omega) (by decide)
  have f7_2 : fl7 G7 r 2 (r + 5) 10 := by rw [hG7]; exact fl7_old f6_2 (by omega) (by omega) (by omega) (by decide)
  have f7_3 : fl7 G7 r 3 (r + 7) 10 := by rw [hG7]; exact fl7_old f6_3 (by omega) (by omega) (by omega) (by decide)
  have f7_4 : fl7 G7 r 4 (r + 9) 100 := by rw [hG7]; exact fl7_old f6_4 (by omega) (by omega) (by omega) (by decide)
  have f7_5 : fl7 G7 r 5 (r + 11) 8 := by rw [hG7]; exact fl7_old f6_5 (by omega) (by omega) (by omega) (by decide)
  have f7_6 : fl7 G7 r 6 (r + 13) 8 := by rw [hG7]; exact fl7_new (by omega) (by decide)
  obtain ⟨G8, hG8⟩ : ∃ G8, G8 = rowG G7 r 7 (r + 15) 24 := ⟨_, rfl⟩
  have c8 : G8.1 r = .inl 1 := by rw [hG8]; exact rowG_c (by omega) c7
  have f8_0 : fl7 G8 r 0 (r + 1) 10 := by rw [hG8]; exact fl7_old f7_0 (by omega) (by omega) (by omega) (by decide)
  have f8_1 : fl7 G8 r 1 (r + 3) 10 := by rw [hG8]; exact fl7_old f7_1 (by omega) (by omega) (by omega) (by decide)
  have f8_2 : fl7 G8 r 2 (r + 5) 10 := by rw [hG8]; exact fl7_old f7_2 (by omega) (by omega) (by omega) (by decide)
  have f8_3 : fl7 G8 r 3 (r + 7) 10 := by rw [hG8]; exact fl7_old f7_3 (by omega) (by omega) (by omega) (by decide)
  have f8_4 : fl7 G8 r 4 (r + 9) 100 := by rw [hG8]; exact fl7_old f7_4 (by omega) (by omega) (by omega) (by decide)
  have f8_5 : fl7 G8 r 5 (r + 11) 8 := by rw [hG8]; exact fl7_old f7_5 (by omega) (by omega) (by omega) (by decide)
  have f8_6 : fl7 G8 r 6 (r + 13) 8 := by rw [hG8]; exact fl7_old f7_6 (by omega) (by omega) (by omega) (by decide)
  have f8_7 : fl7 G8 r 7 (r + 15) 24 := by rw [hG8]; exact fl7_new (by omega) (by decide)
  obtain ⟨G9, hG9⟩ : ∃ G9, G9 = rowG G8 r 8 (r + 17) 24 := ⟨_, rfl⟩
  have c9 : G9.1 r = .inl 1 := by rw [hG9]; exact rowG_c (by omega) c8
  have f9_0 : fl7 G9 r 0 (r + 1) 10 := by rw [hG9]; exact fl7_old f8_0 (by omega) (by omega) (by omega) (by decide)
  have f9_1 : fl7 G9 r 1 (r + 3) 10 := by rw [hG9]; exact fl7_old f8_1 (by omega) (by omega) (by omega) (by decide)
  have f9_2 : fl7 G9 r 2 (r + 5) 10 := by rw [hG9]; exact fl7_old f8_2 (by omega) (by omega) (by omega) (by decide)
  have f9_3 : fl7 G9 r 3 (r + 7) 10 := by rw [hG9]; exact fl7_old f8_3 (by omega) (by omega) (by omega) (by decide)
  have f9_4 : fl7 G9 r 4 (r + 9) 100 := by rw [hG9]; exact fl7_old f8_4 (by omega) (by omega) (by omega) (by decide)
  have f9_5 : fl7 G9 r 5 (r + 11) 8 := by rw [hG9]; exact fl7_old f8_5 (by omega) (by omega) (by omega) (by decide)
  have f9_6 : fl7 G9 r 6 (r + 13) 8 := by rw [hG9]; exact fl7_old f8_6 (by omega) (by omega) (by omega) (by decide)
  have f9_7 : fl7 G9 r 7 (r + 15) 24 := by rw [hG9]; exact fl7_old f8_7 (by omega) (by omega) (by omega) (by decide)
  have f9_8 : fl7 G9 r 8 (r + 17) 24 := by rw [hG9]; exact fl7_new (by omega) (by decide)
  obtain ⟨G10, hG10⟩ : ∃ G10, G10 = rowG G9 r 9 (r + 19) 24 := ⟨_, rfl⟩
  have c10 : G10.1 r = .inl 1 := by rw [hG10]; exact rowG_c (by omega) c9
  have f10_0 : fl7 G10 r 0 (r + 1) 10 := by rw [hG10]; exact fl7_old f9_0 (by omega) (by omega) (by omega) (by decide)
  have f10_1 : fl7 G10 r 1 (r + 3) 10 := by rw [hG10]; exact fl7_old f9_1 (by omega) (by omega) (by omega) (by decide)
  have f10_2 : fl7 G10 r 2 (r + 5) 10 := by rw [hG10]; exact fl7_old f9_2 (by omega) (by omega) (by omega) (by decide)
  have f10_3 : fl7 G10 r 3 (r + 7) 10 := by rw [hG10]; exact fl7_old f9_3 (by omega) (by omega) (by omega) (by decide)
  have f10_4 : fl7 G10 r 4 (r + 9) 100 := by rw [hG10]; exact fl7_old f9_4 (by omega) (by omega) (by omega) (by decide)
  have f10_5 : fl7 G10 r 5 (r + 11) 8 := by rw [hG10]; exact fl7_old f9_5 (by omega) (by omega) (by omega) (by decide)
  have f10_6 : fl7 G10 r 6 (r + 13) 8 := by rw [hG10]; exact fl7_old f9_6 (by omega) (by omega) (by omega) (by decide)
  have f10_7 : fl7 G10 r 7 (r + 15) 24 := by rw [hG10]; exact fl7_old f9_7 (by omega) (by omega) (by omega) (by decide)
  have f10_8 : fl7 G10 r 8 (r + 17) 24 := by rw [hG10]; exact fl7_old f9_8 (by omega) (by omega) (by omega) (by decide)
  have f10_9 : fl7 G10 r 9 (r + 19) 24 := by rw [hG10]; exact fl7_new (by omega) (by decide)
  have X10 : gx r (r + 1) G G10 := ((((((((((by rw [hG1]; exact gx_row (by omega) : gx r (r + 1) G G1)).trans (by rw [hG2]; exact gx_row (by omega) : gx r (r + 3) G1 G2) (by omega)).trans (by rw [hG3]; exact gx_row (by omega) : gx r (r + 5) G2 G3) (by omega)).trans (by rw [hG4]; exact gx_row (by omega) : gx r (r + 7) G3 G4) (by omega)).trans (by rw [hG5]; exact gx_row (by omega) : gx r (r + 9) G4 G5) (by omega)).trans (by rw [hG6]; exact gx_row (by omega) : gx r (r + 11) G5 G6) (by omega)).trans (by rw [hG7]; exact gx_row (by omega) : gx r (r + 13) G6 G7) (by omega)).trans (by rw [hG8]; exact gx_row (by omega) : gx r (r + 15) G7 G8) (by omega)).trans (by rw [hG9]; exact gx_row (by omega) : gx r (r + 17) G8 G9) (by omega)).trans (by rw [hG10]; exact gx_row (by omega) : gx r (r + 19) G9 G10) (by omega)
  obtain ⟨U, hU⟩ : ∃ U, U = rowV (rowV (rowV (rowV (rowV (rowV (rowV (rowV (rowV (rowV V (r + 1)) (r + 3)) (r + 5)) (r + 7)) (r + 9)) (r + 11)) (r + 13)) (r + 15)) (r + 17)) (r + 19) := ⟨_, rfl⟩
  have Y10 : vb (r + 1) V U := by rw [hU]; exact (((((((((vb_row).trans vb_row (by omega)).trans vb_row (by omega)).trans vb_row (by omega)).trans vb_row (by omega)).trans vb_row (by omega)).trans vb_row (by omega)).trans vb_row (by omega)).trans vb_row (by omega)).trans vb_row (by omega)
  have u0 : gI U (r + 1) 1 = 0 := by rw [hU]; simp [rowV_I]
  have u1 : gI U (r + 3) 1 = 0 := by rw [hU]; simp [rowV_I]
  have u2 : gI U (r + 5) 1 = 0 := by rw [hU]; simp [rowV_I]
  have u3 : gI U (r + 7) 1 = 0 := by rw [hU]; simp [rowV_I]
  have u4 : gI U (r + 9) 1 = 0 := by rw [hU]; simp [rowV_I]
  have u5 : gI U (r + 11) 1 = 0 := by rw [hU]; simp [rowV_I]
  have u6 : gI U (r + 13) 1 = 0 := by rw [hU]; simp [rowV_I]
  have u7 : gI U (r + 15) 1 = 0 := by rw [hU]; simp [rowV_I]
  have u8 : gI U (r + 17) 1 = 0 := by rw [hU]; simp [rowV_I]
  have u9 : gI U (r + 19) 1 = 0 := by rw [hU]; simp [rowV_I]
  obtain ⟨A1, B1, D1, t1, p1, x1, d1, e1, o1, b1, q1⟩ := addSub (F := F_X3_init) (G := G10) (V := U) (z := z + a_nf 7 + 10 + a_nf 7 + 10 + a_nf 7 + 10 + a_nf 7 + 10 + a_nf 7 + 100 + a_nf 7 + 8 + a_nf 7 + 8 + a_nf 7 + 24 + a_nf 7 + 24 + a_nf 7 + 24) (r := r) (n := r + 21) (k := 10) (c := 1) (d := 3) (sz := 5) (q := a_nf 7 + 1600 + a_nf 7 + 64) (P := fun G => is3 G (r + 21)) (Q := fun V => gI V (r + 22) 1 = 0 ∧ gI V (r + 24) 1 = 64) (fun G V z h => by
    obtain ⟨G', V', e, i3, g, v, -, -, a, b⟩ := made3 (z := z) (V := V) h
    exact ⟨G', V', e.trans (by simp only [Nat.add_assoc]), i3, g, v, fun _ => ⟨a, b⟩⟩) (fun G G' h g => is3_up h g (by omega) (by omega)) (by omega) c10
  have X11 : gx r (r + 1) G D1 := X10.trans x1 (by omega)
  have Y11 : vb (r + 1) V B1 := Y10.trans b1 (by omega)
  obtain ⟨A2, B2, D2, t2, p2, x2, d2, e2, o2, b2, q2⟩ := addSub (F := F_X3_init) (G := D1) (V := B1) (z := z + a_nf 7 + 10 + a_nf 7 + 10 + a_nf 7 + 10 + a_nf 7 + 10 + a_nf 7 + 100 + a_nf 7 + 8 + a_nf 7 + 8 + a_nf 7 + 24 + a_nf 7 + 24 + a_nf 7 + 24 + a_nf 3 + (a_nf 7 + 1600 + a_nf 7 + 64)) (r := r) (n := r + 26) (k := 11) (c := 1) (d := 3) (sz := 5) (q := a_nf 7 + 1600 + a_nf 7 + 64) (P := fun G => is3 G (r + 26)) (Q := fun V => gI V (r + 27) 1 = 0 ∧ gI V (r + 29) 1 = 64) (fun G V z h => by
    obtain ⟨G', V', e, i3, g, v, -, -, a, b⟩ := made3 (z := z) (V := V) h
    exact ⟨G', V', e.trans (by simp only [Nat.add_assoc]), i3, g, v, fun _ => ⟨a, b⟩⟩) (fun G G' h g => is3_up h g (by omega) (by omega)) (by omega) d1
  have X12 : gx r (r + 1) G D2 := X11.trans x2 (by omega)
  have Y12 : vb (r + 1) V B2 := Y11.trans b2 (by omega)
  obtain ⟨A3, B3, D3, t3, p3, x3, d3, e3, o3, b3, q3⟩ := addSub (F := F_X3_init) (G := D2) (V := B2) (z := z + a_nf 7 + 10 + a_nf 7 + 10 + a_nf 7 + 10 + a_nf 7 + 10 + a_nf 7 + 100 + a_nf 7 + 8 + a_nf 7 + 8 + a_nf 7 + 24 + a_nf 7 + 24 + a_nf 7 + 24 + a_nf 3 + (a_nf 7 + 1600 + a_nf 7 + 64) + a_nf 3 + (a_nf 7 + 1600 + a_nf 7 + 64)) (r := r) (n := r + 31) (k := 12) (c := 1) (d := 3) (sz := 5) (q := a_nf 7 + 1600 + a_nf 7 + 64) (P := fun G => is3 G (r + 31)) (Q := fun V => gI V (r + 32) 1 = 0 ∧ gI V (r + 34) 1 = 64) (fun G V z h => by
    obtain ⟨G', V', e, i3, g, v, -, -, a, b⟩ := made3 (z := z) (V := V) h
    exact ⟨G', V', e.trans (by simp only [Nat.add_assoc]), i3, g, v, fun _ => ⟨a, b⟩⟩) (fun G G' h g => is3_up h g (by omega) (by omega)) (by omega) d2
  have X13 : gx r (r + 1) G D3 := X12.trans x3 (by omega)
  have Y13 : vb (r + 1) V B3 := Y12.trans b3 (by omega)
  obtain ⟨A4, B4, D4, t4, p4, x4, d4, e4, o4, b4, q4⟩ := addSub (F := F_X3_init) (G := D3) (V := B3) (z := z + a_nf 7 + 10 + a_nf 7 + 10 + a_nf 7 + 10 + a_nf 7 + 10 + a_nf 7 + 100 + a_nf 7 + 8 + a_nf 7 + 8 + a_nf 7 + 24 + a_nf 7 + 24 + a_nf 7 + 24 + a_nf 3 + (a_nf 7 + 1600 + a_nf 7 + 64) + a_nf 3 + (a_nf 7 + 1600 + a_nf 7 + 64) + a_nf 3 + (a_nf 7 + 1600 + a_nf 7 + 64)) (r := r) (n := r + 36) (k := 13) (c := 1) (d := 3) (sz := 5) (q := a_nf 7 + 1600 + a_nf 7 + 64) (P := fun G => is3 G (r + 36)) (Q := fun V => gI V (r + 37) 1 = 0 ∧ gI V (r + 39) 1 = 64) (fun G V z h => by
    obtain ⟨G', V', e, i3, g, v, -, -, a, b⟩ := made3 (z := z) (V := V) h
    exact ⟨G', V', e.trans (by simp only [Nat.add_assoc]), i3, g, v, fun _ => ⟨a, b⟩⟩) (fun G G' h g => is3_up h g (by omega) (by omega)) (by omega) d3
  have X14 : gx r (r + 1) G D4 := X13.trans x4 (by omega)
  have Y14 : vb (r + 1) V B4 := Y13.trans b4 (by omega)
  have XX : gx r (r + 21) G10 D4 := ((x1.trans x2 (by omega)).trans x3 (by omega)).trans x4 (by omega)
  have oo : ∀ j, j < 10 → D4.2.1 r j = G10.2.1 r j := fun j hj => by rw [o4 j (by omega), o3 j (by omega), o2 j (by omega), o1 j (by omega)]
  have g0 : fl7 D4 r 0 (r + 1) 10 := fl7_up f10_0 XX (oo 0 (by decide)) (by omega) (by omega)
  have g1 : fl7 D4 r 1 (r + 3) 10 := fl7_up f10_1 XX (oo 1 (by decide)) (by omega) (by omega)
  have g2 : fl7 D4 r 2 (r + 5) 10 := fl7_up f10_2 XX (oo 2 (by decide)) (by omega) (by omega)
  have g3 : fl7 D4 r 3 (r + 7) 10 := fl7_up f10_3 XX (oo 3 (by decide)) (by omega) (by omega)
  have g4 : fl7 D4 r 4 (r + 9) 100 := fl7_up f10_4 XX (oo 4 (by decide)) (by omega) (by omega)
  have g5 : fl7 D4 r 5 (r + 11) 8 := fl7_up f10_5 XX (oo 5 (by decide)) (by omega) (by omega)
  have g6 : fl7 D4 r 6 (r + 13) 8 := fl7_up f10_6 XX (oo 6 (by decide)) (by omega) (by omega)
  have g7 : fl7 D4 r 7 (r + 15) 24 := fl7_up f10_7 XX (oo 7 (by decide)) (by omega) (by omega)
  have g8 : fl7 D4 r 8 (r + 17) 24 := fl7_up f10_8 XX (oo 8 (by decide)) (by omega) (by omega)
  have g9 : fl7 D4 r 9 (r + 19) 24 := fl7_up f10_9 XX (oo 9 (by decide)) (by omega) (by omega)
  have P1 : is3 D4 (r + 21) := is3_up (is3_up (is3_up p1 x2 (by omega) (by omega)) x3 (by omega) (by omega)) x4 (by omega) (by omega)
  have P2 : is3 D4 (r + 26) := is3_up (is3_up p2 x3 (by omega) (by omega)) x4 (by omega) (by omega)
  have P3 : is3 D4 (r + 31) := is3_up p3 x4 (by omega) (by omega)
  have R1 : D4.2.1 r 10 = .ref (r + 21) := by rw [o4 _ (by decide), o3 _ (by decide), o2 _ (by decide)]; exact e1
  have R2 : D4.2.1 r 11 = .ref (r + 26) := by rw [o4 _ (by decide), o3 _ (by decide)]; exact e2
  have R3 : D4.2.1 r 12 = .ref (r + 31) := by rw [o4 _ (by decide)]; exact e3
  have YY : vb (r + 21) U B4 := ((b1.trans b2 (by omega)).trans b3 (by omega)).trans b4 (by omega)
  have Y2 : vb (r + 26) B1 B4 := (b2.trans b3 (by omega)).trans b4 (by omega)
  have Y3 : vb (r + 31) B2 B4 := b3.trans b4 (by omega)
  refine ⟨D4, B4, ?_, ⟨d4, g0.1, g0.2.1, g0.2.2, g1.1, g1.2.1, g1.2.2, g2.1, g2.2.1, g2.2.2, g3.1, g3.2.1, g3.2.2, g4.1, g4.2.1, g4.2.2, g5.1, g5.2.1, g5.2.2, g6.1, g6.2.1, g6.2.2, g7.1, g7.2.1, g7.2.2, g8.1, g8.2.1, g8.2.2, g9.1, g9.2.1, g9.2.2, R1, P1, R2, P2, R3, P3, e4, p4⟩, X14, Y14, by rw [(YY _ (by omega)).1]; exact u0, by rw [(YY _ (by omega)).1]; exact u1, by rw [(YY _ (by omega)).1]; exact u2, by rw [(YY _ (by omega)).1]; exact u3, by rw [(YY _ (by omega)).1]; exact u4, by rw [(YY _ (by omega)).1]; exact u5, by rw [(YY _ (by omega)).1]; exact u6, by rw [(YY _ (by omega)).1]; exact u7, by rw [(YY _ (by omega)).1]; exact u8, by rw [(YY _ (by omega)).1]; exact u9, ⟨by rw [(Y2 _ (by omega)).1]; exact q1.1, by rw [(Y2 _ (by omega)).1]; exact q1.2⟩, ⟨by rw [(Y3 _ (by omega)).1]; exact q2.1, by rw [(Y3 _ (by omega)).1]; exact q2.2⟩, ⟨by rw [(b4 _ (by omega)).1]; exact q3.1, by rw [(b4 _ (by omega)).1]; exact q3.2⟩, q4⟩
  unfold F_X1_init
  refine E_gd hc ?_
  refine (addRow (cap := 10) rfl (by decide) (by omega) hc _).trans ?_
  rw [← hG1]
  dsimp only
  refine (addRow (cap := 10) rfl (by decide) (by omega) c1 _).trans ?_
  rw [← hG2]
  dsimp only
  refine (addRow (cap := 10) rfl (by decide) (by omega) c2 _).trans ?_
  rw [← hG3]
  dsimp only
  refine (addRow (cap := 10) rfl (by decide) (by omega) c3 _).trans ?_
  rw [← hG4]
  dsimp only
  refine (addRow (cap := 100) rfl (by decide) (by omega) c4 _).trans ?_
  rw [← hG5]
  dsimp only
  refine (addRow (cap := 8) rfl (by decide) (by omega) c5 _).trans ?_
  rw [← hG6]
  dsimp only
  refine (addRow (cap := 8) rfl (by decide) (by omega) c6 _).trans ?_
  rw [← hG7]
  dsimp only
  refine (addRow (cap := 24) rfl (by decide) (by omega) c7 _).trans ?_
  rw [← hG8]
  dsimp only
  refine (addRow (cap := 24) rfl (by decide) (by omega) c8 _).trans ?_
  rw [← hG9]
  dsimp only
  refine (addRow (cap := 24) rfl (by decide) (by omega) c9 _).trans ?_
  rw [← hG10]
  dsimp only
  rw [← hU]
  refine (t1 (fun G => is3 G (r + 21)) (fun _ h => h) _).trans ?_
  dsimp only
  refine (t2 (fun G => is3 G (r + 26)) (fun _ h => h) _).trans ?_
  dsimp only
  refine (t3 (fun G => is3 G (r + 31)) (fun _ h => h) _).trans ?_
  dsimp only
  refine (t4 (fun G => is3 G (r + 36)) (fun _ h => h) _).trans ?_
  dsimp only
  simp only [Nat.add_assoc]
end

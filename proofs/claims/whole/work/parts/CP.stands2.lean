/-! a city stands, all of it -/
section
variable {G : mG} {V V' : mV} {m : Nat} {C : mCy} {T : mT2}
theorem cpd.o {A L : Nat → Prop} [DecidablePred A] [DecidablePred L] {N K : Nat} {U : mV} {i : Nat} (h : cpd A L N K V U) (hA : ¬ A i) : gA U i = gA V i := by
  funext j
  rw [h.2.2.1, if_neg (fun q => hA q.1)]
theorem cpd.oL {A L : Nat → Prop} [DecidablePred A] [DecidablePred L] {N K : Nat} {U : mV} {i : Nat} (h : cpd A L N K V U) (hA : ¬ L i) : gL U i = gL V i := by
  funext j
  rw [h.2.2.2, if_neg (fun q => hA q.1)]
theorem cpd.hi {A L : Nat → Prop} [DecidablePred A] [DecidablePred L] {N K : Nat} {U : mV} {i j : Nat} (h : cpd A L N K V U) (hA : A i) (hj : j < K) : gA U i (N + j) = gA V i j := by
  rw [h.2.2.1, if_pos ⟨hA, by omega, by omega⟩, Nat.add_sub_cancel_left]
theorem cpd.lo {A L : Nat → Prop} [DecidablePred A] [DecidablePred L] {N K : Nat} {U : mV} {i j : Nat} (h : cpd A L N K V U) (hj : j < N) : gA U i j = gA V i j := by
  rw [h.2.2.1, if_neg (by omega)]
/-- now alone changes -/
def fmN (m : Nat) (V U : mV) : Prop := (∀ i, i ≠ m + 37 → gA U i = gA V i) ∧ gI U = gI V ∧ gJ U = gJ V ∧ gL U = gL V
theorem fmN_refl : fmN m V V := ⟨fun _ _ => rfl, rfl, rfl, rfl⟩
theorem fmN.sA {U : mV} {k : Nat} {v : Int} (h : fmN m V U) : fmN m V (sA U (m + 37) k v) := ⟨fun i hi => by rw [gA_sAo hi]; exact h.1 i hi, h.2.1, h.2.2.1, h.2.2.2⟩
theorem l_st8 : ∃ U, lp (fun (s : Int) V => B_X10_stands_248 G m s V) FU 0 V = some (U, 1, 282) ∧ fmN m V U ∧ ∀ j, j < 282 → gA U (m + 37) j = 0 := by
  have main : Wp (lp (fun (s : Int) V => B_X10_stands_248 G m s V) FU 0 V) (fun U q => q = (1, 282) ∧ fmN m V U ∧ ∀ j, j < 282 → gA U (m + 37) j = 0) := by
    refine W_lp (fun w (y : Int) U => ∃ k : Nat, y = (k : Int) ∧ k + w = 282 ∧ fmN m V U ∧ ∀ j, j < k → gA U (m + 37) j = 0) ?_ FU 282 _ V ⟨0, rfl, rfl, fmN_refl, fun j hj => by omega⟩ (by unfold FU; decide)
    rintro w y U ⟨k, rfl, hw, hf, hz⟩
    unfold B_X10_stands_248
    refine W_gd ⟨by omega, by omega⟩ (W_if (fun q => W_so (Or.inr ⟨Nat.one_ne_zero, ?_, hf, fun j hj => hz j (by omega)⟩)) (fun q => W_gd ⟨by omega, by omega, by omega⟩ (W_lt (W_lt (W_so (Or.inl ⟨rfl, w - 1, by omega, k + 1, rfl, by omega, hf.sA, fun j hj => ?_⟩))))))
    · have e : k = 282 := by omega
      rw [e]; rfl
    · rw [gA_sAf, Int.toNat_natCast]
      by_cases e : j = k
      · rw [if_pos e]
      · rw [if_neg e]; exact hz j (by omega)
  obtain ⟨U, q, e, rfl, a, b⟩ := main
  exact ⟨U, e, a, b⟩
theorem l_st9 {n : Nat} (hn : n ≤ 10) (h0 : gA V (m + 27) 0 = (n : Int)) (hz : ∀ j, j < 282 → gA V (m + 37) j = 0) (hc : ∀ a b : Nat, a < n → b < n → gA V (m + 33) (10 * a + b) = ck C (a : Int) (b : Int)) :
    ∃ U, lp (fun (s : Int) V => B_X10_stands_270 G m s V) FU 0 V = some (U, 1, (n : Int)) ∧ fmN m V U ∧ rM (gA U (m + 37)) (n : Int) (M0 C) := by
  obtain ⟨P, hP⟩ : ∃ P : Nat → mV → Prop, P = fun p U => fmN m V U ∧ (gA U (m + 37) 0 = 0 ∧ gA U (m + 37) 121 = 0) ∧ ∀ q : Nat, q < p → (gA U (m + 37) (1 + 12 * q) = (q : Int) ∧ gA U (m + 37) (2 + 12 * q) = -1) ∧ ∀ l : Nat, l < n → gA U (m + 37) (3 + 12 * q + l) = ck C (q : Int) (l : Int) := ⟨_, rfl⟩
  have main : Wp (lp (fun (s : Int) V => B_X10_stands_270 G m s V) FU 0 V) (fun U q => q = (1, (n : Int)) ∧ P n U) := by
    refine W_lp (fun w (y : Int) U => ∃ p : Nat, y = (p : Int) ∧ p + w = n ∧ P p U) ?_ FU n _ V ⟨0, rfl, by omega, by rw [hP]; exact ⟨fmN_refl, ⟨hz 0 (by decide), hz 121 (by decide)⟩, fun q hq => by omega⟩⟩ (by unfold FU; omega)
    rintro w y U ⟨p, rfl, hw, hp⟩
    have hp' := hp
    rw [hP] at hp'
    obtain ⟨hf, ⟨z0, z1⟩, hq⟩ := hp'
    unfold B_X10_stands_270
    rw [hf.1 _ (by omega), h0]
    refine W_gd ⟨by omega, by omega⟩ (W_gd ⟨by omega, by omega⟩ (W_if (fun q => W_so (Or.inr ⟨Nat.one_ne_zero, ?_, ?_⟩)) (fun q => W_gd ⟨by omega, by omega, by omega⟩ (W_lt (W_gd ⟨by omega, by omega, by omega⟩ (W_lt ?_))))))
    · have e : p = n := by omega
      rw [e]
    · have e : p = n := by omega
      rw [e] at hp; exact hp
    rw [show (1 + 12 * (p : Int)).toNat = 1 + 12 * p by omega, show (2 + 12 * (p : Int)).toNat = 2 + 12 * p by omega]
    obtain ⟨U1, hU1⟩ : ∃ U1, U1 = sA (sA U (m + 37) (1 + 12 * p) (p : Int)) (m + 37) (2 + 12 * p) (-1) := ⟨_, rfl⟩
    rw [← hU1]
    have f1 : fmN m V U1 := by rw [hU1]; exact hf.sA.sA
    have g1 : ∀ j, gA U1 (m + 37) j = if j = 2 + 12 * p then -1 else if j = 1 + 12 * p then (p : Int) else gA U (m + 37) j := by
      intro j; rw [hU1, gA_sAf, gA_sAf]
    have inner : Wp (lp (fun (s : Int) V => B_X10_stands_306 G m (p : Int) s V) FU 0 U1) (fun U' _ => P (p + 1) U') := by
      refine W_lp (fun w (y : Int) W => ∃ l : Nat, y = (l : Int) ∧ l + w = n ∧ fmN m V W ∧ ∀ j, gA W (m + 37) j = if 3 + 12 * p ≤ j ∧ j < 3 + 12 * p + l then ck C (p : Int) ((j - (3 + 12 * p) : Nat) : Int) else gA U1 (m + 37) j) ?_ FU n _ U1 ⟨0, rfl, by omega, f1, fun j => by rw [if_neg (by omega)]⟩ (by unfold FU; omega)
      rintro w y W ⟨l, rfl, hw, hfW, hg⟩
      unfold B_X10_stands_306
      rw [hfW.1 _ (by omega), h0]
      refine W_gd ⟨by omega, by omega⟩ (W_gd ⟨by omega, by omega⟩ (W_if (fun q => W_so (Or.inr ⟨Nat.one_ne_zero, ?_⟩)) (fun q => W_gd ⟨by omega, by omega, by omega⟩ (W_gd ⟨by omega, by omega, by omega⟩ (W_lt (W_lt (W_so (Or.inl ⟨rfl, w - 1, by omega, l + 1, rfl, by omega, hfW.sA, fun j => ?_⟩))))))))
      · rw [hP]
        refine ⟨hfW, ⟨?_, ?_⟩, fun q hq2 => ⟨⟨?_, ?_⟩, fun r hr => ?_⟩⟩
        · rw [hg, if_neg (by omega), g1, if_neg (by omega), if_neg (by omega)]; exact z0
        · rw [hg, if_neg (by omega), g1, if_neg (by omega), if_neg (by omega)]; exact z1
        · rw [hg, if_neg (by omega), g1, if_neg (by omega)]
          by_cases e : q = p
          · rw [if_pos (by omega), e]
          · rw [if_neg (by omega)]; exact (hq q (by omega)).1.1
        · rw [hg, if_neg (by omega), g1]
          by_cases e : q = p
          · rw [if_pos (by omega)]
          · rw [if_neg (by omega), if_neg (by omega)]; exact (hq q (by omega)).1.2
        · rw [hg]
          by_cases e : q = p
          · rw [if_pos (by omega), e, show 3 + 12 * p + r - (3 + 12 * p) = r by omega]
          · rw [if_neg (by omega), g1, if_neg (by omega), if_neg (by omega)]; exact (hq q (by omega)).2 r hr
      · rw [show ((3 + 12 * (p : Int)) + (l : Int)).toNat = 3 + 12 * p + l by omega, show ((10 * (p : Int)) + (l : Int)).toNat = 10 * p + l by omega, gA_sAf, hfW.1 _ (by omega), hc p l (by omega) (by omega)]
        by_cases e : j = 3 + 12 * p + l
        · rw [if_pos e, if_pos (by omega), e, show 3 + 12 * p + l - (3 + 12 * p) = l by omega]
        · rw [if_neg e, hg]
          by_cases d : 3 + 12 * p ≤ j ∧ j < 3 + 12 * p + l
          · rw [if_pos d, if_pos (by omega)]
          · rw [if_neg d, if_neg (by omega)]
    obtain ⟨U4, u4, e4, p4⟩ := inner
    exact W_be e4 (W_lt (W_so (Or.inl ⟨rfl, w - 1, by omega, p + 1, rfl, by omega, p4⟩)))
  obtain ⟨U, q, e, rfl, hp⟩ := main
  rw [hP] at hp
  obtain ⟨hf, ⟨z0, z1⟩, hq⟩ := hp
  refine ⟨U, e, hf, z0, fun p p0 p1 => ⟨?_, ?_⟩, fun p l p0 p1 l0 l1 => ?_, z1, fun i hi => by have hi' : i < 0 := hi; omega⟩
  · obtain ⟨k, rfl⟩ : ∃ k : Nat, p = (k : Int) := ⟨p.toNat, by omega⟩
    rw [show (1 + 12 * (k : Int)).toNat = 1 + 12 * k by omega]; exact (hq k (by omega)).1.1
  · obtain ⟨k, rfl⟩ : ∃ k : Nat, p = (k : Int) := ⟨p.toNat, by omega⟩
    rw [show (2 + 12 * (k : Int)).toNat = 2 + 12 * k by omega]; exact (hq k (by omega)).1.2
  · obtain ⟨k, rfl⟩ : ∃ k : Nat, p = (k : Int) := ⟨p.toNat, by omega⟩
    obtain ⟨r, rfl⟩ : ∃ k : Nat, l = (k : Int) := ⟨l.toNat, by omega⟩
    rw [show (3 + 12 * (k : Int) + (r : Int)).toNat = 3 + 12 * k + r by omega]; exact (hq k (by omega)).2 r (by omega)
theorem r_stands (hb : rBd V m C) (ho : okC C) (hl : lnC C ≤ 1600) : ∃ V', F_X10_stands G m V = some (V', 0) ∧ rC V' m C ∧ rM (gA V' (m + 37)) (cn C) (M0 C) ∧ gI V' m 69 = 0 ∧ gI V' m 72 = 0 ∧ (∀ i k, (i ≠ m ∨ (k ≠ 69 ∧ k ≠ 72)) → gI V' i k = gI V i k) ∧ gJ V' = gJ V ∧ (∀ i, i ≠ m + 28 → gL V' i = gL V i) ∧ ∀ i, (i < m + 27 ∨ m + 37 < i) → gA V' i = gA V i := by
  obtain ⟨⟨⟨a1, a1'⟩, ⟨a2, a2'⟩, a3⟩, b1, b2, b3, b4, b5, ⟨c1, c2⟩, d⟩ := hb
  have hn := ho.1
  have ht := ho.2.1
  have hd := ho.2.2.1.1
  obtain ⟨n, hnn⟩ : ∃ n : Nat, (n : Int) = cn C := ⟨(cn C).toNat, by omega⟩
  obtain ⟨V1, e1, k1⟩ := l_st1 (G := G) (V := V) (m := m)
  obtain ⟨V2, e2, k2⟩ := l_st2 (G := G) (V := V1) (m := m)
  obtain ⟨V3, e3, k3⟩ := l_st3 (G := G) (V := V2) (m := m)
  obtain ⟨V4, e4, k4⟩ := l_st4 (G := G) (V := V3) (m := m)
  obtain ⟨V5, e5, k5⟩ := l_st5 (G := G) (V := V4) (m := m)
  obtain ⟨V6, e6, k6⟩ := l_st6 (G := G) (V := V5) (m := m)
  have i6 : gI V6 = gI V := by rw [k6.1, k5.1, k4.1, k3.1, k2.1, k1.1]
  obtain ⟨V7, e7, k7⟩ := l_st7 (G := G) (V := V6) (m := m) (K := lnC C) (by rw [i6]; exact c1) hl
  obtain ⟨V8, e8, f8, z8⟩ := l_st8 (G := G) (V := V7) (m := m)
  have x27 : gA V8 (m + 27) = gA V1 (m + 27) := by
    rw [f8.1 _ (by omega), k7.o (by omega), k6.o (by omega), k5.o (by omega), k4.o (by omega), k3.o (by omega), k2.o (by omega)]
  have x33 : gA V8 (m + 33) = gA V5 (m + 33) := by
    rw [f8.1 _ (by omega), k7.o (by omega), k6.o (by omega)]
  have w33 : gA V4 (m + 33) = gA V (m + 33) := by
    rw [k4.o (by omega), k3.o (by omega), k2.o (by omega), k1.o (by omega)]
  obtain ⟨V9, e9, f9, m9⟩ := l_st9 (G := G) (V := V8) (m := m) (C := C) (n := n) (by omega) (by rw [x27, k1.lo (by decide), a1]; omega) z8 (fun a b ha hb => by rw [x33, k5.lo (by omega), w33]; exact b5 a b (by omega) (by omega))
  obtain ⟨V', hV'⟩ : ∃ V', V' = sI (sI V9 m 69 0) m 72 0 := ⟨_, rfl⟩
  have gAV : gA V' = gA V9 := by rw [hV']; rfl
  have gLV : gL V' = gL V7 := by rw [hV']; exact f9.2.2.2.trans f8.2.2.2
  have y : ∀ i, i ≠ m + 37 → gA V' i = gA V7 i := fun i hi => by rw [gAV, f9.1 i hi, f8.1 i hi]
  have q27 : gA V' (m + 27) = gA V1 (m + 27) := by rw [gAV, f9.1 _ (by omega), x27]
  have q29 : gA V' (m + 29) = gA V2 (m + 29) := by rw [y _ (by omega), k7.o (by omega), k6.o (by omega), k5.o (by omega), k4.o (by omega), k3.o (by omega)]
  have q30 : gA V' (m + 30) = gA V3 (m + 30) := by rw [y _ (by omega), k7.o (by omega), k6.o (by omega), k5.o (by omega), k4.o (by omega)]
  have q31 : gA V' (m + 31) = gA V4 (m + 31) := by rw [y _ (by omega), k7.o (by omega), k6.o (by omega), k5.o (by omega)]
  have q32 : gA V' (m + 32) = gA V4 (m + 32) := by rw [y _ (by omega), k7.o (by omega), k6.o (by omega), k5.o (by omega)]
  have q33 : gA V' (m + 33) = gA V5 (m + 33) := by rw [y _ (by omega), k7.o (by omega), k6.o (by omega)]
  have q34 : gA V' (m + 34) = gA V6 (m + 34) := by rw [y _ (by omega), k7.o (by omega)]
  have q35 : gA V' (m + 35) = gA V6 (m + 35) := by rw [y _ (by omega), k7.o (by omega)]
  have q36 : gA V' (m + 36) = gA V7 (m + 36) := y _ (by omega)
  have w29 : gA V1 (m + 29) = gA V (m + 29) := k1.o (by omega)
  have w30 : gA V2 (m + 30) = gA V (m + 30) := by rw [k2.o (by omega), k1.o (by omega)]
  have w31 : gA V3 (m + 31) = gA V (m + 31) := by rw [k3.o (by omega), k2.o (by omega), k1.o (by omega)]
  have w32 : gA V3 (m + 32) = gA V (m + 32) := by rw [k3.o (by omega), k2.o (by omega), k1.o (by omega)]
  have w34 : gA V5 (m + 34) = gA V (m + 34) := by rw [k5.o (by omega), k4.o (by omega), k3.o (by omega), k2.o (by omega), k1.o (by omega)]
  have w35 : gA V5 (m + 35) = gA V (m + 35) := by rw [k5.o (by omega), k4.o (by omega), k3.o (by omega), k2.o (by omega), k1.o (by omega)]
  have w36 : gA V6 (m + 36) = gA V (m + 36) := by rw [k6.o (by omega), k5.o (by omega), k4.o (by omega), k3.o (by omega), k2.o (by omega), k1.o (by omega)]
  have l28 : ∀ j, j < 20 → gL V' (m + 28) (20 + j) = gL V (m + 28) j := by
    intro j hj
    rw [gLV, k7.oL id, k6.oL id, k5.oL id, k4.oL id, k3.oL id, k2.2.2.2, if_pos ⟨rfl, by omega, by omega⟩, Nat.add_sub_cancel_left, k1.oL id]
  have lO : ∀ i, i ≠ m + 28 → gL V' i = gL V i := by
    intro i hi
    rw [gLV, k7.oL id, k6.oL id, k5.oL id, k4.oL id, k3.oL id, k2.oL hi, k1.oL id]
  have rf : ∀ w, w < 4 → rF V' m w (co C w) := by
    intro w hw
    unfold rF
    rw [q34, q35, q36, k6.hi (Or.inl rfl) hw, k6.hi (Or.inr rfl) hw, w34, w35]
    rcases c2 w hw with h | ⟨h1, a, b, h2, h3, h4, h5, h6⟩
    · exact Or.inl h
    · refine Or.inr ⟨h1, a, b, h2, h3, h4, by omega, clr_sh h6 (fun j hj => ?_)⟩
      show gA V7 (m + 36) (1600 + (a + j)) = _
      rw [k7.hi rfl (by omega), w36]
  refine ⟨V', ?_, ⟨⟨?_, ?_, ?_⟩, fun p p0 p1 => ?_, fun t t0 t1 => ?_, fun j hj => ⟨?_, ?_, ?_⟩, fun p p0 p1 => ⟨?_, ?_⟩, ⟨rf 0 (by decide), rf 1 (by decide), rf 2 (by decide), rf 3 (by decide)⟩, fun p p0 p1 => ?_, fun t t0 t1 => ?_, fun a b a0 a1 b0 b1 => ?_⟩, ?_, ?_, ?_, fun i k q => ?_, ?_, lO, fun i hi => ?_⟩
  · unfold F_X10_stands
    refine E_bd e1 (E_bd e2 (E_bd e3 (E_bd e4 (E_bd e5 (E_bd e6 (E_bd e7 (E_bd e8 (E_bd e9 (E_lt (E_lt (E_so hV'.symm rfl)))))))))))
  · rw [q27, show (3 : Nat) = 3 + 0 by rfl, k1.hi rfl (by decide)]; exact a1
  · rw [q27, show (4 : Nat) = 3 + 1 by rfl, k1.hi rfl (by decide)]; exact a2
  · rw [q27, show (5 : Nat) = 3 + 2 by rfl, k1.hi rfl (by decide)]; exact a3
  · obtain ⟨k, rfl⟩ : ∃ k : Nat, p = (k : Int) := ⟨p.toNat, by omega⟩
    rw [show (20 + (k : Int)).toNat = 20 + k by omega, q29, k2.hi rfl (by omega), w29]; exact b1 k p1
  · obtain ⟨k, rfl⟩ : ∃ k : Nat, t = (k : Int) := ⟨t.toNat, by omega⟩
    rw [show (30 + (k : Int)).toNat = 20 + (10 + k) by omega, q29, k2.hi rfl (by omega), w29]; exact b2 k t1
  · rw [q30, k3.hi rfl (by omega), w30]; exact (b3 j hj).1
  · rw [q30, show 73 + 3 * j = 72 + (3 * j + 1) by omega, k3.hi rfl (by omega), w30]; exact (b3 j hj).2.1
  · rw [q30, show 74 + 3 * j = 72 + (3 * j + 2) by omega, k3.hi rfl (by omega), w30]; exact (b3 j hj).2.2
  · obtain ⟨k, rfl⟩ : ∃ k : Nat, p = (k : Int) := ⟨p.toNat, by omega⟩
    rw [show (10 + (k : Int)).toNat = 10 + k by omega, q31, k4.hi (Or.inl rfl) (by omega), w31]; exact (b4 k p1).1
  · obtain ⟨k, rfl⟩ : ∃ k : Nat, p = (k : Int) := ⟨p.toNat, by omega⟩
    rw [show (10 + (k : Int)).toNat = 10 + k by omega, q32, k4.hi (Or.inr rfl) (by omega), w32]; exact (b4 k p1).2
  · obtain ⟨k, rfl⟩ : ∃ k : Nat, p = (k : Int) := ⟨p.toNat, by omega⟩
    rw [show (20 + (k : Int)).toNat = 20 + k by omega, l28 k (by omega)]
    have := a1' k p1
    rw [show 10 * 0 + k = k by omega] at this; exact this
  · obtain ⟨k, rfl⟩ : ∃ k : Nat, t = (k : Int) := ⟨t.toNat, by omega⟩
    rw [show (30 + (k : Int)).toNat = 20 + (10 + k) by omega, l28 _ (by omega)]
    have := a2' k t1
    rw [show 10 * 1 + k = 10 + k by omega] at this; exact this
  · obtain ⟨k, rfl⟩ : ∃ k : Nat, a = (k : Int) := ⟨a.toNat, by omega⟩
    obtain ⟨r, rfl⟩ : ∃ k : Nat, b = (k : Int) := ⟨b.toNat, by omega⟩
    rw [show (100 + (k : Int) * 10 + (r : Int)).toNat = 100 + (10 * k + r) by omega, q33, k5.hi rfl (by omega), w33]; exact b5 k r a1 b1
  · rw [gAV, ← hnn]; exact m9
  · rw [hV', gI_sI, if_neg (by omega), gI_sI, if_pos ⟨rfl, rfl⟩]
  · rw [hV', gI_sI, if_pos ⟨rfl, rfl⟩]
  · rw [hV', gI_sI, if_neg (by omega), gI_sI, if_neg (by omega), f9.2.1, f8.2.1, k7.1, i6]
  · rw [hV']
    show gJ V9 = _
    rw [f9.2.2.1, f8.2.2.1, k7.2.1, k6.2.1, k5.2.1, k4.2.1, k3.2.1, k2.2.1, k1.2.1]
  · rw [y i (by omega), k7.o (by omega), k6.o (by omega), k5.o (by omega), k4.o (by omega), k3.o (by omega), k2.o (by omega), k1.o (by omega)]
end

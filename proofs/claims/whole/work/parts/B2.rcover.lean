/-! who covers whom, how far one knows a life (reference) -/
section
variable {G : mG} {V V' : mV} {m : Nat} {C : mCy} {T : mT2}
theorem rs10.g5 {x : (Int × Int) ⊕ Nat} (h : rs10 V m T x) : rg (gI V m 5) := by
  cases x with
  | inl e => exact h.bad.2
  | inr q => rw [h.2]; decide
theorem rBd.a2 {a b x y : Nat} (h : rBd V m C) {u v : Int} (hp : ∀ j : Nat, (j : Int) < cn C → gA (sA (sA V (m + 31) x u) (m + 32) y v) (m + 31) j = uf (cc C) (x : Int) u (j : Int) ∧ gA (sA (sA V (m + 31) x u) (m + 32) y v) (m + 32) j = uf (cb C) (y : Int) v (j : Int)) (ex : (x : Int) = v) (ey : (y : Int) = u) : rBd (sA (sA V (m + 31) x u) (m + 32) y v) m (addC C v u) := by
  obtain ⟨⟨a1, a2, a3⟩, d1, d2, d3, d4, d5, ⟨g1, g2⟩, d6⟩ := h
  have o : ∀ i, i ≠ m + 31 → i ≠ m + 32 → gA (sA (sA V (m + 31) x u) (m + 32) y v) i = gA V i := by
    intro i h1 h2
    rw [gA_sAo h2, gA_sAo h1]
  refine ⟨⟨⟨by rw [o _ (by omega) (by omega)]; exact a1.1, a1.2⟩, ⟨by rw [o _ (by omega) (by omega)]; exact a2.1, a2.2⟩, by rw [o _ (by omega) (by omega)]; exact a3⟩, fun j hj => by rw [o _ (by omega) (by omega)]; exact d1 j hj, fun j hj => by rw [o _ (by omega) (by omega)]; exact d2 j hj, fun j hj => by rw [o _ (by omega) (by omega)]; exact d3 j hj, fun j hj => ?_, fun a b ha hb' => by rw [o _ (by omega) (by omega)]; exact d5 a b ha hb', ⟨g1, fun w hw4 => ?_⟩, d6⟩
  · have := hp j hj
    rw [ex, ey] at this
    exact this
  · unfold rFb
    rw [o _ (show m + 34 ≠ m + 31 by omega) (by omega), o _ (show m + 35 ≠ m + 31 by omega) (by omega), o _ (show m + 36 ≠ m + 31 by omega) (by omega)]
    exact g2 w hw4
theorem r_coverTold (hT : tOk T) (hG : is10 G m) (hw : rWd V m) (hb : rBd V m C) (ho : okC C) (hf : okN (cp C) (cn C) ∧ okN (cq C) (ct C)) {p : Nat} (h : rs10 V m T (.inr p)) :
    ∃ V', F_X10_coverTold G m V = some (V', 0) ∧ rSt m V V' ∧ rs10 V' m T (aCo C T p) ∧ ∀ q, aCo C T p = .inr q → rBd V' m (addC C (aPi C T p) (aPi C T (nxT T p))) := by
  have hn := ho.1
  obtain ⟨V2, v2, e2, k2, r2, b2, c2⟩ := R_kp hT hG hw hb ho hf h
  have hb2 := hb.lk k2
  obtain ⟨n2, hn2⟩ : ∃ n : Nat, v2 = (n : Int) := ⟨v2.toNat, by omega⟩
  obtain ⟨V3, a3, b3, k3, r3⟩ := R_if (G := G) r2 (k := 3) (w := gI V2 m 35) ⟨by decide, by decide⟩ (gI V2 m 5 = 0 → gA V2 (m + 31) n2 = -1)
  have q0 : ∀ {x : (Int × Int) ⊕ Nat} {U : mV} {q : Nat}, rs10 U m T x → x = .inr q → gI U m 5 = 0 := fun hx he => by rw [he] at hx; exact hx.2
  have eA1 : thn (thn (.inr p) (nKn (cp C) (cn C) T)) (fun q => if (gI V2 m 5 = 0 → gA V2 (m + 31) n2 = -1) then .inr q else .inl (3, gI V2 m 35)) = aCo1 C T p := by
    unfold aCo1
    refine thn_cg (fun q hq => ?_)
    obtain ⟨z1, z2⟩ := c2 _ _ rfl hq
    have i := nKp_i ho hq
    have g0 : gI V2 m 5 = 0 := q0 r2 hq
    have ev : (n2 : Int) = aPi C T p := by rw [← hn2, z1]; rfl
    have e : gA V2 (m + 31) n2 = cc C (aPi C T p) := by rw [(hb2.2.2.2.2.1 n2 (by rw [ev]; exact i.2.2)).1, ev]
    rw [z2, e]
    by_cases z : cc C (aPi C T p) = -1
    · rw [if_pos z, if_pos (fun _ => z)]
    · rw [if_neg z, if_neg (fun y => z (y g0))]
  rw [eA1] at r3
  have hb3 := hb2.lk k3
  have hw3 := (hw.S k2.S).S k3.S
  obtain ⟨V4, v4, e4, k4, r4, b4, c4⟩ := R_kp hT hG hw3 hb3 ho hf r3
  have hb4 := hb3.lk k4
  obtain ⟨n4, hn4⟩ : ∃ n : Nat, v4 = (n : Int) := ⟨v4.toNat, by omega⟩
  obtain ⟨V5, a5, b5, k5, r5⟩ := R_if (G := G) r4 (k := 3) (w := gI V4 m 35) ⟨by decide, by decide⟩ (gI V4 m 5 = 0 → (v4 ≠ v2 ∧ gA V4 (m + 32) n4 = -1))
  have eA : thn (thn (aCo1 C T p) (nKn (cp C) (cn C) T)) (fun q => if (gI V4 m 5 = 0 → (v4 ≠ v2 ∧ gA V4 (m + 32) n4 = -1)) then .inr q else .inl (3, gI V4 m 35)) = aCo C T p := by
    unfold aCo
    refine thn_cg (fun q hq => ?_)
    have g0 : gI V4 m 5 = 0 := q0 r4 hq
    obtain ⟨p1, h5, h6⟩ := thn_r hq
    have h5' := h5
    unfold aCo1 at h5'
    obtain ⟨p2, h7, h8⟩ := thn_r h5'
    have i7 := nKp_i ho h7
    have ep : p1 = nxT T p := by
      split at h8
      · cases h8; exact i7.1
      · cases h8
    rw [ep] at h6
    have i6 := nKp_i ho h6
    obtain ⟨z1, z2⟩ := c2 _ _ rfl h7
    obtain ⟨z3, z4⟩ := c4 _ _ h5 (by rw [ep]; exact h6)
    rw [ep] at z3 z4
    have z3' : v4 = aPi C T (nxT T p) := z3
    have z1' : v2 = aPi C T p := z1
    have ev : (n4 : Int) = aPi C T (nxT T p) := by rw [← hn4]; exact z3'
    have e : gA V4 (m + 32) n4 = cb C (aPi C T (nxT T p)) := by rw [(hb4.2.2.2.2.1 n4 (by rw [ev]; exact i6.2.2)).2, ev]
    rw [z4, e, z3', z1']
    by_cases z : aPi C T (nxT T p) ≠ aPi C T p ∧ cb C (aPi C T (nxT T p)) = -1
    · rw [if_pos z, if_pos (fun _ => z)]
    · rw [if_neg z, if_neg (fun y => z (y g0))]
  rw [eA] at r5
  have kk := ((k2.trans k3).trans k4).trans k5
  have fin : ∀ V6, F_X10_coverTold_J69 G m v2 v4 V5 = some (V6, 0) → F_X10_coverTold G m V = some (V6, 0) := by
    intro V6 e
    have j32 : F_X10_coverTold_J32 G m v2 V3 = some (V6, 0) := by
      unfold F_X10_coverTold_J32
      refine E_bd e4 (E_gd r4.g5 (E_if (fun y0 => E_gd ⟨by omega, by omega⟩ (E_gd ⟨by omega, by omega⟩ (E_if (fun y => ?_) (fun y => ?_)))) (fun y0 => ?_)))
      · unfold F_X10_coverTold_J60
        exact E_bd (b5 (fun q => (q y0).1 y.symm)) e
      · refine E_gd ⟨by omega, by omega, by omega⟩ ?_
        rw [hn4, Int.toNat_natCast, ← hn4]
        have rx : rg (gA V4 (m + 32) n4) := by
          have x4 : ∃ q, thn (aCo1 C T p) (nKn (cp C) (cn C) T) = .inr q := rs10_in r4 y0
          obtain ⟨q, hq⟩ := x4
          obtain ⟨p1, h5, h6⟩ := thn_r hq
          have z3 := (c4 _ _ h5 h6).1
          have i6 := nKp_i ho h6
          have ev : (n4 : Int) = aPi C T p1 := by rw [← hn4]; exact z3
          rw [(hb4.2.2.2.2.1 n4 (by rw [ev]; exact i6.2.2)).2, ev]
          have := ho.2.2.2.2.2.1 _ i6.2.1 i6.2.2
          exact ⟨by omega, by omega⟩
        refine E_gd rx (E_if (fun z => ?_) (fun z => ?_))
        · rw [← a5 (fun _ => ⟨fun q => y q.symm, z⟩)]; exact e
        · unfold F_X10_coverTold_J60
          exact E_bd (b5 (fun q => z (q y0).2)) e
      · rw [← a5 (fun q => absurd q y0)]; exact e
    unfold F_X10_coverTold
    refine E_bd e2 (E_gd r2.g5 (E_if (fun y0 => E_gd ⟨by omega, by omega, by omega⟩ ?_) (fun y0 => ?_)))
    · rw [hn2, Int.toNat_natCast, ← hn2]
      have rx : rg (gA V2 (m + 31) n2) := by
        obtain ⟨q, hq⟩ := rs10_in r2 y0
        have z3 := (c2 _ _ rfl hq).1
        have i6 := nKp_i ho hq
        have ev : (n2 : Int) = aPi C T p := by rw [← hn2]; exact z3
        rw [(hb2.2.2.2.2.1 n2 (by rw [ev]; exact i6.2.2)).1, ev]
        have := ho.2.2.2.2.2.1 _ i6.2.1 i6.2.2
        exact ⟨by omega, by omega⟩
      refine E_gd rx (E_if (fun z => ?_) (fun z => ?_))
      · rw [← a3 (fun _ => z)]; exact j32
      · exact E_bd (b3 (fun q => z (q y0))) j32
    · rw [← a3 (fun q => absurd q y0)]; exact j32
  have hb5 := hb4.lk k5
  cases hA : aCo C T p with
  | inl e =>
    rw [hA] at r5
    refine ⟨V5, fin V5 ?_, kk.S, r5, fun q z => by cases z⟩
    unfold F_X10_coverTold_J69
    exact E_gd r5.bad.2 (E_if (fun y => absurd y r5.bad.1) (fun _ => rfl))
  | inr q =>
    rw [hA] at r5
    obtain ⟨i0, i1, i2, i3, i4, i5⟩ := aCo_i ho hA
    have z1 : v2 = aPi C T p := (c2 _ _ rfl i1).1
    have z2 : v4 = aPi C T (nxT T p) := (c4 _ _ i0 i2).1
    refine ⟨sA (sA V5 (m + 31) n2 v4) (m + 32) n4 v2, fin _ ?_, kk.S.trans ((rSt_sA (by omega) (by show n2 < 10; omega)).trans (rSt_sA (by omega) (by show n4 < 10; omega))), rs10.t r5 (by rw [gA_sAo (by omega), gA_sAo (by omega)]) (fun _ => rfl), fun q' _ => ?_⟩
    · unfold F_X10_coverTold_J69
      refine E_gd r5.g5 (E_if (fun _ => E_gd ⟨by omega, by omega, by omega⟩ (E_lt (E_gd ⟨by omega, by omega, by omega⟩ (E_lt (E_so ?_ rfl))))) (fun y => absurd r5.2 y))
      rw [hn2, hn4, Int.toNat_natCast, Int.toNat_natCast]
    · rw [← z1, ← z2]
      refine rBd.a2 (a := 0) (b := 0) hb5 (fun j hj => ?_) hn2.symm hn4.symm
      have d4 := hb5.2.2.2.2.1 j hj
      rw [gA_sAo (by omega), gA_sAf, gA_sAf, gA_sAo (by omega)]
      refine ⟨?_, ?_⟩
      · by_cases e : j = n2
        · rw [if_pos e, e, uf_e]
        · rw [if_neg e, uf_o (by omega)]; exact d4.1
      · by_cases e : j = n4
        · rw [if_pos e, e, uf_e]
        · rw [if_neg e, uf_o (by omega)]; exact d4.2
theorem r_knownTold (hT : tOk T) (hG : is10 G m) (hw : rWd V m) (hb : rBd V m C) (ho : okC C) (hf : okN (cp C) (cn C) ∧ okN (cq C) (ct C)) {p : Nat} (h : rs10 V m T (.inr p)) :
    ∃ V', F_X10_knownTold G m V = some (V', 0) ∧ rSt m V V' ∧ rs10 V' m T (aKn C T p) ∧ ∀ q, aKn C T p = .inr q → rBd V' m (addK C (aPi C T p) (aPi C T (nxT T p)) (vlT T (nxT T (nxT T p)))) := by
  have hn := ho.1
  obtain ⟨V2, v2, e2, k2, r2, b2, c2⟩ := R_kp hT hG hw hb ho hf h
  have hb2 := hb.lk k2
  obtain ⟨n2, hn2⟩ : ∃ n : Nat, v2 = (n : Int) := ⟨v2.toNat, by omega⟩
  obtain ⟨V3, v3, e3, k3, r3, b3, c3⟩ := R_kp hT hG (hw.S k2.S) hb2 ho hf r2
  have hb3 := hb2.lk k3
  obtain ⟨n3, hn3⟩ : ∃ n : Nat, v3 = (n : Int) := ⟨v3.toNat, by omega⟩
  obtain ⟨V4, a4, b4, k4, r4⟩ := R_if (G := G) r3 (k := 3) (w := gI V3 m 35) ⟨by decide, by decide⟩ (gI V3 m 5 = 0 → v3 ≠ v2)
  have eA : thn (thn (thn (.inr p) (nKn (cp C) (cn C) T)) (nKn (cp C) (cn C) T)) (fun q => if (gI V3 m 5 = 0 → v3 ≠ v2) then .inr q else .inl (3, gI V3 m 35)) = aKn2 C T p := by
    unfold aKn2
    refine thn_cg (fun q hq => ?_)
    have g0 : gI V3 m 5 = 0 := by rw [hq] at r3; exact r3.2
    obtain ⟨p1, h5, h6⟩ := thn_r hq
    have i5 := nKp_i ho h5
    obtain ⟨z1, z2⟩ := c2 _ _ rfl h5
    obtain ⟨z3, z4⟩ := c3 _ _ h5 h6
    rw [i5.1] at z3 z4
    have z3' : v3 = aPi C T (nxT T p) := z3
    have z1' : v2 = aPi C T p := z1
    rw [z4, z3', z1']
    by_cases z : aPi C T (nxT T p) = aPi C T p
    · rw [if_pos z, if_neg (fun y => y g0 z)]
    · rw [if_neg z, if_pos (fun _ => z)]
  rw [eA] at r4
  have hb4 := hb3.lk k4
  obtain ⟨V5, v5, e5, k5, r5, b5, c5⟩ := R_num (G := G) hT r4 (mx := 99) (by decide)
  have r5' : rs10 V5 m T (aKn C T p) := r5
  have kk := ((k2.trans k3).trans k4).trans k5
  have hb5 := hb4.lk k5
  have fin : ∀ V6, (gd (rg (gI V5 m 5)) <|
  if (gI V5 m 5) = 0 then (gd (0 ≤ ((10 * v2) + v3) ∧ ((10 * v2) + v3) < (200 : Int) ∧ ((10 * v2) + v3) ≤ 2147483647) <|
  lt (sA V5 (m + 33) ((10 * v2) + v3).toNat v5) fun V15 =>
  some (V15, (0 : Int))) else (some (V5, 0))) = some (V6, 0) → F_X10_knownTold G m V = some (V6, 0) := by
    intro V6 e
    have j33 : F_X10_knownTold_J33 G m v2 v3 V4 = some (V6, 0) := by
      unfold F_X10_knownTold_J33
      exact E_bd e5 e
    unfold F_X10_knownTold
    refine E_bd e2 (E_bd e3 (E_gd r3.g5 (E_if (fun y0 => E_gd ⟨by omega, by omega⟩ (E_gd ⟨by omega, by omega⟩ (E_if (fun y => ?_) (fun y => ?_)))) (fun y0 => ?_))))
    · exact E_bd (b4 (fun q => q y0 y.symm)) j33
    · rw [← a4 (fun _ q => y q.symm)]; exact j33
    · rw [← a4 (fun q => absurd q y0)]; exact j33
  cases hA : aKn C T p with
  | inl e =>
    rw [hA] at r5'
    exact ⟨V5, fin V5 (E_gd r5'.bad.2 (E_if (fun y => absurd y r5'.bad.1) (fun _ => rfl))), kk.S, r5', fun q z => by cases z⟩
  | inr q =>
    rw [hA] at r5'
    obtain ⟨i1, i2, i3, i4, i5⟩ := aKn_i ho hA
    have z1 : v2 = aPi C T p := (c2 _ _ rfl i1).1
    have z2 : v3 = aPi C T (nxT T p) := (c3 _ _ i1 i2).1
    have z3 : v5 = vlT T (nxT T (nxT T p)) := (c5 _ _ i4 i5).1
    refine ⟨sA V5 (m + 33) (10 * n2 + n3) v5, fin _ ?_, kk.S.trans (rSt_sA (by omega) (by show 10 * n2 + n3 < 100; omega)), rs10.t r5' (by rw [gA_sAo (by omega)]) (fun _ => rfl), fun q' _ => ?_⟩
    · refine E_gd r5'.g5 (E_if (fun _ => E_gd ⟨by omega, by omega, by omega⟩ (E_lt (E_so ?_ rfl))) (fun y => absurd r5'.2 y))
      rw [show (10 * v2 + v3).toNat = 10 * n2 + n3 by omega]
    · rw [← z1, ← z2, ← z3]
      obtain ⟨⟨a1, a2, a3⟩, d1, d2, d3, d4, d5, ⟨g1, g2⟩, d6⟩ := hb5
      have o : ∀ i, i ≠ m + 33 → gA (sA V5 (m + 33) (10 * n2 + n3) v5) i = gA V5 i := fun i h1 => gA_sAo h1
      refine ⟨⟨⟨by rw [o _ (by omega)]; exact a1.1, a1.2⟩, ⟨by rw [o _ (by omega)]; exact a2.1, a2.2⟩, by rw [o _ (by omega)]; exact a3⟩, fun j hj => by rw [o _ (by omega)]; exact d1 j hj, fun j hj => by rw [o _ (by omega)]; exact d2 j hj, fun j hj => by rw [o _ (by omega)]; exact d3 j hj, fun j hj => by rw [o _ (by omega), o _ (by omega)]; exact d4 j hj, fun a b ha hb' => ?_, ⟨g1, fun w hw4 => ?_⟩, d6⟩
      · have ha' : (a : Int) < cn C := ha
        have hb2 : (b : Int) < cn C := hb'
        rw [gA_sAf]
        show _ = ug (ck C) v2 v3 v5 a b
        unfold ug
        by_cases e : (a : Int) = v2 ∧ (b : Int) = v3
        · rw [if_pos (by omega), if_pos e]
        · rw [if_neg (by omega), if_neg e]; exact d5 a b ha' hb2
      · unfold rFb
        rw [o _ (show m + 34 ≠ m + 33 by omega), o _ (show m + 35 ≠ m + 33 by omega), o _ (show m + 36 ≠ m + 33 by omega)]
        exact g2 w hw4
end

/-! a city told: the other side -/
section
variable {G : mG} {V V' : mV} {m N : Nat} {C : mCy} {T : mT2} {Y : mY}
theorem rA_0 {U : mV} (hT : tOk T) (h1 : ∀ j, j < T.2 → gA U (m + 1) j = T.1 j) (h3 : gI U m 3 = (T.2 : Int)) (h2 : gI U m 2 = 0) (h4 : gI U m 4 = -1) : rA U m T (bsk T 0) := by
  obtain ⟨-, b2, b3, -⟩ := bsk_spec (T := T) (Nat.zero_le _)
  have nb : bsk T 0 ≠ 0 → isB (T.1 (bsk T 0 - 1)) = true := fun h => b3 _ (Nat.zero_le _) (by omega)
  have nl : ∀ {c : Int}, isB c = true → ¬ isL c = true ∧ ¬ isD c = true := by
    intro c h
    rw [isB_i] at h
    rw [isL_i, isD_i]
    omega
  refine ⟨h1, h3, ⟨0, by rw [h2]; rfl, Nat.zero_le _, rfl⟩, ⟨by omega, by omega⟩, ⟨fun q => by omega, fun q => ?_⟩, fun _ z => ⟨fun q => (nl (nb z)).1 q.2, fun q => (nl (nb z)).2 q.2⟩⟩
  exact absurd q.2 (fun w => w.elim (nl (nb q.1)).1 (nl (nb q.1)).2)
theorem r_city (hG : is10 G m) (h : okA N Y) (hv : rY V m Y) : ∃ V', F_X10_city G m V = some (V', aCit Y) ∧ (∀ i, i < m → gI V' i = gI V i ∧ gA V' i = gA V i ∧ gJ V' i = gJ V i ∧ gL V' i = gL V i) ∧ rY V' m (yCity Y) := by
  have hT := h.1.2.2.1
  have hT1 := hT.1
  obtain ⟨hz, ⟨t1, t2⟩, ⟨u1, u2⟩, ⟨im1, im2⟩, ⟨sl1, sl2, sl3⟩, hse, hwd⟩ := hv
  obtain ⟨V8, hV8⟩ : ∃ V8, V8 = sI (sI (sI (sI (sI (sI (sI (sI V m 3 (gI V m 1)) m 1 0) m 2 0) m 4 (-1)) m 5 0) m 6 (-1)) m 47 0) m 46 0 := ⟨_, rfl⟩
  have gi8 : ∀ i k, (i ≠ m ∨ (k ≠ 3 ∧ k ≠ 1 ∧ k ≠ 2 ∧ k ≠ 4 ∧ k ≠ 5 ∧ k ≠ 6 ∧ k ≠ 47 ∧ k ≠ 46)) → gI V8 i k = gI V i k := by
    intro i k q
    rw [hV8, gI_sI, if_neg (by omega), gI_sI, if_neg (by omega), gI_sI, if_neg (by omega), gI_sI, if_neg (by omega), gI_sI, if_neg (by omega), gI_sI, if_neg (by omega), gI_sI, if_neg (by omega), gI_sI, if_neg (by omega)]
  have gA8 : gA V8 = gA V := by rw [hV8]; rfl
  have gJ8 : gJ V8 = gJ V := by rw [hV8]; rfl
  have gL8 : gL V8 = gL V := by rw [hV8]; rfl
  -- the clearing loops
  have l1 : Wp (lp (fun (s : Int) V => B_X10_city_45 G m s V) FU 0 V8) (fun U _ => gI U = gI V8 ∧ gJ U = gJ V8 ∧ gL U = gL V8 ∧ (∀ i, i ≠ m + 27 → gA U i = gA V8 i) ∧ ∀ j, gA U (m + 27) j = if j < 3 then 0 else gA V8 (m + 27) j) := by
    refine W_lp (fun w (y : Int) U => ∃ k : Nat, y = (k : Int) ∧ k + w = 3 ∧ gI U = gI V8 ∧ gJ U = gJ V8 ∧ gL U = gL V8 ∧ (∀ i, i ≠ m + 27 → gA U i = gA V8 i) ∧ ∀ j, gA U (m + 27) j = if j < k then 0 else gA V8 (m + 27) j) ?_ FU 3 _ V8 ⟨0, rfl, rfl, rfl, rfl, rfl, fun _ _ => rfl, fun j => by rw [if_neg (by omega)]⟩ (by unfold FU; decide)
    rintro w y U ⟨k, rfl, hw, w1, w2, w3, w4, w5⟩
    unfold B_X10_city_45
    refine W_gd ⟨by omega, by omega⟩ (W_if (fun q => W_so (Or.inr ⟨Nat.one_ne_zero, w1, w2, w3, w4, fun j => ?_⟩)) (fun q => W_gd ⟨by omega, by omega, by omega⟩ (W_lt (W_lt (W_so (Or.inl ⟨rfl, w - 1, by omega, k + 1, rfl, by omega, w1, w2, w3, fun i hi => ?_, fun j => ?_⟩))))))
    · have e : k = 3 := by omega
      rw [e] at w5; exact w5 j
    · rw [gA_sAo hi]; exact w4 i hi
    · rw [gA_sAf, Int.toNat_natCast, w5]
      by_cases e : j = k
      · rw [if_pos e, if_pos (by omega)]
      · rw [if_neg e]
        by_cases e2 : j < k
        · rw [if_pos e2, if_pos (by omega)]
        · rw [if_neg e2, if_neg (by omega)]
  obtain ⟨V14, u14, e14, i14, j14, g14, o14, a14⟩ := l1
  have l2 : Wp (lp (fun (s : Int) V => B_X10_city_65 G m s V) FU 0 V14) (fun U _ => gI U = gI V14 ∧ gJ U = gJ V14 ∧ gL U = gL V14 ∧ (∀ i, i ≠ m + 34 → gA U i = gA V14 i) ∧ ∀ j, gA U (m + 34) j = if j < 4 then -1 else gA V14 (m + 34) j) := by
    refine W_lp (fun w (y : Int) U => ∃ k : Nat, y = (k : Int) ∧ k + w = 4 ∧ gI U = gI V14 ∧ gJ U = gJ V14 ∧ gL U = gL V14 ∧ (∀ i, i ≠ m + 34 → gA U i = gA V14 i) ∧ ∀ j, gA U (m + 34) j = if j < k then -1 else gA V14 (m + 34) j) ?_ FU 4 _ V14 ⟨0, rfl, rfl, rfl, rfl, rfl, fun _ _ => rfl, fun j => by rw [if_neg (by omega)]⟩ (by unfold FU; decide)
    rintro w y U ⟨k, rfl, hw, w1, w2, w3, w4, w5⟩
    unfold B_X10_city_65
    refine W_gd ⟨by omega, by omega⟩ (W_if (fun q => W_so (Or.inr ⟨Nat.one_ne_zero, w1, w2, w3, w4, fun j => ?_⟩)) (fun q => W_gd ⟨by omega, by omega, by omega⟩ (W_lt (W_lt (W_so (Or.inl ⟨rfl, w - 1, by omega, k + 1, rfl, by omega, w1, w2, w3, fun i hi => ?_, fun j => ?_⟩))))))
    · have e : k = 4 := by omega
      rw [e] at w5; exact w5 j
    · rw [gA_sAo hi]; exact w4 i hi
    · rw [gA_sAf, Int.toNat_natCast, w5]
      by_cases e : j = k
      · rw [if_pos e, if_pos (by omega)]
      · rw [if_neg e]
        by_cases e2 : j < k
        · rw [if_pos e2, if_pos (by omega)]
        · rw [if_neg e2, if_neg (by omega)]
  obtain ⟨V23, u23, e23, i23, j23, g23, o23, a23⟩ := l2
  have i238 : gI V23 = gI V8 := by rw [i23, i14]
  have o238 : ∀ i, i ≠ m + 27 → i ≠ m + 34 → gA V23 i = gA V i := fun i h1 h2 => by rw [o23 i h2, o14 i h1, gA8]
  have hHf : rHf m V V23 := by
    refine ⟨fun a k x y z => ?_, fun k _ => by rw [g23, g14, gL8]⟩
    by_cases e1 : a = 27
    · rw [e1] at z ⊢
      have z' : 3 ≤ k := z
      rw [o23 _ (by omega), a14, if_neg (by omega), gA8]
    · by_cases e2 : a = 34
      · rw [e2] at z ⊢
        have z' : 4 ≤ k := z
        rw [a23, if_neg (by omega), o14 _ (by omega), gA8]
      · rw [o238 _ (by omega) (by omega)]
  have v : ∀ k x, gI V8 m k = x → gI V23 m k = x := fun k x e => by rw [i238]; exact e
  have q46 : gI V23 m 46 = 0 := v _ _ (by rw [hV8, gI_sI, if_pos ⟨rfl, rfl⟩])
  have q47 : gI V23 m 47 = 0 := v _ _ (by rw [hV8, gI_sI, if_neg (by omega), gI_sI, if_pos ⟨rfl, rfl⟩])
  have q6 : gI V23 m 6 = -1 := v _ _ (by rw [hV8, gI_sI, if_neg (by omega), gI_sI, if_neg (by omega), gI_sI, if_pos ⟨rfl, rfl⟩])
  have q5 : gI V23 m 5 = 0 := v _ _ (by rw [hV8, gI_sI, if_neg (by omega), gI_sI, if_neg (by omega), gI_sI, if_neg (by omega), gI_sI, if_pos ⟨rfl, rfl⟩])
  have q4 : gI V23 m 4 = -1 := v _ _ (by rw [hV8, gI_sI, if_neg (by omega), gI_sI, if_neg (by omega), gI_sI, if_neg (by omega), gI_sI, if_neg (by omega), gI_sI, if_pos ⟨rfl, rfl⟩])
  have q2 : gI V23 m 2 = 0 := v _ _ (by rw [hV8, gI_sI, if_neg (by omega), gI_sI, if_neg (by omega), gI_sI, if_neg (by omega), gI_sI, if_neg (by omega), gI_sI, if_neg (by omega), gI_sI, if_pos ⟨rfl, rfl⟩])
  have q1 : gI V23 m 1 = 0 := v _ _ (by rw [hV8, gI_sI, if_neg (by omega), gI_sI, if_neg (by omega), gI_sI, if_neg (by omega), gI_sI, if_neg (by omega), gI_sI, if_neg (by omega), gI_sI, if_neg (by omega), gI_sI, if_pos ⟨rfl, rfl⟩])
  have q3 : gI V23 m 3 = ((yT Y).2 : Int) := v _ _ (by rw [hV8, gI_sI, if_neg (by omega), gI_sI, if_neg (by omega), gI_sI, if_neg (by omega), gI_sI, if_neg (by omega), gI_sI, if_neg (by omega), gI_sI, if_neg (by omega), gI_sI, if_neg (by omega), gI_sI, if_pos ⟨rfl, rfl⟩]; exact t2)
  have hrs : rs10 V23 m (yT Y) (.inr (bsk (yT Y) 0)) := ⟨rA_0 hT (fun j hj => by rw [o238 _ (by omega) (by omega)]; exact t1 j hj) q3 q2 q4, q5⟩
  have hw23 : rWd V23 m := hwd.of (fun i hi => by unfold isW at hi; exact o238 _ (by omega) (by omega))
  have a0 : ∀ j, j < 3 → gA V23 (m + 27) j = 0 := fun j hj => by rw [o23 _ (by omega), a14, if_pos hj]
  have hb : rBd V23 m C00 := by
    refine ⟨⟨⟨a0 0 (by decide), fun j hj => ?_⟩, ⟨a0 1 (by decide), fun j hj => ?_⟩, a0 2 (by decide)⟩, fun j hj => ?_, fun j hj => ?_, fun j hj => absurd hj (Nat.not_lt_zero _), fun j hj => ?_, fun a b ha _ => ?_, ⟨q46, fun w hw => Or.inl ⟨rfl, by rw [a23, if_pos hw]⟩⟩, q47⟩
    · have hj' : (j : Int) < 0 := hj
      omega
    · have hj' : (j : Int) < 0 := hj
      omega
    · have hj' : (j : Int) < 0 := hj
      omega
    · have hj' : (j : Int) < 0 := hj
      omega
    · have hj' : (j : Int) < 0 := hj
      omega
    · have hj' : (a : Int) < 0 := ha
      omega
  obtain ⟨V37, e37, k37, O⟩ := r_cityL (G := G) hT hG 71 V23 C00 (bsk (yT Y) 0) FU hw23 hb okS_00 (Int.le_refl _) rfl (by decide) (by unfold FU; decide) (Nat.zero_le _) hrs
  have I37 : Ik m 5 V37 := Pk_lp (fun s V hV => pk_B_X10_city_83 hV) (fun _ => q6) V37 (1, ()) e37
  obtain ⟨V41, hV41⟩ : ∃ V41, V41 = sI (sI V37 m 7 (gI V37 m 5)) m 8 (gI V37 m 6) := ⟨_, rfl⟩
  have top : ∀ {r : Option (mV × Int)}, (gd (rg (gI V41 m 5)) <| if (gI V41 m 5) = 0 then (bd (F_X10_stands G m V41) fun V45 v46 => some (V45, gI V45 m 47)) else (lt (sA V41 (m + 2) 1 ((gA V41 (m + 2) 1) + 1)) fun V48 => some (V48, (-1)))) = r → F_X10_city G m V = r := by
    intro r hr
    unfold F_X10_city
    refine E_lt (E_lt (E_lt (E_lt (E_lt (E_lt (E_lt (E_lt ?_)))))))
    rw [← hV8]
    refine E_bd e14 (E_bd e23 (E_bd e37 ?_))
    unfold F_X10_city_J105
    refine E_lt (E_lt ?_)
    rw [show gI (sI V37 m 7 (gI V37 m 5)) m 6 = gI V37 m 6 by rw [gI_sI, if_neg (by omega)], ← hV41]
    exact hr
  have gi41 : ∀ i k, (i ≠ m ∨ (k ≠ 7 ∧ k ≠ 8)) → gI V41 i k = gI V37 i k := fun i k q => by rw [hV41, gI_sI, if_neg (by omega), gI_sI, if_neg (by omega)]
  have g7 : gI V41 m 7 = gI V37 m 5 := by rw [hV41, gI_sI, if_neg (by omega), gI_sI, if_pos ⟨rfl, rfl⟩]
  have g8 : gI V41 m 8 = gI V37 m 6 := by rw [hV41, gI_sI, if_pos ⟨rfl, rfl⟩]
  -- what stood
  have gi0 : ∀ i k, (i ≠ m ∨ (k ≠ 1 ∧ k ≠ 2 ∧ k ≠ 3 ∧ k ≠ 4 ∧ k ≠ 5 ∧ k ≠ 6 ∧ k ≠ 7 ∧ k ≠ 8 ∧ k ≠ 10 ∧ k ≠ 35 ∧ k ≠ 46 ∧ k ≠ 47 ∧ k ≠ 48 ∧ k ≠ 98 ∧ k ≠ 100 ∧ k ≠ 101 ∧ k ≠ 102)) → gI V41 i k = gI V i k := by
    intro i k q
    rw [gi41 i k (by omega), k37.2.2.2.1 i k (by omega), i238, gi8 i k (by omega)]
  have g1 : gI V41 m 1 = 0 := by rw [gi41 m 1 (by omega), k37.2.2.2.1 m 1 (by omega)]; exact q1
  have gA0 : ∀ i, i ≠ m + 68 → i ≠ m + 69 → (i < m + 27 ∨ m + 36 < i) → gA V41 i = gA V i := by
    intro i x1 x2 x3
    have : gA V41 i = gA V37 i := by rw [hV41]; rfl
    rw [this, k37.2.2.1 i x1 x2 x3, o238 i (by omega) (by omega)]
  have gJ0 : gJ V41 = gJ V := by
    have : gJ V41 = gJ V37 := by rw [hV41]; rfl
    rw [this, k37.1, j23, j14, gJ8]
  have gL0 : ∀ i, i ≠ m + 28 → gL V41 i = gL V i := by
    intro i hi
    have : gL V41 i = gL V37 i := by rw [hV41]; rfl
    rw [this, k37.2.1 i hi, g23, g14, gL8]
  have H41 : rHf m V V41 := by
    have h3 : rHf m V37 V41 := rHf_eq (by rw [hV41]; rfl) (by rw [hV41]; rfl)
    exact (hHf.trans k37.2.2.2.2).trans h3
  have hwd41 : rWd V41 m := hwd.of (fun i hi => by unfold isW at hi; exact gA0 _ (by omega) (by omega) (by omega))
  have ln := fun y (e : aCi (yT Y) 71 C00 (bsk (yT Y) 0) = .inr y) => aCi_ln hT 71 C00 (bsk (yT Y) 0) okS_00 (Nat.zero_le _) (bsk_spec (Nat.zero_le _)).2.1 y e
  have ck := aCi_ok hT (fun w => okK_T) 71 C00 (bsk (yT Y) 0) okS_00 ⟨Int.le_refl _, by decide⟩ (bsk_spec (Nat.zero_le _)).2.1
  unfold yCity aCit aCity
  cases hA : aCi (yT Y) 71 C00 (bsk (yT Y) 0) with
  | inl e =>
    rw [hA] at O
    obtain ⟨f1, f2, f3, f4⟩ := O
    have g5 : gI V41 m 5 = e.1 := by rw [gi41 m 5 (by omega)]; exact f1
    refine ⟨sA V41 (m + 2) 1 (gA V41 (m + 2) 1 + 1), top (E_gd (by rw [g5]; exact f3) (E_if (fun q => absurd (g5 ▸ q) f4) (fun _ => E_lt rfl))), fun i hi => ⟨?_, ?_, ?_, ?_⟩, ⟨?_, ?_, ?_, ?_, ?_⟩, ⟨fun j hj => by have hj' : j < 0 := hj; omega, g1⟩, ⟨g7.trans f1, g8.trans f2⟩, ⟨?_, fun j hj => ?_⟩, ⟨?_, fun j hj => ?_, fun q => ?_⟩, ?_, ?_⟩
    · funext k; exact gi0 i k (by omega)
    · rw [gA_sAo (by omega)]; exact gA0 i (by omega) (by omega) (by omega)
    · show gJ V41 i = _; rw [gJ0]
    · exact gL0 i (by omega)
    · exact (hz.1.hf H41).fr ⟨fun i p q => gA_sAo (by omega), rfl⟩
    · rw [gA_sAo (by omega), gA0 _ (by omega) (by omega) (by omega)]; exact hz.2.1
    · obtain ⟨b1, b2, b3, b4⟩ := hz.2.2.1
      refine ⟨(gi0 m 69 (by omega)).trans b1, b2, by show 0 ≤ gI V41 m 70 ∧ gI V41 m 70 < 20; rw [gi0 m 70 (by omega)]; exact b3, fun i hi => ?_⟩
      show rM (fun k => gA (sA V41 (m + 2) 1 _) (m + 44) (282 * ((gI V41 m 70 - i) % 20).toNat + k)) _ _
      rw [gA_sAo (by omega), gA0 _ (by omega) (by omega) (by omega), gi0 m 70 (by omega)]
      exact b4 i hi
    · intro k k0 k1
      show gA (sA V41 (m + 2) 1 _) (m + 2) k.toNat = (refZ (yZ Y) 1).2.2.2 k
      have old : gA V41 (m + 2) = gA V (m + 2) := gA0 _ (by omega) (by omega) (by omega)
      have o1 := hz.2.2.2.1 1 (by decide) (by decide)
      have ok := hz.2.2.2.1 k k0 k1
      have e1 : (refZ (yZ Y) 1).2.2.2 = uf (yZ Y).2.2.2 1 ((yZ Y).2.2.2 1 + 1) := rfl
      rw [gA_sAf, old, e1]
      unfold uf
      by_cases e : k = 1
      · rw [if_pos (by omega), if_pos e]
        have o1' : gA V (m + 2) 1 = (yZ Y).2.2.2 1 := o1
        rw [o1']
      · rw [if_neg (by omega), if_neg e]; exact ok
    · show gI V41 m 61 = -1 ∨ gI V41 m 61 = 0 ∨ gI V41 m 61 = 1
      rw [gi0 m 61 (by omega)]; exact hz.2.2.2.2
    · exact (gi0 m 108 (by omega)).trans im1
    · rw [gA_sAo (by omega), gA0 _ (by omega) (by omega) (by omega)]; exact im2 j hj
    · show 3 * gI V41 m 72 = _
      rw [gi0 m 72 (by omega)]; exact sl1
    · rw [gA_sAo (by omega), gA0 _ (by omega) (by omega) (by omega)]; exact sl2 j hj
    · exact (gi0 m 73 (by omega)).trans (sl3 q)
    · show gJ V41 m 71 = _
      rw [gJ0]; exact hse
    · exact hwd41.of (fun i hi => gA_sAo (by unfold isW at hi; omega))
  | inr y =>
    rw [hA] at O ck
    obtain ⟨⟨_, f1⟩, hb3⟩ := O
    have g5 : gI V41 m 5 = 0 := by rw [gi41 m 5 (by omega)]; exact f1
    have hb4 : rBd V41 m y.1 := by
      have e1 : gA V41 = gA V37 := by rw [hV41]; rfl
      have e2 : gL V41 = gL V37 := by rw [hV41]; rfl
      obtain ⟨⟨a1, a2, a3⟩, b1, b2, b3, b4, b5, ⟨c1, c2⟩, d⟩ := hb3
      unfold rBd rFb
      rw [e1, gi41 m 46 (by omega), gi41 m 47 (by omega)]
      exact ⟨⟨a1.of (by rw [e1]) (by rw [e2]), a2.of (by rw [e1]) (by rw [e2]), a3⟩, b1, b2, b3, b4, b5, ⟨c1, c2⟩, d⟩
    obtain ⟨V5, e5, s1, s2, s3, s4, s5, s6, s7, s8⟩ := r_stands (G := G) hb4 ck.1.1 (by have := ln y hA; omega)
    have c47 : gI V5 m 47 = cu y.1 := by rw [s5 m 47 (by omega)]; exact hb4.2.2.2.2.2.2.2
    refine ⟨V5, top (E_gd (by rw [g5]; exact ⟨by decide, by decide⟩) (E_if (fun _ => E_bd e5 (E_so rfl c47)) (fun q => absurd g5 q))), fun i hi => ⟨?_, ?_, ?_, ?_⟩, ⟨s1, s2, ⟨s3, Nat.zero_le _, ?_, fun i hi => by have hi' : i < 0 := hi; omega⟩, fun k k0 k1 => ?_, ?_⟩, ⟨fun j hj => by have hj' : j < 0 := hj; omega, (s5 m 1 (by omega)).trans g1⟩, ⟨(s5 m 7 (by omega)).trans (g7.trans f1), (s5 m 8 (by omega)).trans (g8.trans (I37 f1))⟩, ⟨?_, fun j hj => ?_⟩, ⟨by show 3 * gI V5 m 72 = 0; rw [s4]; rfl, fun j hj => by have hj' : j < 0 := hj; omega, fun q => absurd rfl q⟩, ?_, ?_⟩
    · funext k; rw [s5 i k (by omega)]; exact gi0 i k (by omega)
    · rw [s8 i (by omega)]; exact gA0 i (by omega) (by omega) (by omega)
    · rw [s6, gJ0]
    · rw [s7 i (by omega)]; exact gL0 i (by omega)
    · rw [s5 m 70 (by omega), gi0 m 70 (by omega)]; exact hz.2.2.1.2.2.1
    · rw [s8 _ (by omega), gA0 _ (by omega) (by omega) (by omega)]; exact hz.2.2.2.1 k k0 k1
    · rw [s5 m 61 (by omega), gi0 m 61 (by omega)]; exact hz.2.2.2.2
    · rw [s5 m 108 (by omega), gi0 m 108 (by omega)]; exact im1
    · rw [s8 _ (by omega), gA0 _ (by omega) (by omega) (by omega)]; exact im2 j hj
    · rw [s6, gJ0]; exact hse
    · exact hwd41.of (fun i hi => s8 _ (by unfold isW at hi; omega))
end

/-! a part read by the class; all of it -/
section
variable {G : mG} {r : Nat} {T : mT2} {md : Nat}
theorem FR_pair (hG : is6 G r) (hT : tOk T) (ho : oR G r) {f o : Nat} (ho6 : o ≤ 6) (h6 : 6 ≤ f) (r3 : o < 6 → rdsP G r T md (FR G r f 3 ((o : Int) + 1) 0) (rd (kT md T) 64 3 (o + 1))) {V : mV} {p : Nat} {cs : List Int} (h : cF G V r T md p cs) (hk : kcl (kT md T) p = 3 ∨ kcl (kT md T) p = 4) : ∃ V' v, FR G r (f + 1) 6 (o : Int) (if kcl (kT md T) p = 3 then 8 else 9) V = some (V', v) ∧ f7 G r V V' ∧ cQ G V' r T md cs (rdM (kT md T) (rd (kT md T) 64) o p) := by
  have hp := cA_le h.1
  have hl := h.2.2.2.1
  have hx : ∀ w, w ≤ 5 → ∀ a : Int, badP r (FR G r f w a 0) := fun w hw a V b1 b2 => FR_bad b1 b2 f w a 0 hw (by omega)
  obtain ⟨b, hb⟩ : ∃ b : Int, b = if kcl (kT md T) p = 3 then 8 else 9 := ⟨_, rfl⟩
  obtain ⟨bv, hbv⟩ : ∃ b : Int, b = if kcl (kT md T) p = 3 then 5 else 6 := ⟨_, rfl⟩
  have hbb : b = bv + 3 ∧ (bv = 5 ∨ bv = 6) := by rw [hb, hbv]; split <;> decide
  have hen : encc bv = 0 * 16 + b := by rcases hbb with ⟨z, y | y⟩ <;> rw [z, y] <;> rfl
  rw [← hb]
  show ∃ V' v, F_X6_readPair (FR G r f) G r (o : Int) b V = some (V', v) ∧ f7 G r V V' ∧ cQ G V' r T md cs (rdM (kT md T) (rd (kT md T) 64) o p)
  obtain ⟨V1, t1, t2, t3⟩ := k6_take hG h.1 h.2.1
  have hk1 := okK_T p (show kcl (kT md T) p ≠ 0 by omega)
  have hk1' : p < nxT T p := hk1.2.1
  have h1 := h.nx6 ho t2 (by omega) t3
  have e : F_X6_isSign G r 40 V1 = some (V1, if kdT T (knx (kT md T) p) = 2 ∧ T.1 (knx (kT md T) p) = 40 then 1 else 0) := k6_sign hG hT h1.1 h1.2.1 (s := 40) (by decide)
  have c2 : kcl (kT md T) (knx (kT md T) p) = 2 ↔ _ := cl_2
  -- behind the (, whatever x is
  have J : ∀ (U : mV) (x : tR), cQ G U r T md cs x → f7 G r V U → (∀ c q, x = .inr (c, q) → c = [] ∧ q = knx (kT md T) p) → ∃ V' v, F_X6_readPair_J22 (FR G r f) G r (o : Int) b U = some (V', v) ∧ f7 G r V V' ∧ cQ G V' r T md cs (seqR x (fun c q => if 6 ≤ o then .inl (4, (q : Int)) else seqR (rd (kT md T) 64 3 (o + 1) (knx (kT md T) q)) (fun c q => if kcl (kT md T) q ≠ 8 then .inl (1, (q : Int)) else seqR (rd (kT md T) 64 3 (o + 1) (knx (kT md T) q)) (fun c2 q2 => if kcl (kT md T) q2 ≠ 7 then .inl (1, (q2 : Int)) else .inr (c ++ c2 ++ [bv], knx (kT md T) q2))))) := by
    intro U x hU fU hxx
    obtain ⟨V3, d1, d2, d3⟩ := Q_op (md := md) hG ho hU ho6
    obtain ⟨V4, v4, e1, e2, e3⟩ := Q_rec d3 (hx 3 (by decide) ((o : Int) + 1)) (fun hne => r3 (by
      by_cases z : 6 ≤ o
      · exfalso
        cases x with
        | inl e => exact hne e rfl
        | inr y => exact hne (4, (y.2 : Int)) (if_pos z)
      · omega))
    obtain ⟨V5, g1, g2, g3⟩ := Q_sg hG hT ho e3 (s := 44) (k := 8) (by decide) (fun q => cl_8)
    obtain ⟨V6, v6, i1, i2, i3⟩ := Q_rec g3 (hx 3 (by decide) ((o : Int) + 1)) (fun hne => r3 (by
      by_cases z : 6 ≤ o
      · exfalso
        cases x with
        | inl e => exact hne e rfl
        | inr y =>
          refine hne (4, (y.2 : Int)) ?_
          show seqR (seqR (if 6 ≤ o then .inl (4, (y.2 : Int)) else .inr (y.1, knx (kT md T) y.2)) _) _ = _
          rw [if_pos z]; rfl
      · omega))
    obtain ⟨V7, j1, j2, j3⟩ := Q_sg hG hT ho i3 (s := 41) (k := 7) (by decide) (fun q => cl_7)
    have eq : ∀ F : List Int → Nat → tR, seqR (seqR (seqR (seqR (seqR (seqR x (fun c q => if 6 ≤ o then .inl (4, (q : Int)) else .inr (c, knx (kT md T) q))) (fun c q => seqR (rd (kT md T) 64 3 (o + 1) q) (fun c2 q2 => .inr (c ++ c2, q2)))) (fun c q => if kcl (kT md T) q = 8 then .inr (c, knx (kT md T) q) else .inl (1, (q : Int)))) (fun c q => seqR (rd (kT md T) 64 3 (o + 1) q) (fun c2 q2 => .inr (c ++ c2, q2)))) (fun c q => if kcl (kT md T) q = 7 then .inr (c, knx (kT md T) q) else .inl (1, (q : Int)))) F = seqR x (fun _ q => if 6 ≤ o then .inl (4, (q : Int)) else seqR (rd (kT md T) 64 3 (o + 1) (knx (kT md T) q)) (fun c q => if kcl (kT md T) q ≠ 8 then .inl (1, (q : Int)) else seqR (rd (kT md T) 64 3 (o + 1) (knx (kT md T) q)) (fun c2 q2 => if kcl (kT md T) q2 ≠ 7 then .inl (1, (q2 : Int)) else F (c ++ c2) (knx (kT md T) q2)))) := by
      intro F
      have e0 : ∀ (e : Int × Int) (f : List Int → Nat → tR), seqR (.inl e) f = .inl e := fun _ _ => rfl
      have e1 : ∀ (a : List Int) (b : Nat) (f : List Int → Nat → tR), seqR (.inr (a, b)) f = f a b := fun _ _ _ => rfl
      cases x with
      | inl e => rfl
      | inr y =>
        obtain ⟨c, q⟩ := y
        obtain ⟨rfl, -⟩ := hxx c q rfl
        simp only [e1]
        by_cases z : 6 ≤ o
        · rw [if_pos z, if_pos z]; rfl
        rw [if_neg z, if_neg z]
        simp only [e1, List.nil_append]
        cases rd (kT md T) 64 3 (o + 1) (knx (kT md T) q) with
        | inl e => rfl
        | inr y =>
          obtain ⟨c1, q1⟩ := y
          simp only [e1]
          by_cases z8 : kcl (kT md T) q1 = 8
          · rw [if_pos z8, if_neg (fun w => w z8)]
            simp only [e1]
            cases rd (kT md T) 64 3 (o + 1) (knx (kT md T) q1) with
            | inl e => rfl
            | inr y =>
              obtain ⟨c2, q2⟩ := y
              simp only [e1]
              by_cases z7 : kcl (kT md T) q2 = 7
              · rw [if_pos z7, if_neg (fun w => w z7)]; rfl
              · rw [if_neg z7, if_pos z7]; rfl
          · rw [if_neg z8, if_pos z8]; rfl
    obtain ⟨V8, m1, m2, m3⟩ := Q_wr hG hT ho j3 (fun c q hc => by
      have hc2 := hc
      rw [show (seqR (seqR (seqR (seqR (seqR x (fun c q => if 6 ≤ o then .inl (4, (q : Int)) else .inr (c, knx (kT md T) q))) (fun c q => seqR (rd (kT md T) 64 3 (o + 1) q) (fun c2 q2 => .inr (c ++ c2, q2)))) (fun c q => if kcl (kT md T) q = 8 then .inr (c, knx (kT md T) q) else .inl (1, (q : Int)))) (fun c q => seqR (rd (kT md T) 64 3 (o + 1) q) (fun c2 q2 => .inr (c ++ c2, q2)))) (fun c q => if kcl (kT md T) q = 7 then .inr (c, knx (kT md T) q) else .inl (1, (q : Int))) : tR) = seqR (seqR (seqR (seqR (seqR (seqR x (fun c q => if 6 ≤ o then .inl (4, (q : Int)) else .inr (c, knx (kT md T) q))) (fun c q => seqR (rd (kT md T) 64 3 (o + 1) q) (fun c2 q2 => .inr (c ++ c2, q2)))) (fun c q => if kcl (kT md T) q = 8 then .inr (c, knx (kT md T) q) else .inl (1, (q : Int)))) (fun c q => seqR (rd (kT md T) 64 3 (o + 1) q) (fun c2 q2 => .inr (c ++ c2, q2)))) (fun c q => if kcl (kT md T) q = 7 then .inr (c, knx (kT md T) q) else .inl (1, (q : Int)))) (fun c q => .inr (c, q)) by cases (seqR (seqR (seqR (seqR (seqR x (fun c q => if 6 ≤ o then .inl (4, (q : Int)) else .inr (c, knx (kT md T) q))) (fun c q => seqR (rd (kT md T) 64 3 (o + 1) q) (fun c2 q2 => .inr (c ++ c2, q2)))) (fun c q => if kcl (kT md T) q = 8 then .inr (c, knx (kT md T) q) else .inl (1, (q : Int)))) (fun c q => seqR (rd (kT md T) 64 3 (o + 1) q) (fun c2 q2 => .inr (c ++ c2, q2)))) (fun c q => if kcl (kT md T) q = 7 then .inr (c, knx (kT md T) q) else .inl (1, (q : Int))) : tR) <;> rfl, eq] at hc2
      obtain ⟨c0, q0, x1, x2⟩ := seqR_r hc2
      obtain ⟨-, rfl⟩ := hxx c0 q0 x1
      split at x2
      · cases x2
      obtain ⟨c1, q1, y1, y2⟩ := seqR_r x2
      split at y2
      · cases y2
      next z8 =>
      obtain ⟨c3, q3, w1, w2⟩ := seqR_r y2
      split at w2
      · cases w2
      next z7 =>
      have n0 := nx_le (T := T) hk1.2.2
      have n0' : knx (kT md T) (knx (kT md T) p) ≤ T.2 := n0.2
      have p1 := pr64 hT n0' y1
      have n1 := okK_T q1 (show kcl (kT md T) q1 ≠ 0 by omega)
      have p2 := pr64 hT n1.2.2 w1
      have n2 := okK_T q3 (show kcl (kT md T) q3 ≠ 0 by omega)
      have n0'' : knx (kT md T) p ≤ knx (kT md T) (knx (kT md T) p) := n0.1
      cases w2
      rw [List.length_append]
      omega) (s := b) (w := 0) (v := bv) (by decide) (by omega) hen
    rw [eq] at m3
    refine ⟨V8, 0, ?_, (((((fU.trans d2).trans e2).trans g2).trans i2).trans j2).trans m2, ?_⟩
    · unfold F_X6_readPair_J22
      exact E_bd d1 (E_bd e1 (E_bd g1 (E_bd i1 (E_bd j1 (E_bd m1 rfl)))))
    · exact m3
  unfold rdM
  rw [← hbv]
  by_cases k2 : kcl (kT md T) (knx (kT md T) p) = 2
  · have e' : F_X6_isSign G r 40 V1 = some (V1, 1) := by
      rw [e, if_pos (c2.mp k2)]
    rw [if_neg (fun w => w k2)]
    obtain ⟨V', v, a1, a2, a3⟩ := J V1 (.inr ([], knx (kT md T) p)) (cF_0 h1) t2.t7 (fun c q hc => by cases hc; exact ⟨rfl, rfl⟩)
    refine ⟨V', v, ?_, a2, a3⟩
    unfold F_X6_readPair
    exact E_bd t1 (E_bd e' (E_gd (by decide) (E_if (fun q => absurd q (by decide)) (fun _ => a1))))
  · have e' : F_X6_isSign G r 40 V1 = some (V1, 0) := by
      rw [e, if_neg (fun z => k2 (c2.mpr z))]
    rw [if_pos k2]
    obtain ⟨V2, b1, b2, b3, b4⟩ := k6_fail (G := G) h1.1 h1.2.1 (k := 1) (w := ((nxT T p : Nat) : Int)) ⟨by decide, by decide⟩
    have x2 := h1.x6 hG ho b2 b3
    obtain ⟨V', v, a1, a2, a3⟩ := J V2 (.inl (1, ((nxT T p : Nat) : Int))) x2 (t2.t7.trans b2.t7) (fun c q hc => by cases hc)
    refine ⟨V', v, ?_, a2, a3⟩
    unfold F_X6_readPair
    exact E_bd t1 (E_bd e' (E_gd (by decide) (E_if (fun _ => E_bd (k6_here hG h1.1) (E_bd b1 a1)) (fun q => absurd rfl q))))
theorem FR_part (hG : is6 G r) (hT : tOk T) (ho : oR G r) (hmd : md ≤ 3) {f o : Nat} (ho6 : o ≤ 6) (h6 : 6 ≤ f) (r3 : o < 6 → rdsP G r T md (FR G r f 3 ((o : Int) + 1) 0) (rd (kT md T) 64 3 (o + 1))) (r5 : o < 6 → rdsP G r T md (FR G r f 5 ((o : Int) + 1) 0) (rd (kT md T) 64 5 (o + 1)))
    (r6 : ∀ V p cs, cF G V r T md p cs → (kcl (kT md T) p = 3 ∨ kcl (kT md T) p = 4) → ∃ V' v, FR G r f 6 (o : Int) (if kcl (kT md T) p = 3 then 8 else 9) V = some (V', v) ∧ f7 G r V V' ∧ cQ G V' r T md cs (rdM (kT md T) (rd (kT md T) 64) o p)) : rdsP G r T md (FR G r (f + 1) 5 (o : Int) 0) (rd (kT md T) 64 5 o) := by
  intro V p cs h
  have hp := cA_le h.1
  have hl := h.2.2.2.1
  have hx : ∀ w, w ≤ 5 → ∀ a : Int, badP r (FR G r f w a 0) := fun w hw a V b1 b2 => FR_bad b1 b2 f w a 0 hw (by omega)
  rw [rx_5 ho6]
  show ∃ V' v, F_X6_readPart (FR G r f) G r (o : Int) V = some (V', v) ∧ f7 G r V V' ∧ cQ G V' r T md cs (rdP (kT md T) (rd (kT md T) 64) o p)
  have ew := k6_word hG h.1
  have ek := k6_kd hG h.1
  have es := k6_sign hG hT h.1 h.2.1 (s := 40) (by decide)
  have c1 : kcl (kT md T) p = 1 ↔ _ := cl_1
  have c2 : kcl (kT md T) p = 2 ↔ _ := cl_2
  have c3 : kcl (kT md T) p = 3 ↔ _ := cl_3
  have c4 : kcl (kT md T) p = 4 ↔ _ := cl_4
  have c5 : kcl (kT md T) p = 5 ↔ _ := cl_5
  have c6 : kcl (kT md T) p = 6 ↔ _ := cl_6
  unfold rdP
  by_cases k1 : kcl (kT md T) p = 1
  · have d1 : kdT T p = 1 := c1.mp k1
    rw [if_pos k1]
    obtain ⟨V1, a1, a2, a3⟩ := k6_tNu hG hT h.1 h.2.1 (m := 9999) (by decide)
    have vr := vl_1r d1
    have ev : kvl (kT md T) p = vlT T p := by show vaT T p = _; unfold vaT; rw [if_pos d1]
    have go : ∀ V' v, bd (F_X3_write G (gR G r 7) 0 (vlT T p) V1) (fun V74 v75 => some (V74, 0)) = some (V', v) → F_X6_readPart (FR G r f) G r (o : Int) V = some (V', v) := by
      intro V' v e
      unfold F_X6_readPart
      exact E_bd (k6_fine h.2.1) (E_gd (by decide) (E_if (fun q => absurd q (by decide)) (fun _ => E_gd ⟨by omega, by omega⟩ (E_if (fun _ => E_bd ew (E_bd ek (E_gd kd_r (E_if (fun _ => E_bd a1 e) (fun q => absurd (by rw [d1]; rfl) q))))) (fun q => by omega)))))
    unfold nNu at a3
    rw [if_neg (fun z => z d1)] at a3
    have el : kln (kT md T) p = lnT T p := rfl
    by_cases l : 4 < kln (kT md T) p
    · rw [if_pos l]
      rw [if_pos (by rw [← el]; exact l)] at a3
      have x2 := h.x6 hG ho a2 a3
      obtain ⟨V2, w1, w2, w3⟩ := cX.wr hG ho x2 (s := 0) (w := vlT T p) vr.1 (Or.inl (by decide))
      exact ⟨V2, 0, go V2 0 (E_bd w1 rfl), a2.t7.trans w2, w3⟩
    · rw [if_neg l]
      rw [if_neg (by rw [← el]; exact l), if_neg (by omega)] at a3
      have hk := okK_T p (show kcl (kT md T) p ≠ 0 by omega)
      have hk2 : p < nxT T p := hk.2.1
      have h1 := h.nx6 ho a2 (by omega) a3
      obtain ⟨V2, w1, w2, w3⟩ := cF.wr hG hT ho h1 (by omega) (s := 0) (w := vlT T p) (v := 1000 + vlT T p) vr.1 (by decide) (by unfold encc; rw [if_pos (by omega)]; omega)
      refine ⟨V2, 0, go V2 0 (E_bd w1 rfl), a2.t7.trans w2, ?_⟩
      rw [ev]
      exact w3
  have d1 : kdT T p ≠ 1 := fun z => k1 (c1.mpr z)
  rw [if_neg k1]
  have go : ∀ V' v, (if (if kdT T p = 2 ∧ T.1 p = 40 then (1 : Int) else 0) = 0 then (gd (rg (nmT T p)) <|
      if nmT T p = 22 then (F_X6_readPart_J94 (FR G r f) G r (o : Int) (nmT T p) V) else (if nmT T p = 23 then (F_X6_readPart_J94 (FR G r f) G r (o : Int) (nmT T p) V) else (if nmT T p = 14 then (gd (rl (gJ V r 8)) <|
      if (gJ V r 8) = 7516205056 then (bd (F_X6_takeOpening G r (o : Int) V) fun V53 v54 =>
      bd (FR G r f 5 ((o : Int) + 1) 0 V53) fun V56 v57 =>
      bd (F_X3_write G (gR G r 7) 2 0 V56) fun V59 v60 =>
      some (V59, 0)) else (F_X6_readPart_J156 (FR G r f) G r (o : Int) (nmT T p) V)) else (F_X6_readPart_J156 (FR G r f) G r (o : Int) (nmT T p) V)))) else (bd (F_X6_takeOpening G r (o : Int) V) fun V62 v63 =>
      bd (FR G r f 3 ((o : Int) + 1) 0 V62) fun V65 v66 =>
      bd (F_X6_takeSign G r 41 V65) fun V68 v69 =>
      some (V68, 0))) = some (V', v) → F_X6_readPart (FR G r f) G r (o : Int) V = some (V', v) := by
    intro V' v e
    unfold F_X6_readPart
    refine E_bd (k6_fine h.2.1) (E_gd (by decide) (E_if (fun q => absurd q (by decide)) (fun _ => E_gd ⟨by omega, by omega⟩ (E_if (fun _ => E_bd ew (E_bd ek (E_gd kd_r (E_if (fun q => absurd (by omega) d1) (fun _ => E_bd es (E_gd ?_ e)))))) (fun q => by omega)))))
    split <;> decide
  by_cases k2 : kcl (kT md T) p = 2
  · rw [if_pos k2]
    obtain ⟨V1, V2, v2, a1, a2, a3, a4⟩ := Q_oprec (w := 3) hG ho h ho6 (hx 3 (by decide) ((o : Int) + 1)) r3
    obtain ⟨V3, b1, b2, b3⟩ := Q_sg hG hT ho a4 (s := 41) (k := 7) (by decide) (fun q => cl_7)
    refine ⟨V3, 0, go V3 0 ?_, a3.trans b2, ?_⟩
    · rw [if_pos (c2.mp k2), if_neg (by decide)]
      exact E_bd a1 (E_bd a2 (E_bd b1 rfl))
    · by_cases z : 6 ≤ o
      · rw [if_pos z] at b3 ⊢; exact b3
      · rw [if_neg z] at b3 ⊢; exact b3
  rw [if_neg k2]
  have go2 : ∀ V' v, (gd (rg (nmT T p)) <|
      if nmT T p = 22 then (F_X6_readPart_J94 (FR G r f) G r (o : Int) (nmT T p) V) else (if nmT T p = 23 then (F_X6_readPart_J94 (FR G r f) G r (o : Int) (nmT T p) V) else (if nmT T p = 14 then (gd (rl (gJ V r 8)) <|
      if (gJ V r 8) = 7516205056 then (bd (F_X6_takeOpening G r (o : Int) V) fun V53 v54 =>
      bd (FR G r f 5 ((o : Int) + 1) 0 V53) fun V56 v57 =>
      bd (F_X3_write G (gR G r 7) 2 0 V56) fun V59 v60 =>
      some (V59, 0)) else (F_X6_readPart_J156 (FR G r f) G r (o : Int) (nmT T p) V)) else (F_X6_readPart_J156 (FR G r f) G r (o : Int) (nmT T p) V)))) = some (V', v) → F_X6_readPart (FR G r f) G r (o : Int) V = some (V', v) := by
    intro V' v e
    refine go V' v ?_
    rw [if_neg (fun z => k2 (c2.mpr z)), if_pos rfl]
    exact e
  by_cases k34 : kcl (kT md T) p = 3 ∨ kcl (kT md T) p = 4
  · rw [if_pos k34]
    obtain ⟨V1, v1, a1, a2, a3⟩ := r6 V p cs h k34
    refine ⟨V1, 0, go2 V1 0 (E_gd nmT_r ?_), a2, a3⟩
    by_cases k3 : kcl (kT md T) p = 3
    · rw [if_pos k3] at a1
      have n := c3.mp k3
      rw [if_pos n]
      unfold F_X6_readPart_J94
      exact E_gd nmT_r (E_if (fun _ => E_bd a1 rfl) (fun q => absurd n q))
    · rw [if_neg k3] at a1
      have n := c4.mp (k34.resolve_left k3)
      rw [if_neg (by rw [n]; decide), if_pos n]
      unfold F_X6_readPart_J94
      exact E_gd nmT_r (E_if (fun q => absurd (n.symm.trans q) (by decide)) (fun _ => E_bd a1 rfl))
  rw [if_neg k34]
  have n22 : nmT T p ≠ 22 := fun z => k34 (Or.inl (c3.mpr z))
  have n23 : nmT T p ≠ 23 := fun z => k34 (Or.inr (c4.mpr z))
  have hj := h.2.2.2.2
  have m1 := msk_rl (md := md)
  have jr : rl (gJ V r 8) := by rw [hj]; exact m1.1
  have j7 : gJ V r 8 = 7516205056 ↔ md = 3 := by rw [hj, m1.2.2]; omega
  by_cases k5 : kcl (kT md T) p = 5
  · rw [if_pos k5]
    obtain ⟨n14, m3⟩ := c5.mp k5
    obtain ⟨V1, V2, v2, a1, a2, a3, a4⟩ := Q_oprec (w := 5) hG ho h ho6 (hx 5 (by decide) ((o : Int) + 1)) r5
    obtain ⟨V3, b1, b2, b3⟩ := Q_wr hG hT ho a4 (fun c q hc => by
      split at hc
      · cases hc
      have hk := okK_T p (show kcl (kT md T) p ≠ 0 by omega)
      have pr := pr64 hT hk.2.2 hc
      omega) (s := 2) (w := 0) (v := 60) (by decide) (by decide) rfl
    refine ⟨V3, 0, go2 V3 0 (E_gd nmT_r ?_), a3.trans b2, ?_⟩
    · rw [if_neg n22, if_neg n23, if_pos n14]
      exact E_gd jr (E_if (fun _ => E_bd a1 (E_bd a2 (E_bd b1 rfl))) (fun q => absurd (j7.mpr m3) q))
    · by_cases z : 6 ≤ o
      · rw [if_pos z] at b3 ⊢; exact b3
      · rw [if_neg z] at b3 ⊢; exact b3
  rw [if_neg k5]
  have go3 : ∀ V' v, F_X6_readPart_J156 (FR G r f) G r (o : Int) (nmT T p) V = some (V', v) → F_X6_readPart (FR G r f) G r (o : Int) V = some (V', v) := by
    intro V' v e
    refine go2 V' v (E_gd nmT_r ?_)
    rw [if_neg n22, if_neg n23]
    by_cases n14 : nmT T p = 14
    · rw [if_pos n14]
      exact E_gd jr (E_if (fun q => absurd (c5.mpr ⟨n14, j7.mp q⟩) k5) (fun _ => e))
    · rw [if_neg n14]; exact e
  have n5 : ¬ (nmT T p = 14 ∧ md = 3) := fun z => k5 (c5.mpr z)
  have bit : 0 ≤ nmT T p → nmT T p < 33 → ((shr (gJ V r 8) (nmT T p)) % 2 = 1 ↔ wfa (nmT T p) ∈ alS md) := by
    intro a b
    have := msk_ok ⟨md, by omega⟩ ⟨(nmT T p).toNat, by omega⟩
    simp only [Int.toNat_of_nonneg a] at this
    rw [hj]
    exact this
  have bad : kcl (kT md T) p ≠ 6 → ∃ V' v, F_X6_readPart_J190 (FR G r f) G r (o : Int) V = some (V', v) ∧ f7 G r V V' ∧ cQ G V' r T md cs (.inl (1, (p : Int))) := by
    intro _
    obtain ⟨V1, b1, b2, b3, -⟩ := k6_fail (G := G) h.1 h.2.1 (k := 1) (w := (p : Int)) ⟨by decide, by decide⟩
    refine ⟨V1, 0, ?_, b2.t7, h.x6 hG ho b2 b3⟩
    unfold F_X6_readPart_J190
    exact E_bd (k6_here hG h.1) (E_bd b1 rfl)
  by_cases k6 : kcl (kT md T) p = 6
  · rw [if_pos k6]
    obtain ⟨a6, -⟩ := c6.mp k6
    have nn : 0 ≤ nmT T p ∧ nmT T p < 33 := by
      rcases nm_rg (T := T) (p := p) with z | z
      · rw [z] at a6; exact absurd a6 al_ne
      · exact ⟨z.1, z.2.1⟩
    obtain ⟨V1, t1, t2, t3⟩ := k6_take hG h.1 h.2.1
    have hk := okK_T p (show kcl (kT md T) p ≠ 0 by omega)
    have hk2 : p < nxT T p := hk.2.1
    have h1 := h.nx6 ho t2 (by omega) t3
    have hw : wfa (nmT T p) ≠ -1 := fun z => by rw [z] at a6; exact al_ne a6
    have en := enc_wfa ⟨(nmT T p).toNat, by omega⟩
    simp only [Int.toNat_of_nonneg nn.1] at en
    obtain ⟨V2, w1, w2, w3⟩ := cF.wr hG hT ho h1 (by omega) (s := 1) (w := nmT T p) (v := 40 + wfa (nmT T p)) nn.1 (by decide) (en hw)
    have ev : kvl (kT md T) p = wfa (nmT T p) := by show vaT T p = _; unfold vaT; rw [if_neg d1]
    rw [ev]
    refine ⟨V2, 0, go3 V2 0 ?_, t2.t7.trans w2, w3⟩
    unfold F_X6_readPart_J156
    refine E_gd nmT_r (E_if (fun q => by omega) (fun _ => E_gd jr (E_gd ⟨by omega, by omega⟩ (E_gd ?_ (E_if (fun _ => E_bd t1 (E_bd w1 rfl)) (fun q => absurd ((bit nn.1 nn.2).mpr a6) q))))))
    rw [hj]; exact m1.2.1 _ nn.1
  · rw [if_neg k6]
    obtain ⟨V1, v1, b1, b2, b3⟩ := bad k6
    refine ⟨V1, v1, go3 V1 v1 ?_, b2, b3⟩
    unfold F_X6_readPart_J156
    rcases nm_rg (T := T) (p := p) with z | z
    · exact E_gd nmT_r (E_if (fun _ => b1) (fun q => absurd z q))
    · refine E_gd nmT_r (E_if (fun q => by omega) (fun _ => E_gd jr (E_gd ⟨by omega, by omega⟩ (E_gd ?_ (E_if (fun q => absurd (c6.mpr ⟨(bit z.1 z.2.1).mp q, n5⟩) k6) (fun _ => b1))))))
      rw [hj]; exact m1.2.1 _ z.1
/-- all that the class reads of sums and tests -/
theorem FR_ok (hG : is6 G r) (hT : tOk T) (ho : oR G r) (hmd : md ≤ 3) : ∀ f : Nat, (∀ w o : Nat, w ≤ 5 → o ≤ 6 → need8 w o ≤ f → rdsP G r T md (FR G r f w (o : Int) 0) (rd (kT md T) 64 w o)) ∧ (∀ o : Nat, o ≤ 6 → 8 * (7 - o) ≤ f → ∀ V p cs, cF G V r T md p cs → (kcl (kT md T) p = 3 ∨ kcl (kT md T) p = 4) → ∃ V' v, FR G r f 6 (o : Int) (if kcl (kT md T) p = 3 then 8 else 9) V = some (V', v) ∧ f7 G r V V' ∧ cQ G V' r T md cs (rdM (kT md T) (rd (kT md T) 64) o p)) := by
  intro f
  induction f with
  | zero => exact ⟨fun w o hw ho6 h => by (unfold need8 at h; omega), fun o ho6 h => by omega⟩
  | succ f ih =>
    obtain ⟨i1, i2⟩ := ih
    have up : ∀ w o : Nat, w ≤ 5 → o < 6 → need8 w (o + 1) ≤ f → rdsP G r T md (FR G r f w ((o : Int) + 1) 0) (rd (kT md T) 64 w (o + 1)) := fun w o hw h6 h => i1 w (o + 1) hw (by omega) h
    unfold need8 at i1 up
    refine ⟨fun w o hw ho6 h => ?_, fun o ho6 h V p cs hc hk => ?_⟩
    · unfold need8 at h
      by_cases w0 : w = 0
      · subst w0; exact FR_test hG hT ho ho6 (i1 1 o (by decide) ho6 (by omega))
      by_cases w1 : w = 1
      · subst w1; exact FR_both hG hT ho ho6 (i1 2 o (by decide) ho6 (by omega))
      by_cases w2 : w = 2
      · subst w2; exact FR_fact hG hT ho ho6 (by omega) (i1 3 o (by decide) ho6 (by omega)) (fun z => up 2 o (by decide) z (by omega)) (fun z => up 0 o (by decide) z (by omega))
      by_cases w3 : w = 3
      · subst w3; exact FR_sum hG hT ho ho6 (i1 4 o (by decide) ho6 (by omega))
      by_cases w4 : w = 4
      · subst w4; exact FR_prod hG hT ho ho6 (i1 5 o (by decide) ho6 (by omega))
      have w5 : w = 5 := by omega
      subst w5
      exact FR_part hG hT ho hmd ho6 (by omega) (fun z => up 3 o (by decide) z (by omega)) (fun z => up 5 o (by decide) z (by omega)) (i2 o ho6 (by omega))
    · exact FR_pair hG hT ho ho6 (by omega) (fun z => up 3 o (by decide) z (by omega)) hc hk
end

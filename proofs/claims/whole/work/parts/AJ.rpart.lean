/-! a part told (reference): as the pile goes -/
theorem lk_40 {T : mT2} {p : Nat} {md : Nat} : lkc T p = 40 ↔ clT md T p = 2 := (lk_sg ⟨by decide, by decide, by decide⟩).trans cl_2.symm
section
variable {G : mG} {V V' : mV} {m : Nat} {T : mT2} {md p o : Nat} {S B cs : List Int} {res : tR}
/-- what a piece ends in: a fault, or a state from which the rest goes on -/
def rE (V : mV) (m : Nat) (T : mT2) (md : Nat) (B : List Int) (p : Nat) (b : Bool) (res : tR) : Prop := (∃ e, res = .inl e ∧ rX V m e 0) ∨ ∃ p' S' o' cs', p ≤ p' ∧ rR V m T md B p' S' o' cs' ∧ Go (stG (kT md T)) (b, p', S', o', cs') res
theorem rR.look (hT : tOk T) (h : rR V m T md B p S o cs) : ∃ V', F_X10_look G m V = some (V', lkc T p) ∧ rLk m V V' ∧ rR V' m T md B p S o cs ∧ gI V' m 2 = (p : Int) := by
  obtain ⟨V', e, k, r, a2, a5, -⟩ := r_look (G := G) hT h.1
  exact ⟨V', e, k, h.lk k ⟨r, a5.trans h.2.1⟩ (Nat.le_refl _), a2⟩
/-- an opened sign behind a ( -/
theorem r_min (hT : tOk T) (hmd : md ≤ 3) (h : rR V m T md B p S o cs) {x1 x4 : Int} (hx4 : x4 = 0 ∨ x4 = 1) {b : Int} (hb : b = if x4 = 0 then 22 else 21) :
    ∃ V', F_X10_qPartTold_J101_2 G m x1 x4 V = some (V', 0, x1) ∧ rB m V V' ∧ (if clT md T p ≠ 2 then rX V' m (1, (p : Int)) 0 else if 6 ≤ o then rX V' m (4, (p : Int)) 0 else rR V' m T md B (nxT T p) (b :: S) (o + 1) cs) := by
  have hn := hT.1
  obtain ⟨V1, e1, k1, r1, a2⟩ := h.look (G := G) hT
  have lr := (lkc_rg (p := p) hT).1
  have l40 : lkc T p = 40 ↔ clT md T p = 2 := lk_40
  by_cases c : clT md T p = 2
  · have kd := (cl_2 (md := md)).mp c
    have pl := (kd_2.mp kd.1).1
    simp only [if_neg (show ¬ clT md T p ≠ 2 from fun z => z c)]
    obtain ⟨V2, e2, k2, g2, g4, gA1, r2⟩ := r_opens (G := G) r1 (v := b) (pl := (p : Int)) (by rw [hb]; split <;> decide) pl hT
    have J : ∀ V' , F_X10_qPartTold_J144_2 G m x1 V2 = some (V', 0, x1) → F_X10_qPartTold_J101_2 G m x1 x4 V = some (V', 0, x1) := by
      intro V' e
      unfold F_X10_qPartTold_J101_2
      refine E_bd e1 (E_gd lr (E_if (fun _ => ?_) (fun q => absurd (l40.mpr c) q)))
      rw [a2]
      unfold F_X10_qPartTold_J118_2
      refine E_gd ⟨by omega, by omega⟩ (E_if (fun q => by omega) (fun _ => E_gd ⟨by omega, by omega⟩ (E_if (fun q => ?_) (fun q => ?_))))
      · unfold F_X10_qPartTold_J139_2
        rw [hb, if_pos q] at e2
        exact E_bd e2 e
      · unfold F_X10_qPartTold_J139_2
        rw [hb, if_neg q] at e2
        exact E_bd e2 e
    by_cases z : 6 ≤ o
    · rw [if_pos z] at r2
      simp only [if_pos z]
      refine ⟨V2, J V2 ?_, k1.B.trans k2, r2⟩
      unfold F_X10_qPartTold_J144_2
      exact E_bd (r_aSg1 r2.bad.1 r2.bad.2) rfl
    · rw [if_neg z] at r2
      simp only [if_neg z]
      obtain ⟨y1, y2, y3, y4, y5, y6, y7⟩ := r2
      obtain ⟨V3, e3, k3, r3⟩ := r_aSg (G := G) hT y1 y2 (c := 40) (by decide) ⟨by decide, by decide, by decide⟩
      unfold nSg at r3
      rw [if_pos kd] at r3
      have gt := nxT_gt pl
      refine ⟨V3, J V3 ?_, (k1.B.trans k2).trans k3.B, r3.1, r3.2, by rw [k3.2.2.2 m 48 (by omega)]; exact y3, y4.lk k3, y5.lk k3, y6, by omega⟩
      unfold F_X10_qPartTold_J144_2
      exact E_bd e3 rfl
  · simp only [if_pos (show clT md T p ≠ 2 from c)]
    obtain ⟨V3, e3, k3, r3⟩ := r_aSg (G := G) hT r1.1 r1.2.1 (c := 40) (by decide) ⟨by decide, by decide, by decide⟩
    unfold nSg at r3
    rw [if_neg (fun z => c (cl_2.mpr z))] at r3
    refine ⟨V3, ?_, k1.B.trans k3.B, r1.x k3 r3⟩
    unfold F_X10_qPartTold_J101_2
    refine E_bd e1 (E_gd lr (E_if (fun q => absurd (l40.mp q) c) (fun _ => ?_)))
    unfold F_X10_qPartTold_J118_2
    refine E_gd (by decide) (E_if (fun _ => ?_) (fun q => absurd rfl q))
    unfold F_X10_qPartTold_J144_2
    exact E_bd e3 rfl
/-- one round of what opens parts -/
theorem r_open1 (hT : tOk T) (hG : is10 G m) (hmd : md ≤ 3) (h : rR V m T md B p S o cs) (g : Go (stG (kT md T)) (true, p, S, o, cs) res) :
    ∃ V' x, B_X10_qPartTold_2 G m 1 V = some (V', 0, x) ∧ rB m V V' ∧ ((x = 1 ∧ ∃ e, res = .inl e ∧ rX V' m e 0) ∨ (x = 1 ∧ ∃ p' S' o' cs', p < p' ∧ rR V' m T md B p' S' o' cs' ∧ Go (stG (kT md T)) (true, p', S', o', cs') res) ∨ (x = 0 ∧ rR V' m T md B p S o cs ∧ gI V' m 2 = (p : Int) ∧ (clT md T p ≠ 2 ∧ clT md T p ≠ 3 ∧ clT md T p ≠ 4 ∧ clT md T p ≠ 5))) := by
  have hn := hT.1
  obtain ⟨V1, e1, k1, r1, a2⟩ := h.look (G := G) hT
  have lr := (lkc_rg (p := p) hT).1
  have l40 : lkc T p = 40 ↔ clT md T p = 2 := lk_40
  have w1 := r_wo1 (G := G) hT hG r1.2.2.2.1 r1.1 r1.2.1 a2 r1.2.2.1 hmd
  have ge : stG (kT md T) (true, p, S, o, cs) = stE (kT md T) p S o cs := rfl
  have kc : kcl (kT md T) p = clT md T p := rfl
  have gt : clT md T p ≠ 0 → p < nxT T p := fun z => (nxT_gt (clT_lt z)).1
  have top : ∀ V' x, (if lkc T p = 40 then (bd (F_X10_qOpens G m 20 (gI V1 m 2) V1) fun V54 v55 =>
      lt (sI V54 m 2 ((gI V54 m 2) + 1)) fun V57 =>
      some (V57, 0, (1 : Int))) else (bd (F_X10_isHere G m (m + 56) V1) fun V13 v14 =>
      gd (rg v14) <|
      if v14 = 0 then (bd (F_X10_isHere G m (m + 57) V13) fun V41 v42 =>
      gd (rg v42) <|
      if v42 = 0 then (gd (rg (if clT md T p = 5 then (10 : Int) else -1)) <|
      if (if clT md T p = 5 then (10 : Int) else -1) = (-1) then (some (V41, 0, 0)) else (bd (F_X10_qOpens G m ((60 + (if clT md T p = 5 then (10 : Int) else -1)) - 10) (gI V41 m 2) V41) fun V48 v49 =>
      bd (F_X10_qAsksWord G m (if clT md T p = 5 then (10 : Int) else -1) V48) fun V51 v52 =>
      some (V51, 0, 1))) else (F_X10_qPartTold_J78_2 G m 1 V41)) else (F_X10_qPartTold_J78_2 G m 1 V13))) = some (V', 0, x) → B_X10_qPartTold_2 G m 1 V = some (V', 0, x) := by
    intro V' x e
    unfold B_X10_qPartTold_2
    exact E_gd (by decide) (E_if (fun q => absurd q (by decide)) (fun _ => E_gd (by rw [h.2.1]; decide) (E_if (fun _ => E_bd e1 (E_bd w1 (E_gd lr e))) (fun q => absurd h.2.1 q))))
  have hw56 := r_isHp (G := G) (k := 56) (w := 22) hT hG r1.2.2.2.1 (by unfold isW; omega) rfl r1.1 r1.2.1 a2
  have hw57 := r_isHp (G := G) (k := 57) (w := 23) hT hG r1.2.2.2.1 (by unfold isW; omega) rfl r1.1 r1.2.1 a2
  have c3 : clT md T p = 3 ↔ nmT T p = 22 := cl_3
  have c4 : clT md T p = 4 ↔ nmT T p = 23 := cl_4
  have c5 : clT md T p = 5 ↔ nmT T p = 14 ∧ md = 3 := cl_5
  by_cases k2 : clT md T p = 2
  · have kd := (cl_2 (md := md)).mp k2
    obtain ⟨pl, nL, nD⟩ := kd_2.mp kd.1
    obtain ⟨V2, e2, kk2, g2, g4, gA1, r2⟩ := r_opens (G := G) r1 (v := 20) (pl := (p : Int)) (by decide) pl hT
    have st : stE (kT md T) p S o cs = if 6 ≤ o then .inl (.inl (4, (p : Int))) else .inr (true, knx (kT md T) p, 20 :: S, o + 1, cs) := by
      unfold stE
      rw [if_neg (by omega), if_pos (kc.trans k2)]
    refine ⟨sI V2 m 2 (gI V2 m 2 + 1), 1, top _ _ ?_, k1.B.trans (kk2.trans (rLk_sI (Or.inl rfl)).B), ?_⟩
    · rw [if_pos (l40.mpr k2), a2]
      exact E_bd e2 (E_lt rfl)
    by_cases z : 6 ≤ o
    · rw [if_pos z] at r2 st
      exact Or.inl ⟨rfl, (4, (p : Int)), Go_r (ge.trans st) g, r2.at'⟩
    · rw [if_neg z] at r2 st
      obtain ⟨y1, y2, y3, y4, y5, y6, y7⟩ := r2
      have kl : rLk m V2 (sI V2 m 2 (gI V2 m 2 + 1)) := rLk_sI (Or.inl rfl)
      have ra := rA_at (hp := pl) y1 (by rw [g2]; exact a2) nL nD
      have gtp := gt (by omega)
      exact Or.inr (Or.inl ⟨rfl, nxT T p, 20 :: S, o + 1, cs, gtp, ⟨ra, by rw [gI_sI, if_neg (by omega)]; exact y2, by rw [gI_sI, if_neg (by omega)]; exact y3, y4.lk kl, y5.lk kl, y6, by omega⟩, Go_s (ge.trans st) g⟩)
  have n40 : ¬ lkc T p = 40 := fun z => k2 (l40.mp z)
  -- min, max
  have mm : ∀ (x4 b : Int) (U : mV), (x4 = 0 ∨ x4 = 1) → (b = if x4 = 0 then 22 else 21) → (clT md T p = 3 ∨ clT md T p = 4) → (b = if clT md T p = 3 then 21 else 22) → rR U m T md B (nxT T p) S o cs → rB m V1 U → (∀ V', F_X10_qPartTold_J101_2 G m 1 x4 U = some (V', 0, 1) → B_X10_qPartTold_2 G m 1 V = some (V', 0, 1)) →
      ∃ V' x, B_X10_qPartTold_2 G m 1 V = some (V', 0, x) ∧ rB m V V' ∧ ((x = 1 ∧ ∃ e, res = .inl e ∧ rX V' m e 0) ∨ (x = 1 ∧ ∃ p' S' o' cs', p < p' ∧ rR V' m T md B p' S' o' cs' ∧ Go (stG (kT md T)) (true, p', S', o', cs') res) ∨ (x = 0 ∧ rR V' m T md B p S o cs ∧ gI V' m 2 = (p : Int) ∧ (clT md T p ≠ 2 ∧ clT md T p ≠ 3 ∧ clT md T p ≠ 4 ∧ clT md T p ≠ 5))) := by
    intro x4 b U hx hb k34 hb2 rU kU hgo
    obtain ⟨V3, e3, k3, r3⟩ := r_min (G := G) (x1 := 1) hT hmd rU hx hb
    have st : stE (kT md T) p S o cs = if kcl (kT md T) (knx (kT md T) p) ≠ 2 then .inl (.inl (1, (knx (kT md T) p : Int))) else if 6 ≤ o then .inl (.inl (4, (knx (kT md T) p : Int))) else .inr (true, knx (kT md T) (knx (kT md T) p), (if kcl (kT md T) p = 3 then 21 else 22) :: S, o + 1, cs) := by
      unfold stE
      rw [if_neg (by omega), if_neg (by omega), if_pos (by omega)]
    have gtp := gt (by omega)
    refine ⟨V3, 1, hgo V3 e3, (k1.B.trans kU).trans k3, ?_⟩
    by_cases y : clT md T (nxT T p) = 2
    · rw [if_neg (show ¬ kcl (kT md T) (knx (kT md T) p) ≠ 2 from fun z => z y)] at st
      rw [if_neg (fun z => z y)] at r3
      by_cases z : 6 ≤ o
      · rw [if_pos z] at r3 st
        exact Or.inl ⟨rfl, _, Go_r (ge.trans st) g, r3⟩
      · rw [if_neg z] at r3 st
        have st' : stE (kT md T) p S o cs = .inr (true, nxT T (nxT T p), b :: S, o + 1, cs) := by rw [hb2]; exact st
        have g2 := nxT_gt (clT_lt (show clT md T (nxT T p) ≠ 0 by omega))
        exact Or.inr (Or.inl ⟨rfl, nxT T (nxT T p), b :: S, o + 1, cs, by omega, r3, Go_s (ge.trans st') g⟩)
    · rw [if_pos (show kcl (kT md T) (knx (kT md T) p) ≠ 2 from y)] at st
      rw [if_pos (show clT md T (nxT T p) ≠ 2 from y)] at r3
      exact Or.inl ⟨rfl, _, Go_r (ge.trans st) g, r3⟩
  have nxle : clT md T p ≠ 0 → p ≤ nxT T p := fun z => Nat.le_of_lt (gt z)
  by_cases k3 : clT md T p = 3
  · have n22 : nmT T p = ((22 : Nat) : Int) := c3.mp k3
    rw [if_pos n22] at hw56
    obtain ⟨V2, e2, kk2, rr2, -⟩ := r_tkW (G := G) (a := m + 56) (w := 22) hT (by decide) (qG_w hG 56 (by unfold isW; omega)) (r1.2.2.2.1 56 (by unfold isW; omega)) r1.1 r1.2.1
    rw [if_pos n22] at e2 rr2
    refine mm 1 21 V2 (Or.inr rfl) rfl (Or.inl k3) (by rw [if_pos k3]) (r1.lk kk2 rr2 (nxle (by omega))) kk2.B (fun V' e => top V' 1 ?_)
    rw [if_neg n40]
    refine E_bd hw56 (E_gd (by decide) (E_if (fun q => absurd q (by decide)) (fun _ => ?_)))
    unfold F_X10_qPartTold_J78_2
    exact E_bd e2 (E_gd (by decide) (E_if (fun q => absurd q (by decide)) (fun _ => e)))
  have n22 : ¬ nmT T p = ((22 : Nat) : Int) := fun z => k3 (c3.mpr z)
  rw [if_neg n22] at hw56
  by_cases k4 : clT md T p = 4
  · have n23 := c4.mp k4
    rw [if_pos (show nmT T p = ((23 : Nat) : Int) from n23)] at hw57
    obtain ⟨V2, e2, kk2, rr2, -⟩ := r_tkW (G := G) (a := m + 56) (w := 22) hT (by decide) (qG_w hG 56 (by unfold isW; omega)) (r1.2.2.2.1 56 (by unfold isW; omega)) r1.1 r1.2.1
    rw [if_neg n22] at e2 rr2
    have r2 := r1.lk kk2 rr2 (Nat.le_refl _)
    obtain ⟨V3, e3, kk3, rr3⟩ := r_asks (G := G) (a := m + 57) (w := 23) hT (by decide) (qG_w hG 57 (by unfold isW; omega)) (r2.2.2.2.1 57 (by unfold isW; omega)) r2.1 r2.2.1
    unfold nWd at rr3
    rw [if_pos (show nmT T p = ((23 : Nat) : Int) from n23)] at rr3
    refine mm 0 22 V3 (Or.inl rfl) rfl (Or.inr k4) (by rw [if_neg k3]) (r2.lk kk3 rr3 (nxle (by omega))) (kk2.B.trans kk3.B) (fun V' e => top V' 1 ?_)
    rw [if_neg n40]
    refine E_bd hw56 (E_gd (by decide) (E_if (fun _ => E_bd hw57 (E_gd (by decide) (E_if (fun q => absurd q (by decide)) (fun _ => ?_)))) (fun q => absurd rfl q)))
    unfold F_X10_qPartTold_J78_2
    exact E_bd e2 (E_gd (by decide) (E_if (fun _ => E_bd e3 e) (fun q => absurd rfl q)))
  have n23 : ¬ nmT T p = ((23 : Nat) : Int) := fun z => k4 (c4.mpr z)
  rw [if_neg n23] at hw57
  by_cases k5 : clT md T p = 5
  · have n14 := (c5.mp k5).1
    have pl := clT_lt (show clT md T p ≠ 0 by omega)
    obtain ⟨V2, e2, kk2, g2, g4, gA1, r2⟩ := r_opens (G := G) r1 (v := 60) (pl := (p : Int)) (by decide) pl hT
    have st : stE (kT md T) p S o cs = if 6 ≤ o then .inl (.inl (4, (p : Int))) else .inr (true, knx (kT md T) p, 60 :: S, o + 1, cs) := by
      unfold stE
      rw [if_neg (by omega), if_neg (by omega), if_neg (by omega), if_pos (kc.trans k5)]
    have fin : ∀ V', F_X10_asks G m (m + 60) V2 = some (V', 0) → B_X10_qPartTold_2 G m 1 V = some (V', 0, 1) := by
      intro V' e
      refine top V' 1 ?_
      rw [if_neg n40]
      refine E_bd hw56 (E_gd (by decide) (E_if (fun _ => E_bd hw57 (E_gd (by decide) (E_if (fun _ => ?_) (fun q => absurd rfl q)))) (fun q => absurd rfl q)))
      rw [if_pos k5, a2]
      refine E_gd (by decide) (E_if (fun q => absurd q (by decide)) (fun _ => E_bd e2 (E_bd (V1 := V') (v1 := 0) ?_ rfl)))
      unfold F_X10_qAsksWord
      refine E_gd (by decide) ?_
      rw [if_neg (by decide), if_neg (by decide), if_neg (by decide), if_neg (by decide), if_neg (by decide), if_neg (by decide), if_neg (by decide), if_neg (by decide), if_neg (by decide), if_neg (by decide)]
      exact E_bd e rfl
    by_cases z : 6 ≤ o
    · rw [if_pos z] at r2 st
      exact ⟨V2, 1, fin V2 (r_asks1 r2.bad.1 r2.bad.2), k1.B.trans kk2, Or.inl ⟨rfl, (4, (p : Int)), Go_r (ge.trans st) g, r2⟩⟩
    · rw [if_neg z] at r2 st
      obtain ⟨y1, y2, y3, y4, y5, y6, y7⟩ := r2
      obtain ⟨V3, e3, kk3, rr3⟩ := r_asks (G := G) (a := m + 60) (w := 14) hT (by decide) (qG_w hG 60 (by unfold isW; omega)) (y4 60 (by unfold isW; omega)) y1 y2
      unfold nWd at rr3
      rw [if_pos (show nmT T p = ((14 : Nat) : Int) from n14)] at rr3
      have gtp := gt (by omega)
      exact ⟨V3, 1, fin V3 e3, (k1.B.trans kk2).trans kk3.B, Or.inr (Or.inl ⟨rfl, nxT T p, 60 :: S, o + 1, cs, gtp, ⟨rr3.1, rr3.2, by rw [kk3.2.2.2 m 48 (by omega)]; exact y3, y4.lk kk3, y5.lk kk3, y6, by omega⟩, Go_s (ge.trans st) g⟩)⟩
  · refine ⟨V1, 0, top V1 0 ?_, k1.B, Or.inr (Or.inr ⟨rfl, r1, a2, k2, k3, k4, k5⟩)⟩
    rw [if_neg n40]
    refine E_bd hw56 (E_gd (by decide) (E_if (fun _ => E_bd hw57 (E_gd (by decide) (E_if (fun _ => ?_) (fun q => absurd rfl q)))) (fun q => absurd rfl q)))
    rw [if_neg k5]
    exact E_gd (by decide) (E_if (fun _ => rfl) (fun q => absurd rfl q))
end

/-! a test (reference), the whole of it -/
section
variable {G : mG} {V V' : mV} {m : Nat} {T : mT2} {md p q o : Nat} {W cs : List Int} {res : tR}
/-- and, or: put in -/
theorem rt_psh (h : rW0 V m T md W 0 p o cs) (hO : okT W) {q : Nat} {W2 cs2 : List Int} {U : mV} (ra : rA U m T q) (h5 : gI U m 5 = 0) (h48 : gI U m 48 = (md : Int)) (hw : rWd U m) (hq : pq U m W2 0 (o : Int) cs2) (hl : W2.length + cs2.length ≤ W.length + cs.length) (ho : opn W2 ≤ opn W) (hO2 : okT W2) (hpq : p < q) (hT : tOk T) {v : Int} (hv : v = 10 ∨ v = 11) :
    (0 ≤ gI U m 100 ∧ gI U m 100 < 1700 ∧ gI U m 100 ≤ 2147483647) ∧ rB m U (sI (sA U (m + 69) (gI U m 100).toNat v) m 100 (gI (sA U (m + 69) (gI U m 100).toNat v) m 100 + 1)) ∧ rW0 (sI (sA U (m + 69) (gI U m 100).toNat v) m 100 (gI (sA U (m + 69) (gI U m 100).toNat v) m 100 + 1)) m T md (v :: W2) 0 q o cs2 ∧ okT (v :: W2) := by
  have hn := hT.1
  have hqn := rA_le ra
  obtain ⟨a1, a2, a3, a4, a5, a6, a7⟩ := h
  obtain ⟨q1, k1⟩ := p_push hq (v := v) (by omega) (by omega)
  have u100 : gI U m 100 = (W2.length : Int) := hq.1
  refine ⟨by rw [u100]; omega, k1.B, ⟨ra.pq k1, by rw [k1.i (by decide)]; exact h5, by rw [k1.i (by decide)]; exact h48, hw.pq k1, q1, ⟨?_, a6.2⟩, by rw [List.length_cons]; omega⟩, fun b hb => ?_⟩
  · show (if 12 ≤ v then 1 else 0) + opn W2 ≤ o
    rw [if_neg (by omega)]; omega
  · rcases List.mem_cons.mp hb with z | z
    · rw [z]; omega
    · exact hO2 b z
def rTs (V : mV) (m : Nat) (T : mT2) (md : Nat) (p : Nat) (b : Int) (res : tR) : Prop := (b = 0 ∧ ∃ e, res = .inl e ∧ rX V m e 0) ∨ (b = 1 ∧ ∃ p' W' o' cs', p < p' ∧ rW0 V m T md W' 0 p' o' cs' ∧ okT W' ∧ Go (stT (kT md T)) (true, p', W', o', cs') res) ∨ (b = 0 ∧ ∃ p' W' o' cs', p ≤ p' ∧ rW0 V m T md W' 0 p' o' cs' ∧ res = .inr (cs' ++ W', p'))
theorem rt_j76 (hT : tOk T) (hG : is10 G m) (h : rW0 V m T md W 0 p o cs) (hO : okT W) (g : Go (stT (kT md T)) (false, p, W, o, cs) res) (n17 : ¬ (clT md T p = 17 ∧ 25 ∈ W)) :
    ∃ V' b, F_X10_qGoesOnTest_J76 G m V = some (V', b) ∧ rB m V V' ∧ rTs V' m T md p b res := by
  have hn := hT.1
  have ge : stT (kT md T) (false, p, W, o, cs) = teB (kT md T) p W o cs := rfl
  have n17' : ¬ (kcl (kT md T) p = 17 ∧ 25 ∈ W) := n17
  have c20 : kcl (kT md T) p = 20 ↔ nmT T p = ((19 : Nat) : Int) := cl_20
  have c21 : kcl (kT md T) p = 21 ↔ nmT T p = ((18 : Nat) : Int) := cl_21
  have pn := rA_le h.1
  obtain ⟨V1, e1, k1, r1, a1⟩ := r_tkW (G := G) (a := m + 53) (w := 19) hT (by decide) (qG_w hG 53 (by unfold isW; omega)) (h.2.2.2.1 53 (by unfold isW; omega)) h.1 h.2.1
  unfold F_X10_qGoesOnTest_J76
  by_cases k20 : kcl (kT md T) p = 20
  · have n := c20.mp k20
    rw [if_pos n] at e1 r1
    have gt := nxT_gt (clT_lt (show clT md T p ≠ 0 from fun z => by have z' : kcl (kT md T) p = 0 := z; omega))
    have h1 := h.lk k1 r1 (by omega)
    have an : andc (kT md T) p = 10 := by unfold andc; rw [if_pos k20]
    have st : teB (kT md T) p W o cs = .inr (true, nxT T p, 10 :: (dan W cs).1, o, (dan W cs).2) := by
      unfold teB
      rw [if_neg n17', if_pos (by rw [an]; decide), an]
      rfl
    obtain ⟨V2, e2, k2, q2⟩ := p_dan (G := G) h1.2.1 h1.2.2.2.2.1
    have dl := dp_len (d := fun a => decide (a = 10)) W cs
    have dq := dp_opn (d := fun a => decide (a = 10)) W cs
    have dk := dp_okT (d := fun a => decide (a = 10)) W cs hO
    rw [← dan_dp] at dl dq dk
    obtain ⟨g1, g2, g3, g4⟩ := rt_psh h hO (q := nxT T p) (h1.1.pq k2) (by rw [k2.i (by decide)]; exact h1.2.1) (by rw [k2.i (by decide)]; exact h1.2.2.1) (h1.2.2.2.1.pq k2) q2 (by omega) dq dk gt.1 hT (v := 10) (Or.inl rfl)
    refine ⟨_, 1, ?_, (k1.B.trans k2.B).trans g2, Or.inr (Or.inl ⟨rfl, nxT T p, _, _, _, gt.1, g3, g4, Go_s (ge.trans st) g⟩)⟩
    exact E_bd e1 (E_gd (by decide) (E_if (fun y => absurd y (by decide)) (fun _ => E_bd e2 (E_gd g1 (E_lt (E_lt rfl))))))
  have n20 : ¬ nmT T p = ((19 : Nat) : Int) := fun z => k20 (c20.mpr z)
  rw [if_neg n20] at e1 r1
  have h1 := h.lk k1 r1 (Nat.le_refl _)
  have an0 : andc (kT md T) p = 0 := by unfold andc; rw [if_neg k20]
  obtain ⟨V2, e2, k2, r2, a2⟩ := r_tkW (G := G) (a := m + 54) (w := 18) hT (by decide) (qG_w hG 54 (by unfold isW; omega)) (h1.2.2.2.1 54 (by unfold isW; omega)) h1.1 h1.2.1
  by_cases k21 : kcl (kT md T) p = 21
  · have n := c21.mp k21
    rw [if_pos n] at e2 r2
    have gt := nxT_gt (clT_lt (show clT md T p ≠ 0 from fun z => by have z' : kcl (kT md T) p = 0 := z; omega))
    have h2 := h1.lk k2 r2 (by omega)
    have on : orc (kT md T) p = 11 := by unfold orc; rw [if_pos k21]
    have st : teB (kT md T) p W o cs = .inr (true, nxT T p, 11 :: (dor W cs).1, o, (dor W cs).2) := by
      unfold teB
      rw [if_neg n17', if_neg (by omega), if_pos (by rw [on]; decide), on]
      rfl
    obtain ⟨V3, e3, k3, q3⟩ := p_dor (G := G) h2.2.1 h2.2.2.2.2.1
    have dl := dp_len (d := fun a => decide (a = 10 ∨ a = 11)) W cs
    have dq := dp_opn (d := fun a => decide (a = 10 ∨ a = 11)) W cs
    have dk := dp_okT (d := fun a => decide (a = 10 ∨ a = 11)) W cs hO
    rw [← dor_dp] at dl dq dk
    obtain ⟨g1, g2, g3, g4⟩ := rt_psh h hO (q := nxT T p) (h2.1.pq k3) (by rw [k3.i (by decide)]; exact h2.2.1) (by rw [k3.i (by decide)]; exact h2.2.2.1) (h2.2.2.2.1.pq k3) q3 (by omega) dq dk gt.1 hT (v := 11) (Or.inr rfl)
    refine ⟨_, 1, ?_, ((k1.B.trans k2.B).trans k3.B).trans g2, Or.inr (Or.inl ⟨rfl, nxT T p, _, _, _, gt.1, g3, g4, Go_s (ge.trans st) g⟩)⟩
    exact E_bd e1 (E_gd (by decide) (E_if (fun _ => E_bd e2 (E_gd (by decide) (E_if (fun y => absurd y (by decide)) (fun _ => E_bd e3 (E_gd g1 (E_lt (E_lt rfl))))))) (fun y => absurd rfl y)))
  have n21 : ¬ nmT T p = ((18 : Nat) : Int) := fun z => k21 (c21.mpr z)
  rw [if_neg n21] at e2 r2
  have h2 := h1.lk k2 r2 (Nat.le_refl _)
  have on0 : orc (kT md T) p = 0 := by unfold orc; rw [if_neg k21]
  have hs := p_hsq (G := G) h2.2.2.2.2.1
  by_cases m25 : 25 ∈ W
  · rw [if_pos m25] at hs
    have st : teB (kT md T) p W o cs = .inl (.inl (1, (p : Int))) := by
      unfold teB
      rw [if_neg n17', if_neg (by omega), if_neg (by omega), if_pos m25]
    obtain ⟨V3, e3, k3, r3⟩ := r_fail (G := G) (T := T) h2.2.1 (k := 1) (w := (p : Int)) ⟨by decide, by decide⟩
    refine ⟨V3, 0, ?_, (k1.B.trans k2.B).trans k3.B, Or.inl ⟨rfl, (1, (p : Int)), Go_r (ge.trans st) g, h2.x k3 r3⟩⟩
    refine E_bd e1 (E_gd (by decide) (E_if (fun _ => E_bd e2 (E_gd (by decide) (E_if (fun _ => E_gd (by rw [h2.2.1]; decide) (E_if (fun _ => E_bd hs (E_gd (by decide) (E_if (fun y => absurd y (by decide)) (fun _ => ?_)))) (fun y => absurd h2.2.1 y))) (fun y => absurd rfl y)))) (fun y => absurd rfl y)))
    rw [a2 n21]
    exact E_bd e3 rfl
  · rw [if_neg m25] at hs
    have st : teB (kT md T) p W o cs = .inl (.inr (cs ++ W, p)) := by
      unfold teB
      rw [if_neg n17', if_neg (by omega), if_neg (by omega), if_neg m25]
    refine ⟨V2, 0, ?_, k1.B.trans k2.B, Or.inr (Or.inr ⟨rfl, p, W, o, cs, Nat.le_refl _, h2, Go_r (ge.trans st) g⟩)⟩
    exact E_bd e1 (E_gd (by decide) (E_if (fun _ => E_bd e2 (E_gd (by decide) (E_if (fun _ => E_gd (by rw [h2.2.1]; decide) (E_if (fun _ => E_bd hs (E_gd (by decide) (E_if (fun _ => rfl) (fun y => absurd rfl y)))) (fun y => absurd h2.2.1 y))) (fun y => absurd rfl y)))) (fun y => absurd rfl y)))
theorem rt_goes (hT : tOk T) (hG : is10 G m) (h : rW0 V m T md W 0 p o cs) (hO : okT W) (g : Go (stT (kT md T)) (false, p, W, o, cs) res) : ∃ V' b, F_X10_qGoesOnTest G m V = some (V', b) ∧ rB m V V' ∧ rTs V' m T md p b res := by
  have hn := hT.1
  have main : Wp (lp (fun (_ : Unit) V => B_X10_qGoesOnTest_0 G m V) FU () V) (fun U _ => rB m V U ∧ ∃ p' W' o' cs', p ≤ p' ∧ rW0 U m T md W' 0 p' o' cs' ∧ okT W' ∧ Go (stT (kT md T)) (false, p', W', o', cs') res ∧ ¬ (clT md T p' = 17 ∧ 25 ∈ W')) := by
    refine W_lp (fun w (_ : Unit) U => rB m V U ∧ ∃ p' W' o' cs', p ≤ p' ∧ rW0 U m T md W' 0 p' o' cs' ∧ okT W' ∧ Go (stT (kT md T)) (false, p', W', o', cs') res ∧ w = T.2 - p') ?_ FU (T.2 - p) () V ⟨rB_refl, p, W, o, cs, Nat.le_refl _, h, hO, g, rfl⟩ (by unfold FU; omega)
    rintro w x U ⟨kU, p', W', o', cs', hp, hr, hO', hg, hw⟩
    obtain ⟨U1, e1, k1, r1, a2⟩ := hr.look (G := G) hT
    have lr := (lkc_rg (p := p') hT).1
    have c17 : lkc T p' = 93 ↔ clT md T p' = 17 := (lk_sg ⟨by decide, by decide, by decide⟩).trans cl_17.symm
    have pn := rA_le hr.1
    have hs := p_hsq (G := G) r1.2.2.2.2.1
    show Wp (B_X10_qGoesOnTest_0 G m U) _
    unfold B_X10_qGoesOnTest_0
    refine W_gd (by rw [hr.2.1]; decide) (W_if (fun _ => W_be e1 (W_gd lr (W_if (fun y => ?_) (fun y => ?_)))) (fun y => absurd hr.2.1 y))
    · have k17 := c17.mp y
      have kd := (cl_17 (md := md)).mp k17
      obtain ⟨pl, nL, nD⟩ := kd_2.mp kd.1
      have gt := nxT_gt pl
      by_cases m25 : 25 ∈ W'
      · rw [if_pos m25] at hs
        have kl : rLk m U1 (sI U1 m 2 (gI U1 m 2 + 1)) := rLk_sI (Or.inl rfl)
        have ra := rA_at (hp := pl) r1.1 a2 nL nD
        have h3 := r1.lk kl ⟨ra, by rw [gI_sI, if_neg (by omega)]; exact r1.2.1⟩ (Nat.le_of_lt gt.1)
        obtain ⟨U3, e3, k3, q3⟩ := p_dsq (G := G) m25 h3.2.1 h3.2.2.2.2.1
        obtain ⟨S2, d1, d2, d3⟩ := dsq_25 W' cs' m25
        rw [d1] at q3
        have q4 := p_pop q3
        have g101 : gI (sI U3 m 100 (gI U3 m 100 - 1)) m 101 = (o' : Int) := q4.2.2.2.1
        have h6 := hr.2.2.2.2.2.1
        have h7 := hr.2.2.2.2.2.2
        have q5 : pq (sI (sI U3 m 100 (gI U3 m 100 - 1)) m 101 (gI (sI U3 m 100 (gI U3 m 100 - 1)) m 101 - 1)) m S2 0 ((o' - 1 : Nat) : Int) (dsq W' cs').2 := by
          rw [g101, show (o' : Int) - 1 = ((o' - 1 : Nat) : Int) by omega]
          exact p_oi q4
        have k5 : rqF m (sI U1 m 2 (gI U1 m 2 + 1)) (sI (sI U3 m 100 (gI U3 m 100 - 1)) m 101 (gI (sI U3 m 100 (gI U3 m 100 - 1)) m 101 - 1)) := (k3.trans (rqF_sI (by omega))).trans (rqF_sI (by omega))
        have hO2 : okT S2 := by
          have := dp_okT (d := fun a => decide (a ≠ 25)) W' cs' hO'
          rw [← dsq_dp, d1] at this
          exact fun b hb => this b (List.mem_cons_of_mem _ hb)
        have h5 : rW0 (sI (sI U3 m 100 (gI U3 m 100 - 1)) m 101 (gI (sI U3 m 100 (gI U3 m 100 - 1)) m 101 - 1)) m T md S2 0 (nxT T p') (o' - 1) (dsq W' cs').2 := ⟨h3.1.pq k5, by rw [k5.i (by decide)]; exact h3.2.1, by rw [k5.i (by decide)]; exact h3.2.2.1, h3.2.2.2.1.pq k5, q5, ⟨by omega, by omega⟩, by omega⟩
        obtain ⟨U6, e6, k6, h6', hO6⟩ := r_nots (G := G) h5 hO2
        have st : stT (kT md T) (false, p', W', o', cs') = .inr (false, nxT T p', dno S2 (o' - 1) (dsq W' cs').2) := by
          show teB (kT md T) p' W' o' cs' = _
          unfold teB
          rw [if_pos (show kcl (kT md T) p' = 17 ∧ 25 ∈ W' from ⟨k17, m25⟩), d1]
          rfl
        refine W_be hs (W_gd (by decide) (W_if (fun z => absurd z (by decide)) (fun _ => W_lt (W_be e3 (W_lt (W_lt (W_be e6 (W_so (Or.inl ⟨rfl, T.2 - nxT T p', by omega, (((kU.trans k1.B).trans kl.B).trans k5.B).trans k6, nxT T p', _, _, _, by omega, h6', hO6, Go_s st hg, rfl⟩)))))))))
      · rw [if_neg m25] at hs
        exact W_be hs (W_gd (by decide) (W_if (fun _ => W_so (Or.inr ⟨Nat.one_ne_zero, kU.trans k1.B, p', W', o', cs', hp, r1, hO', hg, fun z => m25 z.2⟩)) (fun z => absurd rfl z)))
    · exact W_so (Or.inr ⟨Nat.one_ne_zero, kU.trans k1.B, p', W', o', cs', hp, r1, hO', hg, fun z => y (c17.mpr z.1)⟩)
  obtain ⟨U, y, e1, kU, p', W', o', cs', hp, hr, hO', hg, hnn⟩ := main
  obtain ⟨V', b, e2, k2, rs⟩ := rt_j76 (G := G) hT hG hr hO' hg hnn
  refine ⟨V', b, ?_, kU.trans k2, ?_⟩
  · unfold F_X10_qGoesOnTest
    exact E_bd e1 e2
  · rcases rs with ⟨b0, e, x1, x2⟩ | ⟨b1, p2, W2, o2, cs2, x1, x2, x3, x4⟩ | ⟨b0, p2, W2, o2, cs2, x1, x2, x3⟩
    · exact Or.inl ⟨b0, e, x1, x2⟩
    · exact Or.inr (Or.inl ⟨b1, p2, W2, o2, cs2, by omega, x2, x3, x4⟩)
    · exact Or.inr (Or.inr ⟨b0, p2, W2, o2, cs2, by omega, x2, x3⟩)
/-- one round of a test -/
theorem rt_1 (hT : tOk T) (hG : is10 G m) (hmd : md ≤ 3) (h : rW0 V m T md W 0 p o cs) (hO : okT W) (g : Go (stT (kT md T)) (true, p, W, o, cs) res) :
    ∃ V' x, B_X10_qTest_2 G m 1 V = some (V', 0, x) ∧ rB m V V' ∧ ((∃ e, res = .inl e ∧ rX V' m e 2 ∧ (x = 0 ∨ x = 1)) ∨ (x = 1 ∧ ∃ p' W' o' cs', p < p' ∧ rW0 V' m T md W' 0 p' o' cs' ∧ okT W' ∧ Go (stT (kT md T)) (true, p', W', o', cs') res) ∨ (x = 0 ∧ ∃ p' W' o' cs', p ≤ p' ∧ rW0 V' m T md W' 0 p' o' cs' ∧ res = .inr (cs' ++ W', p'))) := by
  have hn := hT.1
  have pn := rA_le h.1
  have ge : stT (kT md T) (true, p, W, o, cs) = teE (kT md T) p W o cs := rfl
  obtain ⟨V1, e1, k1, r1, a2⟩ := h.look (G := G) hT
  have lr := (lkc_rg (p := p) hT).1
  have l91 : lkc T p = 91 ↔ kcl (kT md T) p = 16 := (lk_sg ⟨by decide, by decide, by decide⟩).trans cl_16.symm
  have c18 : kcl (kT md T) p = 18 ↔ nmT T p = ((20 : Nat) : Int) := cl_18
  have hw52 := r_isHp (G := G) (k := 52) (w := 20) hT hG r1.2.2.2.1 (by unfold isW; omega) rfl r1.1 r1.2.1 a2
  have rR1 : rR V1 m T md [] p W o cs := by rw [rW0_R]; exact r1
  have top : ∀ V' x, (if lkc T p = 91 then (bd (F_X10_qOpens G m 25 (gI V1 m 2) V1) fun V34 v35 =>
      lt (sI V34 m 2 ((gI V34 m 2) + 1)) fun V37 =>
      some (V37, 0, (1 : Int))) else (bd (F_X10_isHere G m (m + 52) V1) fun V10 v11 =>
      gd (rg v11) <|
      if v11 = 0 then (bd (F_X10_qFact G m V10) fun V15 v16 =>
      bd (F_X10_qDropsNots G m V15) fun V18 v19 =>
      gd (rg (gI V18 m 5)) <|
      if (gI V18 m 5) = 0 then (bd (F_X10_qGoesOnTest G m V18) fun V23 v24 =>
      gd (rg v24) <|
      if v24 = 0 then (some (V23, 0, 0)) else (some (V23, 0, 1))) else (some (V18, 0, 0))) else (bd (F_X10_qOpens G m 12 (gI V10 m 2) V10) fun V28 v29 =>
      bd (F_X10_asks G m (m + 52) V28) fun V31 v32 =>
      some (V31, 0, 1)))) = some (V', 0, x) → B_X10_qTest_2 G m 1 V = some (V', 0, x) := by
    intro V' x e
    unfold B_X10_qTest_2
    exact E_gd (by decide) (E_if (fun y => absurd y (by decide)) (fun _ => E_gd (by rw [h.2.1]; decide) (E_if (fun _ => E_bd e1 (E_gd lr e)) (fun y => absurd h.2.1 y))))
  by_cases k16 : kcl (kT md T) p = 16
  · have kd := (cl_16 (md := md)).mp k16
    obtain ⟨pl, nL, nD⟩ := kd_2.mp kd.1
    have gt := nxT_gt pl
    obtain ⟨V2, e2, k2, g2, g4, gA1, r2⟩ := r_opens (G := G) rR1 (v := 25) (pl := (p : Int)) (by decide) pl hT
    have st : teE (kT md T) p W o cs = if 6 ≤ o then .inl (.inl (4, (p : Int))) else .inr (true, knx (kT md T) p, 25 :: W, o + 1, cs) := by
      unfold teE
      rw [if_neg (by omega), if_pos k16]
    have kl : rLk m V2 (sI V2 m 2 (gI V2 m 2 + 1)) := rLk_sI (Or.inl rfl)
    refine ⟨sI V2 m 2 (gI V2 m 2 + 1), 1, top _ _ ?_, k1.B.trans (k2.trans kl.B), ?_⟩
    · rw [if_pos (l91.mpr k16), a2]
      exact E_bd e2 (E_lt rfl)
    by_cases z : 6 ≤ o
    · rw [if_pos z] at r2 st
      exact Or.inl ⟨(4, (p : Int)), Go_r (ge.trans st) g, (r2.at').up (by decide), Or.inr rfl⟩
    · rw [if_neg z] at r2 st
      obtain ⟨y1, y2, y3, y4, y5, y6, y7⟩ := r2
      rw [List.append_nil] at y5 y6 y7
      have ra := rA_at (hp := pl) y1 (by rw [g2]; exact a2) nL nD
      exact Or.inr (Or.inl ⟨rfl, nxT T p, 25 :: W, o + 1, cs, gt.1, ⟨ra, by rw [gI_sI, if_neg (by omega)]; exact y2, by rw [gI_sI, if_neg (by omega)]; exact y3, y4.lk kl, y5.lk kl, y6, by omega⟩, (fun b hb => by
        rcases List.mem_cons.mp hb with z | z
        · exact Or.inr (Or.inr (Or.inr z))
        · exact hO b z), Go_s (ge.trans st) g⟩)
  have n91 : ¬ lkc T p = 91 := fun z => k16 (l91.mp z)
  by_cases k18 : kcl (kT md T) p = 18
  · have n20 := c18.mp k18
    rw [if_pos n20] at hw52
    have pl := clT_lt (show clT md T p ≠ 0 from fun z => by have z' : kcl (kT md T) p = 0 := z; omega)
    have gt := nxT_gt pl
    obtain ⟨V2, e2, k2, g2, g4, gA1, r2⟩ := r_opens (G := G) rR1 (v := 12) (pl := (p : Int)) (by decide) pl hT
    have st : teE (kT md T) p W o cs = if 6 ≤ o then .inl (.inl (4, (p : Int))) else .inr (true, knx (kT md T) p, 12 :: W, o + 1, cs) := by
      unfold teE
      rw [if_pos k18]
    have fin : ∀ V', F_X10_asks G m (m + 52) V2 = some (V', 0) → B_X10_qTest_2 G m 1 V = some (V', 0, 1) := by
      intro V' e
      refine top V' 1 ?_
      rw [if_neg n91]
      refine E_bd hw52 (E_gd (by decide) (E_if (fun y => absurd y (by decide)) (fun _ => ?_)))
      rw [a2]
      exact E_bd e2 (E_bd e rfl)
    by_cases z : 6 ≤ o
    · rw [if_pos z] at r2 st
      exact ⟨V2, 1, fin V2 (r_asks1 r2.bad.1 r2.bad.2), k1.B.trans k2, Or.inl ⟨(4, (p : Int)), Go_r (ge.trans st) g, r2.up (by decide), Or.inr rfl⟩⟩
    · rw [if_neg z] at r2 st
      obtain ⟨y1, y2, y3, y4, y5, y6, y7⟩ := r2
      rw [List.append_nil] at y5 y6 y7
      obtain ⟨V3, e3, k3, r3⟩ := r_asks (G := G) (a := m + 52) (w := 20) hT (by decide) (qG_w hG 52 (by unfold isW; omega)) (y4 52 (by unfold isW; omega)) y1 y2
      unfold nWd at r3
      rw [if_pos n20] at r3
      exact ⟨V3, 1, fin V3 e3, (k1.B.trans k2).trans k3.B, Or.inr (Or.inl ⟨rfl, nxT T p, 12 :: W, o + 1, cs, gt.1, ⟨r3.1, r3.2, by rw [k3.2.2.2 m 48 (by omega)]; exact y3, y4.lk k3, y5.lk k3, y6, by omega⟩, (fun b hb => by
        rcases List.mem_cons.mp hb with z | z
        · exact Or.inr (Or.inr (Or.inl z))
        · exact hO b z), Go_s (ge.trans st) g⟩)⟩
  have n20 : ¬ nmT T p = ((20 : Nat) : Int) := fun z => k18 (c18.mpr z)
  rw [if_neg n20] at hw52
  obtain ⟨V2, e2, k2, hh⟩ := r_fact (G := G) hT hG hmd hO r1
  have tf : (∀ e, fT (kT md T) o p = .inl e → stT (kT md T) (true, p, W, o, cs) = .inl (.inl e)) ∧ (∀ c q, fT (kT md T) o p = .inr (c, q) → stT (kT md T) (true, p, W, o, cs) = .inr (false, q, dno W o (cs ++ c))) := by
    rw [ge]
    unfold teE
    rw [if_neg k18, if_neg k16]
    unfold fT
    by_cases k19 : kcl (kT md T) p = 19
    · rw [if_pos k19, if_pos k19]
      exact ⟨fun e z => (by cases z), fun c q z => by cases z; rfl⟩
    · rw [if_neg k19, if_neg k19]
      unfold teS
      cases hR : rd (kT md T) 64 3 o p with
      | inl e => exact ⟨fun e' z => by cases z; rfl, fun c q z => (by cases z)⟩
      | inr y =>
        obtain ⟨c1, q1⟩ := y
        show (∀ e, (if cmpc (kT md T) q1 = 0 then .inl (1, (q1 : Int)) else seqR (rd (kT md T) 64 3 o (knx (kT md T) q1)) (fun c2 q2 => .inr (c1 ++ c2 ++ [cmpc (kT md T) q1], q2)) : tR) = .inl e → (if cmpc (kT md T) q1 = 0 then _ else _) = _) ∧ (∀ c q, (if cmpc (kT md T) q1 = 0 then .inl (1, (q1 : Int)) else seqR (rd (kT md T) 64 3 o (knx (kT md T) q1)) (fun c2 q2 => .inr (c1 ++ c2 ++ [cmpc (kT md T) q1], q2)) : tR) = .inr (c, q) → (if cmpc (kT md T) q1 = 0 then _ else _) = _)
        by_cases k0 : cmpc (kT md T) q1 = 0
        · rw [if_pos k0, if_pos k0]
          exact ⟨fun e z => by cases z; rfl, fun c q z => (by cases z)⟩
        · rw [if_neg k0, if_neg k0]
          cases hR2 : rd (kT md T) 64 3 o (knx (kT md T) q1) with
          | inl e => exact ⟨fun e' z => by cases z; rfl, fun c q z => (by cases z)⟩
          | inr y2 => exact ⟨fun e z => (by cases z), fun c q z => by cases z; rfl⟩
  have top3 : ∀ V' x, bd (F_X10_qDropsNots G m V2) (fun V18 v19 =>
      gd (rg (gI V18 m 5)) <|
      if (gI V18 m 5) = 0 then (bd (F_X10_qGoesOnTest G m V18) fun V23 v24 =>
      gd (rg v24) <|
      if v24 = 0 then (some (V23, 0, 0)) else (some (V23, 0, 1))) else (some (V18, 0, 0))) = some (V', 0, x) → B_X10_qTest_2 G m 1 V = some (V', 0, x) := by
    intro V' x e
    refine top V' x ?_
    rw [if_neg n91]
    exact E_bd hw52 (E_gd (by decide) (E_if (fun _ => E_bd e2 e) (fun y => absurd rfl y)))
  rcases hh with ⟨e, x1, x2⟩ | ⟨c, q, x1, x2, x3⟩
  · refine ⟨V2, 0, top3 V2 0 (E_bd (r_nots1 x2.bad.1 x2.bad.2) (E_gd x2.bad.2 (E_if (fun y => absurd y x2.bad.1) (fun _ => rfl)))), k1.B.trans k2, Or.inl ⟨e, Go_r (tf.1 e x1) g, x2, Or.inl rfl⟩⟩
  · have g' := Go_s (tf.2 c q x1) g
    obtain ⟨V3, e3, k3, r3, hO3⟩ := r_nots (G := G) x3 hO
    obtain ⟨V4, b, e4, k4, rs⟩ := rt_goes (G := G) hT hG r3 hO3 g'
    have kk := ((k1.B.trans k2).trans k3).trans k4
    rcases rs with ⟨rfl, e, y1, y2⟩ | ⟨rfl, p2, W2, o2, cs2, y1, y2, y3, y4⟩ | ⟨rfl, p2, W2, o2, cs2, y1, y2, y3⟩
    · exact ⟨V4, 0, top3 V4 0 (E_bd e3 (E_gd (by rw [r3.2.1]; decide) (E_if (fun _ => E_bd e4 (E_gd (by decide) (E_if (fun _ => rfl) (fun y => absurd rfl y)))) (fun y => absurd r3.2.1 y)))), kk, Or.inl ⟨e, y1, y2.up (by decide), Or.inl rfl⟩⟩
    · exact ⟨V4, 1, top3 V4 1 (E_bd e3 (E_gd (by rw [r3.2.1]; decide) (E_if (fun _ => E_bd e4 (E_gd (by decide) (E_if (fun y => absurd y (by decide)) (fun _ => rfl)))) (fun y => absurd r3.2.1 y)))), kk, Or.inr (Or.inl ⟨rfl, p2, W2, o2, cs2, by omega, y2, y3, y4⟩)⟩
    · exact ⟨V4, 0, top3 V4 0 (E_bd e3 (E_gd (by rw [r3.2.1]; decide) (E_if (fun _ => E_bd e4 (E_gd (by decide) (E_if (fun _ => rfl) (fun y => absurd rfl y)))) (fun y => absurd r3.2.1 y)))), kk, Or.inr (Or.inr ⟨rfl, p2, W2, o2, cs2, by omega, y2, y3⟩)⟩
/-- a test -/
theorem r_test (hT : tOk T) (hG : is10 G m) (hmd : md ≤ 3) (h : rW0 V m T md [] 0 p 0 []) :
    ∃ V', F_X10_qTest G m V = some (V', 0) ∧ rB m V V' ∧ ((∃ e, rd (kT md T) 64 0 0 p = .inl e ∧ rX V' m e 2) ∨ ∃ c q o', rd (kT md T) 64 0 0 p = .inr (c, q) ∧ p < q ∧ rW0 V' m T md [] 0 q o' c) := by
  have hn := hT.1
  have pn := rA_le h.1
  obtain ⟨g1, g2⟩ := go_test (K := kT md T) okK_T hT.1 pn
  obtain ⟨res, hres, gres⟩ : ∃ res : tR, Go (stT (kT md T)) (true, p, [], 0, []) res ∧ res = rd (kT md T) 64 0 0 p := by
    cases hR : rd (kT md T) 64 0 0 p with
    | inl e => exact ⟨_, g1 e hR, rfl⟩
    | inr y => exact ⟨_, g2 y.1 y.2 hR, rfl⟩
  have main : Wp (lp (fun (s : Int) V => B_X10_qTest_2 G m s V) FU 1 V) (fun U _ => rB m V U ∧ ((∃ e, res = .inl e ∧ rX U m e 2) ∨ ∃ p' W' o' cs', rW0 U m T md W' 0 p' o' cs' ∧ res = .inr (cs' ++ W', p'))) := by
    refine W_lp (fun w (x : Int) U => rB m V U ∧ (((x = 0 ∨ x = 1) ∧ w = 1 ∧ ∃ e, res = .inl e ∧ rX U m e 2) ∨ (x = 1 ∧ ∃ p' W' o' cs', rW0 U m T md W' 0 p' o' cs' ∧ okT W' ∧ Go (stT (kT md T)) (true, p', W', o', cs') res ∧ w = T.2 - p' + 2) ∨ (x = 0 ∧ w = 1 ∧ ∃ p' W' o' cs', rW0 U m T md W' 0 p' o' cs' ∧ res = .inr (cs' ++ W', p')))) ?_ FU (T.2 - p + 2) 1 V ⟨rB_refl, Or.inr (Or.inl ⟨rfl, p, [], 0, [], h, fun b hb => absurd hb List.not_mem_nil, hres, rfl⟩)⟩ (by unfold FU; omega)
    rintro w x U ⟨kU, hU⟩
    rcases hU with ⟨hx, rfl, e, he, hX⟩ | ⟨rfl, p', W', o', cs', hr, hO', hg, hw⟩ | ⟨rfl, rfl, hh⟩
    · refine W_of (V := U) (v := (1, x)) ?_ (Or.inr ⟨Nat.one_ne_zero, kU, Or.inl ⟨e, he, hX⟩⟩)
      show B_X10_qTest_2 G m x U = _
      unfold B_X10_qTest_2
      exact E_gd (by rcases hx with z | z <;> rw [z] <;> decide) (E_if (fun _ => rfl) (fun _ => E_gd hX.bad.2 (E_if (fun y => absurd y hX.bad.1) (fun _ => rfl))))
    · obtain ⟨U', x, e, kk, hh⟩ := rt_1 (G := G) hT hG hmd hr hO' hg
      have pn' := rA_le hr.1
      refine W_of (V := U') (v := (0, x)) e (Or.inl ⟨rfl, ?_⟩)
      rcases hh with ⟨e2, he, hX, hx⟩ | ⟨rfl, p2, W2, o2, cs2, hp2, hr2, hO2, hg2⟩ | ⟨rfl, p2, W2, o2, cs2, hp2, hr2, he⟩
      · exact ⟨1, by omega, kU.trans kk, Or.inl ⟨hx, rfl, e2, he, hX⟩⟩
      · have pn2 := rA_le hr2.1
        exact ⟨T.2 - p2 + 2, by omega, kU.trans kk, Or.inr (Or.inl ⟨rfl, p2, W2, o2, cs2, hr2, hO2, hg2, rfl⟩)⟩
      · exact ⟨1, by omega, kU.trans kk, Or.inr (Or.inr ⟨rfl, rfl, p2, W2, o2, cs2, hr2, he⟩)⟩
    · refine W_of (V := U) (v := (1, 0)) ?_ (Or.inr ⟨Nat.one_ne_zero, kU, Or.inr hh⟩)
      show B_X10_qTest_2 G m 0 U = _
      unfold B_X10_qTest_2
      exact E_gd (by decide) (E_if (fun _ => rfl) (fun y => absurd rfl y))
  obtain ⟨U, y, e1, kU, hU⟩ := main
  have top : ∀ U', lp (fun (_ : Unit) V => B_X10_qTest_110 G m V) FU () U = some (U', 1, ()) → F_X10_qTest G m V = some (U', 0) := by
    intro U' e
    unfold F_X10_qTest
    exact E_bd e1 (E_bd e rfl)
  rcases hU with ⟨e, he, hX⟩ | ⟨p', W', o', cs', hr, he⟩
  · exact ⟨U, top U (p_all01 hX.bad.1 hX.bad.2), kU, Or.inl ⟨e, by rw [← gres]; exact he, hX⟩⟩
  · obtain ⟨U', e2, k2, q2⟩ := p_all0 (G := G) hr.2.1 hr.2.2.2.2.1
    have hR : rd (kT md T) 64 0 0 p = .inr (cs' ++ W', p') := by rw [← gres]; exact he
    have pr := pr64 hT pn hR
    refine ⟨U', top U' e2, kU.trans k2.B, Or.inr ⟨cs' ++ W', p', o', hR, pr.1, hr.1.pq k2, by rw [k2.i (by decide)]; exact hr.2.1, by rw [k2.i (by decide)]; exact hr.2.2.1, hr.2.2.2.1.pq k2, q2, ⟨Nat.zero_le _, hr.2.2.2.2.2.1.2⟩, ?_⟩⟩
    have hl := hr.2.2.2.2.2.2
    rw [List.length_append]
    show 0 + _ ≤ _
    omega
end

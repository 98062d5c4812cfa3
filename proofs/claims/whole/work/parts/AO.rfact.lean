/-! a fact, a test (reference) -/
def fT (K : mK) (o p : Nat) : tR := if kcl K p = 19 then .inr ([13], knx K p) else seqR (rd K 64 3 o p) (fun c q => if cmpc K q = 0 then .inl (1, (q : Int)) else seqR (rd K 64 3 o (knx K q)) (fun c2 q2 => .inr (c ++ c2 ++ [cmpc K q], q2)))
section
variable {G : mG} {V V' : mV} {m : Nat} {T : mT2} {md p q o bs : Nat} {W cs : List Int} {e : Int × Int} {res : tR}
theorem rW0_R : rR V m T md [] p W o cs = rW0 V m T md W 0 p o cs := by
  unfold rR rW0
  rw [List.append_nil]
  rfl
theorem rW0.lk (h : rW0 V m T md W bs p o cs) (k : rLk m V V') (r : rs10 V' m T (.inr q)) (hq : p ≤ q) : rW0 V' m T md W bs q o cs := by
  obtain ⟨a1, a2, a3, a4, a5, a6, a7⟩ := h
  exact ⟨r.1, r.2, by rw [k.2.2.2 m 48 (by omega)]; exact a3, a4.lk k, a5.lk k, a6, by omega⟩
theorem rW0.x (h : rW0 V m T md W bs p o cs) (k : rLk m V V') (r : rs10 V' m T (.inl e)) : rX V' m e 0 := by
  obtain ⟨a1, a2, a3, a4, a5, a6, a7⟩ := h
  have h98 := a5.2.2.2.2.1
  have h8 := a5.2.2.2.2.2.2.2
  exact ⟨r, by rw [k.2.2.2 m 98 (by omega), h98]; omega⟩
theorem rW0.look (hT : tOk T) (h : rW0 V m T md W bs p o cs) : ∃ V', F_X10_look G m V = some (V', lkc T p) ∧ rLk m V V' ∧ rW0 V' m T md W bs p o cs ∧ gI V' m 2 = (p : Int) := by
  obtain ⟨V', e, k, r, a2, a5, -⟩ := r_look (G := G) hT h.1
  exact ⟨V', e, k, h.lk k ⟨r, a5.trans h.2.1⟩ (Nat.le_refl _), a2⟩
theorem rW0.code (h : rW0 V m T md W bs p o cs) (hl : W.length + cs.length < p) (hT : tOk T) {v : Int} : ∃ V', F_X10_qCode G m v V = some (V', 0) ∧ rB m V V' ∧ rW0 V' m T md W bs p o (cs ++ [v]) := by
  have hn := hT.1
  have pn := rA_le h.1
  obtain ⟨a1, a2, a3, a4, a5, a6, a7⟩ := h
  obtain ⟨V', e, k, q⟩ := p_code (G := G) (v := v) a5 (by omega)
  refine ⟨V', e, k.B, a1.pq k, by rw [k.i (by decide)]; exact a2, by rw [k.i (by decide)]; exact a3, a4.pq k, q, a6, ?_⟩
  rw [List.length_append]
  show W.length + (cs.length + 1) ≤ p
  omega
theorem cmp_lk : (lkc T q = 60 ↔ kcl (kT md T) q = 13) ∧ (lkc T q = 62 ↔ kcl (kT md T) q = 14) ∧ (lkc T q = 61 ↔ kcl (kT md T) q = 15) :=
  ⟨(lk_sg ⟨by decide, by decide, by decide⟩).trans cl_13.symm, (lk_sg ⟨by decide, by decide, by decide⟩).trans cl_14.symm, (lk_sg ⟨by decide, by decide, by decide⟩).trans cl_15.symm⟩
theorem r_fact (hT : tOk T) (hG : is10 G m) (hmd : md ≤ 3) (hO : okT W) (h : rW0 V m T md W bs p o cs) :
    ∃ V', F_X10_qFact G m V = some (V', 0) ∧ rB m V V' ∧ ((∃ e, fT (kT md T) o p = .inl e ∧ rX V' m e 2) ∨ ∃ c q, fT (kT md T) o p = .inr (c, q) ∧ p < q ∧ rW0 V' m T md W bs q o (cs ++ c)) := by
  have hn := hT.1
  have pn := rA_le h.1
  obtain ⟨V1, e1, k1, r1, a1⟩ := r_tkW (G := G) (a := m + 55) (w := 21) hT (by decide) (qG_w hG 55 (by unfold isW; omega)) (h.2.2.2.1 55 (by unfold isW; omega)) h.1 h.2.1
  have c19 : kcl (kT md T) p = 19 ↔ nmT T p = ((21 : Nat) : Int) := cl_19
  unfold fT
  by_cases k19 : kcl (kT md T) p = 19
  · have n := c19.mp k19
    rw [if_pos n] at e1 r1
    rw [if_pos k19]
    have gt := nxT_gt (clT_lt (show clT md T p ≠ 0 from fun z => by have z' : kcl (kT md T) p = 0 := z; omega))
    have h1 := h.lk k1 r1 (by omega)
    have hl := h.2.2.2.2.2.2
    obtain ⟨V2, e2, k2, r2⟩ := h1.code (G := G) (by omega) hT (v := 13)
    refine ⟨V2, ?_, k1.B.trans k2, Or.inr ⟨[13], nxT T p, rfl, gt.1, r2⟩⟩
    unfold F_X10_qFact
    exact E_bd e1 (E_gd (by decide) (E_if (fun y => absurd y (by decide)) (fun _ => E_bd e2 rfl)))
  have n : ¬ nmT T p = ((21 : Nat) : Int) := fun z => k19 (c19.mpr z)
  rw [if_neg n] at e1 r1
  rw [if_neg k19]
  have h1 := h.lk k1 r1 (Nat.le_refl _)
  obtain ⟨V2, e2, k2, hh⟩ := r_sums (G := G) hT hG hmd (okT_hd hO) h1
  have top : ∀ V', (gd (rg (gI V2 m 5)) <|
      if (gI V2 m 5) = 0 then (bd (F_X10_look G m V2) fun V11 v12 =>
      gd (rg v12) <|
      if v12 = 60 then (F_X10_qFact_J63 G m v12 V11) else (if v12 = 62 then (F_X10_qFact_J63 G m v12 V11) else (if v12 = 61 then (F_X10_qFact_J63 G m v12 V11) else (bd (F_X10_fail G m 1 (gI V11 m 2) V11) fun V34 v35 =>
      some (V34, 0))))) else (some (V2, 0))) = some (V', 0) → F_X10_qFact G m V = some (V', 0) := by
    intro V' e
    unfold F_X10_qFact
    exact E_bd e1 (E_gd (by decide) (E_if (fun _ => E_bd e2 e) (fun y => absurd rfl y)))
  rcases hh with ⟨e, x1, x2⟩ | ⟨c, q, x1, x2, x3⟩
  · rw [x1]
    exact ⟨V2, top V2 (E_gd x2.bad.2 (E_if (fun y => absurd y x2.bad.1) (fun _ => rfl))), k1.B.trans k2, Or.inl ⟨e, rfl, x2.up (by decide)⟩⟩
  · rw [x1]
    obtain ⟨V3, e3, k3, r3, a3⟩ := x3.look (G := G) hT
    have lr := (lkc_rg (p := q) hT).1
    obtain ⟨l60, l62, l61⟩ := cmp_lk (T := T) (q := q) (md := md)
    show ∃ V', _ ∧ _ ∧ ((∃ e, (if cmpc (kT md T) q = 0 then .inl (1, (q : Int)) else seqR (rd (kT md T) 64 3 o (knx (kT md T) q)) (fun c2 q2 => .inr (c ++ c2 ++ [cmpc (kT md T) q], q2)) : tR) = .inl e ∧ rX V' m e 2) ∨ ∃ c' q', (if cmpc (kT md T) q = 0 then .inl (1, (q : Int)) else seqR (rd (kT md T) 64 3 o (knx (kT md T) q)) (fun c2 q2 => .inr (c ++ c2 ++ [cmpc (kT md T) q], q2)) : tR) = .inr (c', q') ∧ p < q' ∧ rW0 V' m T md W bs q' o (cs ++ c'))
    have top2 : ∀ V', (if lkc T q = 60 then (F_X10_qFact_J63 G m (lkc T q) V3) else (if lkc T q = 62 then (F_X10_qFact_J63 G m (lkc T q) V3) else (if lkc T q = 61 then (F_X10_qFact_J63 G m (lkc T q) V3) else (bd (F_X10_fail G m 1 (gI V3 m 2) V3) fun V34 v35 =>
      some (V34, 0))))) = some (V', 0) → F_X10_qFact G m V = some (V', 0) := fun V' e => top V' (E_gd (by rw [x3.2.1]; decide) (E_if (fun _ => E_bd e3 (E_gd lr e)) (fun y => absurd x3.2.1 y)))
    by_cases k0 : cmpc (kT md T) q = 0
    · rw [if_pos k0]
      unfold cmpc at k0
      have n13 : ¬ kcl (kT md T) q = 13 := fun z => by rw [if_pos z] at k0; cases k0
      rw [if_neg n13] at k0
      have n14 : ¬ kcl (kT md T) q = 14 := fun z => by rw [if_pos z] at k0; cases k0
      rw [if_neg n14] at k0
      have n15 : ¬ kcl (kT md T) q = 15 := fun z => by rw [if_pos z] at k0; cases k0
      obtain ⟨V4, e4, k4, r4⟩ := r_fail (G := G) (T := T) r3.2.1 (k := 1) (w := (q : Int)) ⟨by decide, by decide⟩
      have x4 := r3.x k4 r4
      refine ⟨V4, top2 V4 ?_, ((k1.B.trans k2).trans k3.B).trans k4.B, Or.inl ⟨(1, (q : Int)), rfl, x4.up (by decide)⟩⟩
      rw [if_neg (fun z => n13 (l60.mp z)), if_neg (fun z => n14 (l62.mp z)), if_neg (fun z => n15 (l61.mp z)), a3]
      exact E_bd e4 rfl
    · rw [if_neg k0]
      have ql := clT_lt (show clT md T q ≠ 0 from cmpc_ne k0)
      have gt := nxT_gt ql
      have sg : ¬ isL (T.1 q) = true ∧ ¬ isD (T.1 q) = true := by
        have kd : kdT T q = 2 := by
          have k0' := k0
          unfold cmpc at k0'
          by_cases z13 : kcl (kT md T) q = 13
          · exact ((cl_13 (md := md)).mp z13).1
          by_cases z14 : kcl (kT md T) q = 14
          · exact ((cl_14 (md := md)).mp z14).1
          by_cases z15 : kcl (kT md T) q = 15
          · exact ((cl_15 (md := md)).mp z15).1
          · rw [if_neg z13, if_neg z14, if_neg z15] at k0'; exact absurd rfl k0'
        exact (kd_2.mp kd).2
      have kl : rLk m V3 (sI V3 m 2 (gI V3 m 2 + 1)) := rLk_sI (Or.inl rfl)
      have ra := rA_at (hp := ql) r3.1 a3 sg.1 sg.2
      have h4 : rW0 (sI V3 m 2 (gI V3 m 2 + 1)) m T md W bs (nxT T q) o (cs ++ c) := r3.lk kl ⟨ra, by rw [gI_sI, if_neg (by omega)]; exact r3.2.1⟩ (by omega)
      obtain ⟨V5, e5, k5, hh2⟩ := r_sums (G := G) hT hG hmd (okT_hd hO) h4
      have kk := (((k1.B.trans k2).trans k3.B).trans kl.B).trans k5
      have j63 : ∀ (V' : mV), F_X10_qCode G m (cmpc (kT md T) q) V5 = some (V', 0) → F_X10_qFact G m V = some (V', 0) := by
        intro V' e
        refine top2 V' ?_
        have g63 : ∀ x : Int, x = lkc T q → cmpc (kT md T) q = (if x = 60 then 7 else if x = 62 then 8 else 9) → F_X10_qFact_J63 G m x V3 = some (V', 0) := by
          intro x hx hc
          unfold F_X10_qFact_J63
          rw [hc] at e
          refine E_lt (E_bd e5 (E_gd (by rw [hx]; exact lr) (E_if (fun y => ?_) (fun y => E_if (fun y2 => ?_) (fun y2 => ?_)))))
          · rw [if_pos y] at e; exact E_bd e rfl
          · rw [if_neg y, if_pos y2] at e; exact E_bd e rfl
          · rw [if_neg y, if_neg y2] at e; exact E_bd e rfl
        by_cases z13 : kcl (kT md T) q = 13
        · rw [if_pos (l60.mpr z13)]
          exact g63 _ rfl (by rw [if_pos (l60.mpr z13)]; unfold cmpc; rw [if_pos z13])
        rw [if_neg (fun z => z13 (l60.mp z))]
        by_cases z14 : kcl (kT md T) q = 14
        · rw [if_pos (l62.mpr z14)]
          exact g63 _ rfl (by rw [if_neg (fun z => z13 (l60.mp z)), if_pos (l62.mpr z14)]; unfold cmpc; rw [if_neg z13, if_pos z14])
        rw [if_neg (fun z => z14 (l62.mp z))]
        by_cases z15 : kcl (kT md T) q = 15
        · rw [if_pos (l61.mpr z15)]
          exact g63 _ rfl (by rw [if_neg (fun z => z13 (l60.mp z)), if_neg (fun z => z14 (l62.mp z))]; unfold cmpc; rw [if_neg z13, if_neg z14, if_pos z15])
        · exfalso
          apply k0
          unfold cmpc
          rw [if_neg z13, if_neg z14, if_neg z15]
      rcases hh2 with ⟨e, y1, y2⟩ | ⟨c2, q2, y1, y2, y3⟩
      · obtain ⟨V6, e6, k6, x6⟩ := y2.code (G := G) (v := cmpc (kT md T) q) (by decide)
        refine ⟨V6, j63 V6 e6, kk.trans k6.B, Or.inl ⟨e, ?_, x6⟩⟩
        show seqR (rd (kT md T) 64 3 o (nxT T q)) _ = _
        rw [y1]; rfl
      · have pr := pr64 hT gt.2 y1
        have hl := r3.2.2.2.2.2.2
        obtain ⟨V6, e6, k6, x6⟩ := y3.code (G := G) (by rw [List.length_append]; omega) hT (v := cmpc (kT md T) q)
        refine ⟨V6, j63 V6 e6, kk.trans k6, Or.inr ⟨c ++ c2 ++ [cmpc (kT md T) q], q2, ?_, by omega, ?_⟩⟩
        · show seqR (rd (kT md T) 64 3 o (nxT T q)) _ = _
          rw [y1]; rfl
        · rw [show cs ++ (c ++ c2 ++ [cmpc (kT md T) q]) = cs ++ c ++ c2 ++ [cmpc (kT md T) q] by simp]
          exact x6
end

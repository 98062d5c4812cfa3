/-! the next token (reference): what is taken, what fails -/
section
variable {G : mG} {V : mV} {m : Nat} {T : mT2} {p : Nat}
/-- a run taken: the place and where it ended are told -/
theorem rA_run {A : Int → Bool} (hA : ∀ c, A c = true → (isL c = true ∨ isD c = true) ∧ (isL c = true → ∀ d, isL d = true → A d = true) ∧ (isD c = true → ∀ d, isD d = true → A d = true)) {V' : mV} {te : Nat} (h : rA V m T p) (k : rLk m V V') (hl : p < T.2) (ha : A (T.1 p) = true) (ht : te = ew A T p) (hte : teT T p = te) (h2 : gI V' m 2 = (te : Int)) (h4 : gI V' m 4 = (te : Int)) : rA V' m T (nxT T p) := by
  obtain ⟨x1, x2, -, x4, x5, x6⟩ := h
  have sp := ew_spec (A := A) (T := T) (p := p) (by omega)
  have gt : p < te := by
    rw [ht, ew_step hl ha]
    have := ew_spec (A := A) (T := T) (p := p + 1) (by omega)
    omega
  have tn : te ≤ T.2 := by rw [ht]; exact sp.2.1
  have en : nxT T p = bsk T te := by unfold nxT; rw [hte]
  obtain ⟨n1, n2⟩ := nx_run hA tn (by omega) (sp.2.2.1 (te - 1) (by omega) (by omega)) (fun z => by rw [ht] at z ⊢; exact sp.2.2.2 z)
  have bs := bsk_spec (T := T) tn
  rw [en]
  exact ⟨fun j hj => by rw [k.1]; exact x1 j hj, by rw [k.2.2.2 m 3 (by omega)]; exact x2, ⟨te, h2, tn, rfl⟩, by rw [h4]; omega, by rw [h4]; exact n1, n2⟩
theorem rA_sg {V' : mV} (h : rA V m T p) (k : rLk m V V') (hp : p < T.2) (hL : ¬ isL (T.1 p) = true) (hD : ¬ isD (T.1 p) = true) (h2 : gI V' m 2 = ((p + 1 : Nat) : Int)) (h4 : gI V' m 4 = gI V m 4) : rA V' m T (nxT T p) := by
  obtain ⟨x1, x2, -, x4, x5, x6⟩ := h
  obtain ⟨n0, n1, n2⟩ := nx_sign hp hL hD (e := gI V m 4) x4.2
  have gt := nxT_gt hp
  exact ⟨fun j hj => by rw [k.1]; exact x1 j hj, by rw [k.2.2.2 m 3 (by omega)]; exact x2, ⟨p + 1, h2, by omega, n0.symm⟩, by rw [h4]; omega, by rw [h4]; exact n1, n2⟩
/-- a word taken, if it is here -/
theorem r_tkW (hT : tOk T) {a w : Nat} (hw : w < 33) (hq : qG G a = (wl.getD w []).length) (hc : wdA V a (wl.getD w [])) (h : rA V m T p) (h0 : gI V m 5 = 0) : ∃ V', F_X10_takes G m a V = some (V', if nmT T p = (w : Int) then 1 else 0) ∧ rLk m V V' ∧ rs10 V' m T (.inr (if nmT T p = (w : Int) then nxT T p else p)) ∧ (nmT T p ≠ (w : Int) → gI V' m 2 = (p : Int)) := by
  have hn := hT.1
  have pn := rA_le h
  obtain ⟨V1, e1, k1, r1, a2, a5, a4, -⟩ := r_isH (G := G) hT hw hq hc h h0
  by_cases c : nmT T p = (w : Int)
  · rw [if_pos c] at e1
    rw [if_pos c, if_pos c]
    have k0 : kdT T p = 0 := by
      rcases nm_rg (T := T) (p := p) with z | z
      · omega
      · exact z.2.2
    obtain ⟨p1, p2, p3⟩ := kd_0 k0
    have te := te_0 p1 p2
    have hl := (nm_is k0 hw).mp c
    have hln : lnT T p = ew isL T p - p := by unfold lnT; rw [te]
    have g := congrArg List.length hl.2
    rw [ltr_len] at g
    have sp := ew_spec (A := isL) (T := T) (p := p) (by omega)
    have k2 : rLk m V (sI (sI V1 m 2 (gI V1 m 2 + ((qG G a) : Int))) m 4 (gI (sI V1 m 2 (gI V1 m 2 + ((qG G a) : Int))) m 2)) := (k1.trans (rLk_sI (by omega))).trans (rLk_sI (by omega))
    have g2 : gI (sI V1 m 2 (gI V1 m 2 + ((qG G a) : Int))) m 2 = ((ew isL T p : Nat) : Int) := by rw [gI_sI, if_pos ⟨rfl, rfl⟩, a2, hq]; omega
    refine ⟨_, ?_, k2, ⟨rA_run hA_L h k2 p1 p2 rfl te ?_ ?_, ?_⟩, fun q => absurd c q⟩
    · unfold F_X10_takes
      exact E_bd e1 (E_gd (by decide) (E_if (fun q => absurd q (by decide)) (fun _ => E_lt (E_lt rfl))))
    · rw [gI_sI, if_neg (by omega)]; exact g2
    · rw [gI_sI, if_pos ⟨rfl, rfl⟩]; exact g2
    · rw [gI_sI, if_neg (by omega), gI_sI, if_neg (by omega)]; exact a5
  · rw [if_neg c] at e1
    rw [if_neg c, if_neg c]
    refine ⟨V1, ?_, k1, ⟨r1, a5⟩, fun _ => a2⟩
    unfold F_X10_takes
    exact E_bd e1 (E_gd (by decide) (E_if (fun _ => rfl) (fun q => absurd rfl q)))
theorem r_tkW1 (h0 : gI V m 5 ≠ 0) (hr : rg (gI V m 5)) {a : Nat} : F_X10_takes G m a V = some (V, 0) := by
  unfold F_X10_takes
  exact E_bd (r_isH1 h0 hr) (E_gd (by decide) (E_if (fun _ => rfl) (fun q => absurd rfl q)))
theorem r_asks (hT : tOk T) {a w : Nat} (hw : w < 33) (hq : qG G a = (wl.getD w []).length) (hc : wdA V a (wl.getD w [])) (h : rA V m T p) (h0 : gI V m 5 = 0) : ∃ V', F_X10_asks G m a V = some (V', 0) ∧ rLk m V V' ∧ rs10 V' m T (nWd T (w : Int) p) := by
  obtain ⟨V1, e1, k1, r1, a2⟩ := r_tkW (G := G) hT hw hq hc h h0
  unfold nWd
  by_cases c : nmT T p = (w : Int)
  · rw [if_pos c] at e1 r1 ⊢
    refine ⟨V1, ?_, k1, r1⟩
    unfold F_X10_asks
    exact E_gd (by rw [h0]; decide) (E_if (fun _ => E_bd e1 (E_gd (by decide) (E_if (fun q => absurd q (by decide)) (fun _ => rfl)))) (fun q => absurd h0 q))
  · rw [if_neg c] at e1 r1 ⊢
    obtain ⟨V2, e2, k2, r2⟩ := r_fail (G := G) (T := T) r1.2 (k := 1) (w := (p : Int)) ⟨by decide, by decide⟩
    refine ⟨V2, ?_, k1.trans k2, r2⟩
    unfold F_X10_asks
    refine E_gd (by rw [h0]; decide) (E_if (fun _ => E_bd e1 (E_gd (by decide) (E_if (fun _ => ?_) (fun q => absurd rfl q)))) (fun q => absurd h0 q))
    rw [a2 c]
    exact E_bd e2 rfl
theorem r_asks1 (h0 : gI V m 5 ≠ 0) (hr : rg (gI V m 5)) {a : Nat} : F_X10_asks G m a V = some (V, 0) := by
  unfold F_X10_asks
  exact E_gd hr (E_if (fun q => absurd q h0) (fun _ => rfl))
/-- what stands here is a sign c -/
theorem lk_sg {c : Int} (hc : ¬ isL c = true ∧ ¬ isD c = true ∧ c ≠ -1) : lkc T p = c ↔ kdT T p = 2 ∧ T.1 p = c := by
  unfold lkc
  constructor
  · intro h
    by_cases z : p < T.2
    · rw [if_pos z] at h
      exact ⟨kd_2.mpr ⟨z, by rw [h]; exact hc.1, by rw [h]; exact hc.2.1⟩, h⟩
    · rw [if_neg z] at h; exact absurd h.symm hc.2.2
  · rintro ⟨a, b⟩
    rw [if_pos (kd_2.mp a).1]; exact b
theorem r_tSg (hT : tOk T) (h : rA V m T p) (h0 : gI V m 5 = 0) {c : Int} (hr : rg c) (hc : ¬ isL c = true ∧ ¬ isD c = true ∧ c ≠ -1) : ∃ V', F_X10_takesSign G m c V = some (V', if kdT T p = 2 ∧ T.1 p = c then 1 else 0) ∧ rLk m V V' ∧ rs10 V' m T (.inr (if kdT T p = 2 ∧ T.1 p = c then nxT T p else p)) ∧ (¬ (kdT T p = 2 ∧ T.1 p = c) → gI V' m 2 = (p : Int)) ∧ (kdT T p = 2 ∧ T.1 p = c → gI V' m 2 = ((p + 1 : Nat) : Int)) := by
  obtain ⟨V1, e1, k1, r1, a2, a5, a4⟩ := r_look (G := G) hT h
  obtain ⟨lr, l1, l2⟩ := lkc_rg (p := p) hT
  by_cases q : kdT T p = 2 ∧ T.1 p = c
  · rw [if_pos q, if_pos q]
    obtain ⟨z1, z2, z3⟩ := kd_2.mp q.1
    have k2 : rLk m V (sI V1 m 2 (gI V1 m 2 + 1)) := k1.trans (rLk_sI (by omega))
    have g2 : gI (sI V1 m 2 (gI V1 m 2 + 1)) m 2 = ((p + 1 : Nat) : Int) := by rw [gI_sI, if_pos ⟨rfl, rfl⟩, a2]; omega
    refine ⟨_, ?_, k2, ⟨rA_sg h k2 z1 z2 z3 g2 ?_, ?_⟩, fun y => absurd q y, fun _ => g2⟩
    · unfold F_X10_takesSign
      exact E_gd (by rw [h0]; decide) (E_if (fun _ => E_bd e1 (E_gd lr (E_gd hr (E_if (fun _ => E_lt rfl) (fun y => absurd ((lk_sg hc).mpr q) y))))) (fun y => absurd h0 y))
    · rw [gI_sI, if_neg (by omega)]; exact a4
    · rw [gI_sI, if_neg (by omega)]; exact a5.trans h0
  · rw [if_neg q, if_neg q]
    refine ⟨V1, ?_, k1, ⟨r1, a5.trans h0⟩, fun _ => a2, fun y => absurd y q⟩
    unfold F_X10_takesSign
    exact E_gd (by rw [h0]; decide) (E_if (fun _ => E_bd e1 (E_gd lr (E_gd hr (E_if (fun y => absurd ((lk_sg hc).mp y) q) (fun _ => rfl))))) (fun y => absurd h0 y))
theorem r_tSg1 (h0 : gI V m 5 ≠ 0) (hr : rg (gI V m 5)) {c : Int} : F_X10_takesSign G m c V = some (V, 0) := by
  unfold F_X10_takesSign
  exact E_gd hr (E_if (fun q => absurd q h0) (fun _ => rfl))
theorem r_aSg (hT : tOk T) (h : rA V m T p) (h0 : gI V m 5 = 0) {c : Int} (hr : rg c) (hc : ¬ isL c = true ∧ ¬ isD c = true ∧ c ≠ -1) : ∃ V', F_X10_asksSign G m c V = some (V', 0) ∧ rLk m V V' ∧ rs10 V' m T (nSg T c p) := by
  obtain ⟨V1, e1, k1, r1, a2, -⟩ := r_tSg (G := G) hT h h0 hr hc
  unfold nSg
  by_cases q : kdT T p = 2 ∧ T.1 p = c
  · rw [if_pos q] at e1 r1 ⊢
    refine ⟨V1, ?_, k1, r1⟩
    unfold F_X10_asksSign
    exact E_gd (by rw [h0]; decide) (E_if (fun _ => E_bd e1 (E_gd (by decide) (E_if (fun y => absurd y (by decide)) (fun _ => rfl)))) (fun y => absurd h0 y))
  · rw [if_neg q] at e1 r1 ⊢
    obtain ⟨V2, e2, k2, r2⟩ := r_fail (G := G) (T := T) r1.2 (k := 1) (w := (p : Int)) ⟨by decide, by decide⟩
    refine ⟨V2, ?_, k1.trans k2, r2⟩
    unfold F_X10_asksSign
    refine E_gd (by rw [h0]; decide) (E_if (fun _ => E_bd e1 (E_gd (by decide) (E_if (fun _ => ?_) (fun y => absurd rfl y)))) (fun y => absurd h0 y))
    rw [a2 q]
    exact E_bd e2 rfl
theorem r_aSg1 (h0 : gI V m 5 ≠ 0) (hr : rg (gI V m 5)) {c : Int} : F_X10_asksSign G m c V = some (V, 0) := by
  unfold F_X10_asksSign
  exact E_gd hr (E_if (fun q => absurd q h0) (fun _ => rfl))
/-- a number -/
theorem r_num (hT : tOk T) (h : rA V m T p) (h0 : gI V m 5 = 0) {mx : Int} (hm : rg mx) : ∃ V' v, F_X10_number G m 0 mx V = some (V', v) ∧ rLk m V V' ∧ rs10 V' m T (nNu T mx p) ∧ (0 ≤ v ∧ v ≤ 9999) ∧ (kdT T p = 1 → lnT T p ≤ 4 → v = vlT T p ∧ gI V' m 10 = (p : Int)) := by
  have hn := hT.1
  have pn := rA_le h
  obtain ⟨V1, e1, k1, r1, a2, a5, a4⟩ := r_look (G := G) hT h
  obtain ⟨lr, l1, l2⟩ := lkc_rg (p := p) hT
  have a5' : gI V1 m 5 = 0 := a5.trans h0
  have r3 := r1.2.1
  have r4 := r1.2.2.2.1
  have r5 := r1.2.2.2.2.1
  have r6 := r1.2.2.2.2.2
  have bad : kdT T p ≠ 1 → F_X10_number G m 0 mx V = F_X10_number_J30 G m 0 mx V1 → ∃ V' v, F_X10_number G m 0 mx V = some (V', v) ∧ rLk m V V' ∧ rs10 V' m T (nNu T mx p) ∧ (0 ≤ v ∧ v ≤ 9999) ∧ (kdT T p = 1 → lnT T p ≤ 4 → v = vlT T p ∧ gI V' m 10 = (p : Int)) := by
    intro hk e
    obtain ⟨V2, e2, k2, r2⟩ := r_fail (G := G) (T := T) a5' (k := 1) (w := (p : Int)) ⟨by decide, by decide⟩
    refine ⟨V2, 0, ?_, k1.trans k2, ?_, by decide, fun y => absurd y hk⟩
    · rw [e]; unfold F_X10_number_J30; rw [a2]; exact E_bd e2 rfl
    · unfold nNu; rw [if_pos hk]; exact r2
  by_cases hd : isD (lkc T p) = true
  · have pl : p < T.2 := by
      by_cases z : p < T.2
      · exact z
      · unfold lkc at hd; rw [if_neg z] at hd; exact absurd hd (by decide)
    have hd' : isD (T.1 p) = true := by unfold lkc at hd; rw [if_pos pl] at hd; exact hd
    have nL : ¬ isL (T.1 p) = true := fun q => LD_x ⟨q, hd'⟩
    by_cases he : gI V1 m 2 = gI V1 m 4
    · have hp := r5.mp (by rw [← he]; exact a2)
      refine bad (fun z => ?_) ?_
      · obtain ⟨-, -, -, z4⟩ := kd_1 z
        rcases hp.2 with y | y
        · exact z4 ⟨hp.1, y⟩
        · exact (r6 pl hp.1).2 ⟨hd', y⟩
      · unfold F_X10_number
        refine E_gd (by rw [h0]; decide) (E_if (fun _ => E_bd e1 (E_bd (r_isD lr) ?_)) (fun q => absurd h0 q))
        rw [if_pos hd]
        exact E_gd (by decide) (E_if (fun q => absurd q (by decide)) (fun _ => E_gd (by rw [a2]; exact ⟨by omega, by omega⟩) (E_gd ⟨by omega, by omega⟩ (E_if (fun _ => rfl) (fun q => absurd he q)))))
    have k1' : kdT T p = 1 := by
      unfold kdT
      rw [if_neg (by omega), if_neg nL, if_pos hd', if_neg]
      rintro ⟨z1, z2⟩
      exact he (by rw [a2, r5.mpr ⟨z1, Or.inl z2⟩])
    obtain ⟨ev, te⟩ := vl_d pl nL hd'
    have sp := ew_spec (A := isD) (T := T) (p := p) (by omega)
    have hln : lnT T p = ew isD T p - p := by unfold lnT; rw [te]
    have gt := teT_gt pl
    have step : ∀ j, j < 4 → j < lnT T p → ∀ U : mV, rLk m V U → gI U m 2 = ((p + j : Nat) : Int) → gI U m 3 = (T.2 : Int) → B_X10_number_49 G m 0 mx (p : Int) (dig T p j) U = some (sI U m 2 ((p + (j + 1) : Nat) : Int), 0, dig T p (j + 1)) := by
      intro j h4 hj U kU u2 u3
      have hD := run_at (A := isD) (T := T) (p := p) (by omega) (j := j) (by omega)
      have hb := hT.2 (p + j) (by omega)
      have hc : gA U (m + 1) (p + j) = T.1 (p + j) := by rw [kU.1]; exact h.1 (p + j) (by omega)
      unfold B_X10_number_49
      rw [u2, u3, Int.toNat_natCast, hc]
      refine E_gd ⟨by omega, by omega⟩ (E_gd ⟨by omega, by omega⟩ (E_if (fun q => by omega) (fun _ => E_gd ⟨by omega, by omega, by omega⟩ (E_bd (r_isD ⟨by omega, by omega⟩) ?_))))
      rw [if_pos hD]
      refine E_gd (by decide) (E_if (fun q => absurd q (by decide)) (fun _ => ?_))
      rw [u2, Int.toNat_natCast, hc]
      refine E_gd ⟨by omega, by omega⟩ (E_if (fun q => by omega) (fun _ => E_gd ⟨by omega, by omega, by omega⟩ (E_lt (E_lt (E_so ?_ ?_)))))
      · rw [show ((p + j : Nat) : Int) + 1 = ((p + (j + 1) : Nat) : Int) by omega]
      · refine Prod.ext rfl ?_
        show 10 * dig T p j + T.1 (p + j) - 48 = 10 * dig T p j + (T.1 (p + j) - 48)
        omega
    have run : ∀ n, n ≤ 4 → n ≤ lnT T p → ∀ fu, 4 < fu → ∃ U, rLk m V U ∧ gI U m 2 = ((p + n : Nat) : Int) ∧ gI U m 3 = (T.2 : Int) ∧ gI U m 5 = 0 ∧ gI U m 4 = gI V m 4 ∧ lp (fun (s : Int) V => B_X10_number_49 G m 0 mx (p : Int) s V) fu 0 V1 = lp (fun (s : Int) V => B_X10_number_49 G m 0 mx (p : Int) s V) (fu - n) (dig T p n) U := by
      intro n
      induction n with
      | zero => intro _ _ fu hf; exact ⟨V1, k1, a2, r3, a5', a4, rfl⟩
      | succ n ih =>
        intro h4 hl fu hf
        obtain ⟨U, u1, u2, u3, u5, u4, e⟩ := ih (by omega) (by omega) fu hf
        refine ⟨sI U m 2 ((p + (n + 1) : Nat) : Int), u1.trans (rLk_sI (by omega)), by rw [gI_sI, if_pos ⟨rfl, rfl⟩], by rw [gI_sI, if_neg (by omega)]; exact u3, by rw [gI_sI, if_neg (by omega)]; exact u5, by rw [gI_sI, if_neg (by omega)]; exact u4, ?_⟩
        rw [e, show fu - n = (fu - (n + 1)) + 1 by omega]
        exact lp_more (step n (by omega) (by omega) U u1 u2 u3)
    have head : ∀ V' v, bd (lp (fun (s : Int) V => B_X10_number_49 G m 0 mx (p : Int) s V) FU 0 V1) (fun V32 u33 =>
        if u33.1 = 1 then (bd (F_X10_fail G m 1 (gI V32 m 2) V32) fun V36 v37 =>
        some (V36, 0)) else (F_X10_number_J129 G m 0 mx (p : Int) u33.2 V32)) = some (V', v) → F_X10_number G m 0 mx V = some (V', v) := by
      intro V' v e
      unfold F_X10_number
      refine E_gd (by rw [h0]; decide) (E_if (fun _ => E_bd e1 (E_bd (r_isD lr) ?_)) (fun q => absurd h0 q))
      rw [if_pos hd]
      refine E_gd (by decide) (E_if (fun q => absurd q (by decide)) (fun _ => E_gd (by rw [a2]; exact ⟨by omega, by omega⟩) (E_gd ⟨by omega, by omega⟩ (E_if (fun q => absurd q he) (fun _ => E_lt ?_)))))
      rw [a2]
      exact e
    by_cases l4 : 4 < lnT T p
    · obtain ⟨U, u1, u2, u3, u5, u4, e⟩ := run 4 (by decide) (by omega) FU (by unfold FU; decide)
      have hD := run_at (A := isD) (T := T) (p := p) (by omega) (j := 4) (by omega)
      have hb := hT.2 (p + 4) (by omega)
      have hc : gA U (m + 1) (p + 4) = T.1 (p + 4) := by rw [u1.1]; exact h.1 (p + 4) (by omega)
      have st : B_X10_number_49 G m 0 mx (p : Int) (dig T p 4) U = some (U, 1, dig T p 4) := by
        unfold B_X10_number_49
        rw [u2, u3, Int.toNat_natCast, hc]
        refine E_gd ⟨by omega, by omega⟩ (E_gd ⟨by omega, by omega⟩ (E_if (fun q => by omega) (fun _ => E_gd ⟨by omega, by omega, by omega⟩ (E_bd (r_isD ⟨by omega, by omega⟩) ?_))))
        rw [if_pos hD]
        refine E_gd (by decide) (E_if (fun q => absurd q (by decide)) (fun _ => ?_))
        rw [u2]
        exact E_gd ⟨by omega, by omega⟩ (E_if (fun _ => rfl) (fun q => by omega))
      rw [lp_stop (q := (1, dig T p 4)) st Nat.one_ne_zero (by unfold FU; decide)] at e
      obtain ⟨V2, e2, k2, r2⟩ := r_fail (G := G) (T := T) u5 (k := 1) (w := ((p + 4 : Nat) : Int)) ⟨by decide, by decide⟩
      refine ⟨V2, 0, head V2 0 (E_bd e (E_if (fun _ => ?_) (fun q => absurd rfl q))), u1.trans k2, ?_, by decide, fun _ y => by omega⟩
      · show bd (F_X10_fail G m 1 (gI U m 2) U) _ = _
        rw [u2]
        exact E_bd e2 rfl
      · unfold nNu
        rw [if_neg (fun z => z k1'), if_pos l4, show (p : Int) + 4 = ((p + 4 : Nat) : Int) by omega]
        exact r2
    · obtain ⟨U, u1, u2, u3, u5, u4, e⟩ := run (lnT T p) (by omega) (Nat.le_refl _) FU (by unfold FU; decide)
      have ev' : vlT T p = dig T p (lnT T p) := by rw [ev, ← hln, Nat.min_eq_left (by omega)]
      have vr := vl_1r k1'
      have pe : p + lnT T p = ew isD T p := by omega
      rw [pe] at u2
      have st : B_X10_number_49 G m 0 mx (p : Int) (dig T p (lnT T p)) U = some (U, 2, dig T p (lnT T p)) := by
        unfold B_X10_number_49
        rw [u2, u3, Int.toNat_natCast]
        refine E_gd ⟨by omega, by omega⟩ (E_gd ⟨by omega, by omega⟩ (E_if (fun _ => rfl) (fun q => ?_)))
        have hb := hT.2 (ew isD T p) (by omega)
        have hc : gA U (m + 1) (ew isD T p) = T.1 (ew isD T p) := by rw [u1.1]; exact h.1 _ (by omega)
        rw [hc]
        refine E_gd ⟨by omega, by omega, by omega⟩ (E_bd (r_isD ⟨by omega, by omega⟩) ?_)
        rw [if_neg (sp.2.2.2 (by omega))]
        exact E_gd (by decide) (E_if (fun _ => rfl) (fun q => absurd rfl q))
      rw [lp_stop (q := (2, dig T p (lnT T p))) st (by decide : (2 : Nat) ≠ 0) (by unfold FU; omega), ← ev'] at e
      have k3 : rLk m V (sI (sI U m 4 (gI U m 2)) m 10 (p : Int)) := (u1.trans (rLk_sI (by omega))).trans (rLk_sI (by omega))
      have g2 : gI (sI (sI U m 4 (gI U m 2)) m 10 (p : Int)) m 2 = ((ew isD T p : Nat) : Int) := by rw [gI_sI, if_neg (by omega), gI_sI, if_neg (by omega)]; exact u2
      have g4 : gI (sI (sI U m 4 (gI U m 2)) m 10 (p : Int)) m 4 = ((ew isD T p : Nat) : Int) := by rw [gI_sI, if_neg (by omega), gI_sI, if_pos ⟨rfl, rfl⟩]; exact u2
      have g5 : gI (sI (sI U m 4 (gI U m 2)) m 10 (p : Int)) m 5 = 0 := by rw [gI_sI, if_neg (by omega), gI_sI, if_neg (by omega)]; exact u5
      have g10 : gI (sI (sI U m 4 (gI U m 2)) m 10 (p : Int)) m 10 = (p : Int) := by rw [gI_sI, if_pos ⟨rfl, rfl⟩]
      have rr := rA_run hA_D h k3 pl hd' rfl te g2 g4
      have ei := r_isIn (G := G) (V := sI (sI U m 4 (gI U m 2)) m 10 (p : Int)) (x := vlT T p) (a := 0) (b := mx) ⟨by omega, by omega⟩ ⟨by decide, by decide⟩ ⟨by omega, by omega⟩
      by_cases hmx : mx < vlT T p
      · rw [if_neg (by omega)] at ei
        obtain ⟨V2, e2, k2, r2⟩ := r_fail (G := G) (T := T) g5 (k := 2) (w := (p : Int)) ⟨by decide, by decide⟩
        refine ⟨V2, vlT T p, head V2 _ (E_bd e (E_if (fun q => absurd (show (2 : Nat) = 1 from q) (by decide)) (fun _ => ?_))), k3.trans k2, ?_, vr, fun _ _ => ⟨rfl, ?_⟩⟩
        · show F_X10_number_J129 G m 0 mx (p : Int) (vlT T p) U = _
          unfold F_X10_number_J129
          exact E_lt (E_lt (E_gd ⟨by omega, by omega⟩ (E_gd (by decide) (E_gd hm (E_bd ei (E_gd (by decide) (E_if (fun _ => E_bd e2 rfl) (fun q => absurd rfl q))))))))
        · unfold nNu
          rw [if_neg (fun z => z k1'), if_neg l4, if_pos hmx]
          exact r2
        · have := k2.2.2.2 m 10
          obtain ⟨V2', f2, f3, f4⟩ := r_fail (G := G) (T := T) g5 (k := 2) (w := (p : Int)) ⟨by decide, by decide⟩
          have : V2 = sI (sI (sI (sI U m 4 (gI U m 2)) m 10 (p : Int)) m 5 2) m 6 (p : Int) := by
            unfold F_X10_fail at e2
            rw [gd_p (show rg (gI (sI (sI U m 4 (gI U m 2)) m 10 (p : Int)) m 5) by rw [g5]; decide), if_pos g5] at e2
            exact (congrArg Prod.fst (Option.some.inj e2)).symm
          rw [this, gI_sI, if_neg (by omega), gI_sI, if_neg (by omega)]; exact g10
      · rw [if_pos (by omega)] at ei
        refine ⟨_, vlT T p, head _ _ (E_bd e (E_if (fun q => absurd (show (2 : Nat) = 1 from q) (by decide)) (fun _ => ?_))), k3, ?_, vr, fun _ _ => ⟨rfl, g10⟩⟩
        · show F_X10_number_J129 G m 0 mx (p : Int) (vlT T p) U = _
          unfold F_X10_number_J129
          exact E_lt (E_lt (E_gd ⟨by omega, by omega⟩ (E_gd (by decide) (E_gd hm (E_bd ei (E_gd (by decide) (E_if (fun q => absurd q (by decide)) (fun _ => rfl))))))))
        · unfold nNu
          rw [if_neg (fun z => z k1'), if_neg l4, if_neg hmx]
          exact ⟨rr, g5⟩
  · refine bad (fun z => ?_) ?_
    · obtain ⟨z1, -, z3, -⟩ := kd_1 z
      apply hd
      unfold lkc
      rw [if_pos z1]; exact z3
    · unfold F_X10_number
      refine E_gd (by rw [h0]; decide) (E_if (fun _ => E_bd e1 (E_bd (r_isD lr) ?_)) (fun q => absurd h0 q))
      rw [if_neg hd]
      exact E_gd (by decide) (E_if (fun _ => rfl) (fun q => absurd rfl q))
theorem r_num1 (h0 : gI V m 5 ≠ 0) (hr : rg (gI V m 5)) {mx : Int} : F_X10_number G m 0 mx V = some (V, 0) := by
  unfold F_X10_number
  exact E_gd hr (E_if (fun q => absurd q h0) (fun _ => rfl))
end

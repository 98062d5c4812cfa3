/-! a name (reference) -/
theorem nm27_bd {T : mT2} {p : Nat} : ∀ k, (∀ j, j < k → isL (T.1 (p + j)) = true) → 0 ≤ nm27 (ltr T p k) ∧ nm27 (ltr T p k) < ((27 ^ k : Nat) : Int) := by
  intro k
  induction k with
  | zero => intro _; exact ⟨Int.le_refl _, (by decide : (0 : Int) < ((27 ^ 0 : Nat) : Int))⟩
  | succ k ih =>
    intro h
    obtain ⟨a, b⟩ := ih (fun j hj => h j (by omega))
    have c := isL_i.mp (h k (by omega))
    have e : (27 ^ (k + 1) : Nat) = 27 ^ k * 27 := Nat.pow_succ _ _
    unfold ltr
    rw [nm27_app, e]
    omega
section
variable {G : mG} {V : mV} {m : Nat} {T : mT2} {p : Nat}
theorem r_name (hT : tOk T) (hG : is10 G m) (hw : rWd V m) (h : rA V m T p) (h0 : gI V m 5 = 0) : ∃ V' v, F_X10_name G m V = some (V', v) ∧ rLk m V V' ∧ rs10 V' m T (nNa T p) ∧ (0 ≤ v ∧ v < 387420489) ∧ (∀ q, nNa T p = .inr q → v = nm27 (ltr T p (lnT T p)) ∧ gI V' m 35 = (p : Int)) := by
  have hn := hT.1
  have pn := rA_le h
  obtain ⟨V1, e1, k1, r1, a2, a5, a4⟩ := r_look (G := G) hT h
  obtain ⟨lr, l1, l2⟩ := lkc_rg (p := p) hT
  have a5' : gI V1 m 5 = 0 := a5.trans h0
  have r3 := r1.2.1
  have r4 := r1.2.2.2.1
  have r5 := r1.2.2.2.2.1
  have r6 := r1.2.2.2.2.2
  have bad : nNa T p = .inl (1, (p : Int)) → F_X10_name G m V = F_X10_name_J37 G m V1 → ∃ V' v, F_X10_name G m V = some (V', v) ∧ rLk m V V' ∧ rs10 V' m T (nNa T p) ∧ (0 ≤ v ∧ v < 387420489) ∧ (∀ q, nNa T p = .inr q → v = nm27 (ltr T p (lnT T p)) ∧ gI V' m 35 = (p : Int)) := by
    intro hk e
    obtain ⟨V2, e2, k2, r2⟩ := r_fail (G := G) (T := T) a5' (k := 1) (w := (p : Int)) ⟨by decide, by decide⟩
    refine ⟨V2, 0, ?_, k1.trans k2, by rw [hk]; exact r2, by decide, fun q z => by rw [hk] at z; cases z⟩
    rw [e]; unfold F_X10_name_J37; rw [a2]; exact E_bd e2 rfl
  by_cases hl : isL (lkc T p) = true
  · have pl : p < T.2 := by
      by_cases z : p < T.2
      · exact z
      · unfold lkc at hl; rw [if_neg z] at hl; exact absurd hl (by decide)
    have hl' : isL (T.1 p) = true := by unfold lkc at hl; rw [if_pos pl] at hl; exact hl
    by_cases he : gI V1 m 2 = gI V1 m 4
    · have hp := r5.mp (by rw [← he]; exact a2)
      have k0 : kdT T p ≠ 0 := fun z => by
        obtain ⟨-, -, z3⟩ := kd_0 z
        rcases hp.2 with y | y
        · exact (r6 pl hp.1).1 ⟨hl', y⟩
        · exact z3 ⟨hp.1, y⟩
      refine bad (by unfold nNa; rw [if_neg (fun z => k0 z.1)]) ?_
      unfold F_X10_name
      refine E_gd (by rw [h0]; decide) (E_if (fun _ => E_bd e1 (E_bd (r_isL lr) ?_)) (fun q => absurd h0 q))
      rw [if_pos hl]
      exact E_gd (by decide) (E_if (fun q => absurd q (by decide)) (fun _ => E_gd (by rw [a2]; exact ⟨by omega, by omega⟩) (E_gd ⟨by omega, by omega⟩ (E_if (fun _ => rfl) (fun q => absurd he q)))))
    have k0 : kdT T p = 0 := by
      unfold kdT
      rw [if_neg (by omega), if_pos hl', if_neg]
      rintro ⟨z1, z2⟩
      exact he (by rw [a2, r5.mpr ⟨z1, Or.inr z2⟩])
    have own := r_own (G := G) hT hG (hw.of (fun i _ => by rw [k1.1])) r1 a5' a2
    have head : ∀ r, (if (if 0 ≤ nmT T p ∧ nmT T p < 24 then (1 : Int) else 0) = 0 then (lt (sI V1 m 35 (gI V1 m 2)) fun V22 =>
      bd (lp (fun (s : Int) V => B_X10_name_58 G m s V) FU 0 V22) fun V38 u39 =>
      if u39.1 = 1 then (bd (F_X10_fail G m 1 (gI V38 m 2) V38) fun V42 v43 =>
      some (V42, 0)) else (lt (sI V38 m 4 (gI V38 m 2)) fun V45 =>
      some (V45, u39.2))) else (F_X10_name_J37 G m V1)) = r → F_X10_name G m V = r := by
      intro r e
      unfold F_X10_name
      refine E_gd (by rw [h0]; decide) (E_if (fun _ => E_bd e1 (E_bd (r_isL lr) ?_)) (fun q => absurd h0 q))
      rw [if_pos hl]
      refine E_gd (by decide) (E_if (fun q => absurd q (by decide)) (fun _ => E_gd (by rw [a2]; exact ⟨by omega, by omega⟩) (E_gd ⟨by omega, by omega⟩ (E_if (fun q => absurd q he) (fun _ => E_bd own (E_gd ?_ e))))))
      split <;> decide
    by_cases ho : 0 ≤ nmT T p ∧ nmT T p < 24
    · refine bad (by unfold nNa; rw [if_neg (fun z => by have := z.2; omega)]) (head _ ?_)
      rw [if_pos ho, if_neg (by decide)]
    have nm : kdT T p = 0 ∧ (nmT T p = -1 ∨ 24 ≤ nmT T p) := by
      refine ⟨k0, ?_⟩
      rcases nm_rg (T := T) (p := p) with z | z
      · exact Or.inl z
      · exact Or.inr (by omega)
    have te := te_0 pl hl'
    have sp := ew_spec (A := isL) (T := T) (p := p) (by omega)
    have hln : lnT T p = ew isL T p - p := by unfold lnT; rw [te]
    have step : ∀ j, j < 6 → j < lnT T p → ∀ U : mV, rLk m V U → gI U m 2 = ((p + j : Nat) : Int) → gI U m 3 = (T.2 : Int) → gI U m 35 = (p : Int) → B_X10_name_58 G m (nm27 (ltr T p j)) U = some (sI U m 2 ((p + (j + 1) : Nat) : Int), 0, nm27 (ltr T p (j + 1))) := by
      intro j h4 hj U kU u2 u3 u35
      have hD := run_at (A := isL) (T := T) (p := p) (by omega) (j := j) (by omega)
      have hb := hT.2 (p + j) (by omega)
      have hc : gA U (m + 1) (p + j) = T.1 (p + j) := by rw [kU.1]; exact h.1 (p + j) (by omega)
      unfold B_X10_name_58
      rw [u2, u3, Int.toNat_natCast, hc]
      refine E_gd ⟨by omega, by omega⟩ (E_gd ⟨by omega, by omega⟩ (E_if (fun q => by omega) (fun _ => E_gd ⟨by omega, by omega, by omega⟩ (E_bd (r_isL ⟨by omega, by omega⟩) ?_))))
      rw [if_pos hD]
      refine E_gd (by decide) (E_if (fun q => absurd q (by decide)) (fun _ => ?_))
      rw [u2, u35, Int.toNat_natCast, hc]
      refine E_gd ⟨by omega, by omega⟩ (E_if (fun q => by omega) (fun _ => E_gd ⟨by omega, by omega, by omega⟩ (E_gd ⟨by omega, by omega⟩ (E_lt (E_lt (E_so ?_ ?_))))))
      · rw [show ((p + j : Nat) : Int) + 1 = ((p + (j + 1) : Nat) : Int) by omega]
      · refine Prod.ext rfl ?_
        show 27 * nm27 (ltr T p j) + T.1 (p + j) - 97 + 1 = nm27 (ltr T p j ++ [T.1 (p + j) - 96])
        rw [nm27_app]; omega
    have run : ∀ n, n ≤ 6 → n ≤ lnT T p → ∀ fu, 6 < fu → ∃ U, rLk m V U ∧ gI U m 2 = ((p + n : Nat) : Int) ∧ gI U m 3 = (T.2 : Int) ∧ gI U m 5 = 0 ∧ gI U m 4 = gI V m 4 ∧ gI U m 35 = (p : Int) ∧ lp (fun (s : Int) V => B_X10_name_58 G m s V) fu 0 (sI V1 m 35 (gI V1 m 2)) = lp (fun (s : Int) V => B_X10_name_58 G m s V) (fu - n) (nm27 (ltr T p n)) U := by
      intro n
      induction n with
      | zero =>
        intro _ _ fu hf
        exact ⟨sI V1 m 35 (gI V1 m 2), k1.trans (rLk_sI (by omega)), by rw [gI_sI, if_neg (by omega)]; exact a2, by rw [gI_sI, if_neg (by omega)]; exact r3, by rw [gI_sI, if_neg (by omega)]; exact a5', by rw [gI_sI, if_neg (by omega)]; exact a4, by rw [gI_sI, if_pos ⟨rfl, rfl⟩]; exact a2, rfl⟩
      | succ n ih =>
        intro h4 hl fu hf
        obtain ⟨U, u1, u2, u3, u5, u4, u35, e⟩ := ih (by omega) (by omega) fu hf
        refine ⟨sI U m 2 ((p + (n + 1) : Nat) : Int), u1.trans (rLk_sI (by omega)), by rw [gI_sI, if_pos ⟨rfl, rfl⟩], by rw [gI_sI, if_neg (by omega)]; exact u3, by rw [gI_sI, if_neg (by omega)]; exact u5, by rw [gI_sI, if_neg (by omega)]; exact u4, by rw [gI_sI, if_neg (by omega)]; exact u35, ?_⟩
        rw [e, show fu - n = (fu - (n + 1)) + 1 by omega]
        exact lp_more (step n (by omega) (by omega) U u1 u2 u3 u35)
    have head2 : ∀ r, bd (lp (fun (s : Int) V => B_X10_name_58 G m s V) FU 0 (sI V1 m 35 (gI V1 m 2))) (fun V38 u39 =>
      if u39.1 = 1 then (bd (F_X10_fail G m 1 (gI V38 m 2) V38) fun V42 v43 =>
      some (V42, 0)) else (lt (sI V38 m 4 (gI V38 m 2)) fun V45 =>
      some (V45, u39.2))) = r → F_X10_name G m V = r := by
      intro r e
      refine head r ?_
      rw [if_neg ho, if_pos rfl]
      exact e
    by_cases l6 : lnT T p ≤ 6
    · obtain ⟨U, u1, u2, u3, u5, u4, u35, e⟩ := run (lnT T p) l6 (Nat.le_refl _) FU (by unfold FU; decide)
      have pe : p + lnT T p = ew isL T p := by omega
      rw [pe] at u2
      have st : B_X10_name_58 G m (nm27 (ltr T p (lnT T p))) U = some (U, 2, nm27 (ltr T p (lnT T p))) := by
        unfold B_X10_name_58
        rw [u2, u3, Int.toNat_natCast]
        refine E_gd ⟨by omega, by omega⟩ (E_gd ⟨by omega, by omega⟩ (E_if (fun _ => rfl) (fun q => ?_)))
        have hb := hT.2 (ew isL T p) (by omega)
        have hc : gA U (m + 1) (ew isL T p) = T.1 (ew isL T p) := by rw [u1.1]; exact h.1 _ (by omega)
        rw [hc]
        refine E_gd ⟨by omega, by omega, by omega⟩ (E_bd (r_isL ⟨by omega, by omega⟩) ?_)
        rw [if_neg (sp.2.2.2 (by omega))]
        exact E_gd (by decide) (E_if (fun _ => rfl) (fun q => absurd rfl q))
      rw [lp_stop (q := (2, nm27 (ltr T p (lnT T p)))) st (by decide : (2 : Nat) ≠ 0) (by unfold FU; omega)] at e
      have k3 : rLk m V (sI U m 4 (gI U m 2)) := u1.trans (rLk_sI (by omega))
      have g2 : gI (sI U m 4 (gI U m 2)) m 2 = ((ew isL T p : Nat) : Int) := by rw [gI_sI, if_neg (by omega)]; exact u2
      have g4 : gI (sI U m 4 (gI U m 2)) m 4 = ((ew isL T p : Nat) : Int) := by rw [gI_sI, if_pos ⟨rfl, rfl⟩]; exact u2
      have nn : nNa T p = .inr (nxT T p) := by unfold nNa; rw [if_pos nm, if_pos l6]
      have bd := nm27_bd (T := T) (p := p) (lnT T p) (fun j hj => run_at (A := isL) (by omega) (by omega))
      have c : (27 ^ (lnT T p) : Nat) ≤ 27 ^ 6 := Nat.pow_le_pow_right (by decide) l6
      refine ⟨_, nm27 (ltr T p (lnT T p)), head2 _ (E_bd e (E_if (fun q => absurd (show (2 : Nat) = 1 from q) (by decide)) (fun _ => E_lt rfl))), k3, ?_, by omega, fun q _ => ⟨rfl, by rw [gI_sI, if_neg (by omega)]; exact u35⟩⟩
      rw [nn]
      exact ⟨rA_run hA_L h k3 pl hl' rfl te g2 g4, by rw [gI_sI, if_neg (by omega)]; exact u5⟩
    · obtain ⟨U, u1, u2, u3, u5, u4, u35, e⟩ := run 6 (by decide) (by omega) FU (by unfold FU; decide)
      have hD := run_at (A := isL) (T := T) (p := p) (by omega) (j := 6) (by omega)
      have hb := hT.2 (p + 6) (by omega)
      have hc : gA U (m + 1) (p + 6) = T.1 (p + 6) := by rw [u1.1]; exact h.1 (p + 6) (by omega)
      have st : B_X10_name_58 G m (nm27 (ltr T p 6)) U = some (U, 1, nm27 (ltr T p 6)) := by
        unfold B_X10_name_58
        rw [u2, u3, Int.toNat_natCast, hc]
        refine E_gd ⟨by omega, by omega⟩ (E_gd ⟨by omega, by omega⟩ (E_if (fun q => by omega) (fun _ => E_gd ⟨by omega, by omega, by omega⟩ (E_bd (r_isL ⟨by omega, by omega⟩) ?_))))
        rw [if_pos hD]
        refine E_gd (by decide) (E_if (fun q => absurd q (by decide)) (fun _ => ?_))
        rw [u2, u35]
        exact E_gd ⟨by omega, by omega⟩ (E_if (fun _ => rfl) (fun q => by omega))
      rw [lp_stop (q := (1, nm27 (ltr T p 6))) st Nat.one_ne_zero (by unfold FU; decide)] at e
      obtain ⟨V2, e2, k2, r2⟩ := r_fail (G := G) (T := T) u5 (k := 1) (w := ((p + 6 : Nat) : Int)) ⟨by decide, by decide⟩
      have nn : nNa T p = .inl (1, (p : Int) + 6) := by unfold nNa; rw [if_pos nm, if_neg l6]
      refine ⟨V2, 0, head2 _ (E_bd e (E_if (fun _ => ?_) (fun q => absurd rfl q))), u1.trans k2, ?_, by decide, fun q z => by rw [nn] at z; cases z⟩
      · show bd (F_X10_fail G m 1 (gI U m 2) U) _ = _
        rw [u2]
        exact E_bd e2 rfl
      · rw [nn, show (p : Int) + 6 = ((p + 6 : Nat) : Int) by omega]
        exact r2
  · have k0 : kdT T p ≠ 0 := fun z => by
      obtain ⟨z1, z2, -⟩ := kd_0 z
      apply hl
      unfold lkc
      rw [if_pos z1]; exact z2
    refine bad (by unfold nNa; rw [if_neg (fun z => k0 z.1)]) ?_
    unfold F_X10_name
    refine E_gd (by rw [h0]; decide) (E_if (fun _ => E_bd e1 (E_bd (r_isL lr) ?_)) (fun q => absurd h0 q))
    rw [if_neg hl]
    exact E_gd (by decide) (E_if (fun _ => rfl) (fun q => absurd rfl q))
theorem r_name1 (h0 : gI V m 5 ≠ 0) (hr : rg (gI V m 5)) : F_X10_name G m V = some (V, 0) := by
  unfold F_X10_name
  exact E_gd hr (E_if (fun q => absurd q h0) (fun _ => rfl))
end

/-! a question read (class) -/
section
variable {G : mG} {V : mV} {r : Nat} {T : mT2} {n z : Nat}
theorem cq_bad {e : Int × Int} (hG : is6 G r) (h : rs6 V r T (.inl e)) : F_X6_readQuestion_J134 r (n, z, G, V) = some ((n, z, G, V), 0) := by
  obtain ⟨⟨p, hp⟩, w1, w2, w3, w4⟩ := h
  have h0 : gI V r 11 ≠ 0 := by rw [w1]; exact w4
  have hr : rg (gI V r 11) := by rw [w1]; exact w3
  unfold F_X6_readQuestion_J134
  exact E_gd hG (E_bd (k6_kd hG hp) (E_gd kd_r (E_if (fun _ => rfl) (fun _ => E_bd (k6_here hG hp) (E_bd (k6_fail1 h0 hr) rfl)))))
theorem cq_end {p : Nat} (hG : is6 G r) (hp : cA V r T p) (h0 : gI V r 11 = 0) : ∃ V', F_X6_readQuestion_J134 r (n, z, G, V) = some ((n, z, G, V'), 0) ∧ f6 r V V' ∧ (if kdT T p = 3 then V' = V else rs6 V' r T (.inl (1, (p : Int)))) := by
  by_cases c : kdT T p = 3
  · refine ⟨V, ?_, f6_refl, by rw [if_pos c]⟩
    unfold F_X6_readQuestion_J134
    exact E_gd hG (E_bd (k6_kd hG hp) (E_gd kd_r (E_if (fun _ => rfl) (fun q => absurd (show ((kdT T p : Nat) : Int) = 3 by omega) q))))
  · obtain ⟨V1, e1, k1, r1, -⟩ := k6_fail hp h0 (k := 1) (w := (p : Int)) ⟨⟨by decide, by decide⟩, by decide⟩
    refine ⟨V1, ?_, k1, by rw [if_neg c]; exact r1⟩
    unfold F_X6_readQuestion_J134
    exact E_gd hG (E_bd (k6_kd hG hp) (E_gd kd_r (E_if (fun q => absurd (show kdT T p = 3 by omega) c) (fun _ => E_bd (k6_here hG hp) (E_bd e1 rfl)))))
/-- what the class has of a question -/
def cQa (G : mG) (V : mV) (r : Nat) (T : mT2) (y : (Int × Int) ⊕ (Int × List Int)) : Prop := match y with
  | .inl e => rs6 V r T (.inl e) ∧ rz G V (r + 14)
  | .inr y => gI V r 11 = 0 ∧ (∃ p, cA V r T p) ∧ vF V (r + 13) y.2 ∧ gI V r 10 = y.1 + 24
/-- a kind told: its codes, the end -/
theorem cq_read (hG : is6 G r) (hT : tOk T) (e7 : gR G r 7 = r + 13) {p w : Nat} (hp : cA V r T p) (h0 : gI V r 11 = 0) (hF : vF V (r + 13) []) (hJ : gJ V r 8 = msk 3) {x : Int} (hx : (x = 0 ∧ w = 3) ∨ (x = 1 ∧ w = 0)) (h10 : gI V r 10 = nmT T (bsk T 0)) :
    ∃ V', F_X6_readQuestion_J113 r x (n, z, G, V) = some ((n, z, G, V'), 0) ∧ fr (fun i => i = r ∨ i = r + 14 ∨ i = r + 15) V V' ∧ cQa G V' r T (match rd (kT 3 T) 64 w 0 (nxT T p) with
    | .inl e => .inl e
    | .inr y => if kdT T y.2 = 3 then .inr (nmT T (bsk T 0) - 24, y.1) else .inl (1, (y.2 : Int))) := by
  have ho : oR G r := by unfold oR; rw [e7]; omega
  have w5 : w ≤ 5 := by omega
  obtain ⟨V1, e1, k1, r1⟩ := k6_take hG hp h0
  have pn := cA_le hp
  have np : p ≤ nxT T p := (nx_le pn).1
  have c0 : cF G V r T 3 p [] := ⟨hp, h0, by rw [e7]; exact hF, Nat.zero_le _, hJ⟩
  have c1 : cF G V1 r T 3 (nxT T p) [] := c0.nx6 ho k1 np r1
  obtain ⟨V2, v, e2, ⟨k2, k3⟩, q2⟩ := (FR_ok (md := 3) hG hT ho (by decide) 64).1 w 0 w5 (by decide) (by unfold need8; omega) V1 (nxT T p) [] c1
  rw [e7] at k2
  have kk : fr (fun i => i = r ∨ i = r + 14 ∨ i = r + 15) V V2 := (k1.1.mono (fun i q => Or.inl q)).trans (k2.mono (fun i q => by omega))
  have h102 : gI V2 r 10 = nmT T (bsk T 0) := by rw [k3, k1.2]; exact h10
  have top : ∀ {V3 : mV}, F_X6_readQuestion_J134 r (n, z, G, V2) = some ((n, z, G, V3), 0) → F_X6_readQuestion_J113 r x (n, z, G, V) = some ((n, z, G, V3), 0) := by
    intro V3 e3
    unfold F_X6_readQuestion_J113
    rcases hx with ⟨rfl, rfl⟩ | ⟨rfl, rfl⟩
    · exact E_gd hG (E_bd e1 (E_gd (⟨by decide, by decide⟩ : rg (0 : Int)) (E_if (fun _ => E_bd e2 e3) (fun q => absurd rfl q))))
    · exact E_gd hG (E_bd e1 (E_gd (⟨by decide, by decide⟩ : rg (1 : Int)) (E_if (fun q => absurd q (by decide)) (fun _ => E_bd e2 e3))))
  cases e : rd (kT 3 T) 64 w 0 (nxT T p) with
  | inl e0 =>
    rw [e] at q2
    obtain ⟨x1, x2, x3⟩ := q2
    rw [e7] at x2
    exact ⟨V2, top (cq_bad hG x1), kk, x1, x2⟩
  | inr y =>
    rw [e] at q2
    obtain ⟨c, q⟩ := y
    obtain ⟨y1, y2, y3, y4, y5⟩ := q2
    rw [e7, List.nil_append] at y3
    have y1' : cA V2 r T q := y1
    obtain ⟨V3, e3, k4, f3⟩ := cq_end (n := n) (z := z) hG y1' y2
    refine ⟨V3, top e3, kk.trans (k4.1.mono (fun i q => Or.inl q)), ?_⟩
    show cQa G V3 r T (if kdT T q = 3 then .inr (nmT T (bsk T 0) - 24, c) else .inl (1, (q : Int)))
    by_cases d : kdT T q = 3
    · rw [if_pos d] at f3 ⊢
      rw [f3]
      exact ⟨y2, ⟨_, y1⟩, y3, by rw [h102]; show nmT T (bsk T 0) = nmT T (bsk T 0) - 24 + 24; omega⟩
    · rw [if_neg d] at f3 ⊢
      refine ⟨f3, ?_⟩
      have z2 : rz G V2 (r + 14) := rw_rz (s3_0c (s6_9s hG)) y3.1 ⟨by omega, by have := y3.2.1; omega⟩
      exact z2.fr k4.1 (by omega)
/-- a question -/
theorem c_quest (hG : is6 G r) (hT : tOk T) (hz : rz G V (r + 14)) (h64 : gI V (r + 16) 1 = 64) (hs : rs6 V r T (.inr (bsk T 0))) :
    ∃ G' V', F_X6_readQuestion r (n, z, G, V) = some ((n, z, G', V'), 0) ∧ G' = sR G r 7 (.ref (r + 13)) ∧ is6 G' r ∧ frj r (fun i => i = r ∨ i = r + 14 ∨ i = r + 15) V V' ∧ cQa G' V' r T (aQu T) := by
  have h3 : is3 G (r + 13) := s6_9s hG
  obtain ⟨G', hG'⟩ : ∃ G', G' = sR G r 7 (.ref (r + 13)) := ⟨_, rfl⟩
  have h6 : is6 G' r := by rw [hG']; exact is6_7 (x := r + 1) hG h3 (by omega)
  have e7 : gR G' r 7 = r + 13 := by rw [hG']; exact gR_7
  have h3' : is3 G' (r + 13) := s6_9s h6
  obtain ⟨hp, h0⟩ := hs
  have ew := k6_word hG hp
  obtain ⟨V5, hV5⟩ : ∃ V5, V5 = sI V r 10 (nmT T (bsk T 0)) := ⟨_, rfl⟩
  have k5 : fr (fun i => i = r) V V5 := by rw [hV5]; exact fr_sI rfl
  have g5 : ∀ k, k ≠ 10 → gI V5 r k = gI V r k := fun k hk => by rw [hV5, gI_sI, if_neg (by omega)]
  have g10 : gI V5 r 10 = nmT T (bsk T 0) := by rw [hV5, gI_sI, if_pos ⟨rfl, rfl⟩]
  have hz5 : rz G' V5 (r + 14) := by
    unfold rz at hz ⊢
    rw [k5.I (by omega)]
    rw [hG']
    exact hz
  obtain ⟨V8, e8, k8, f8⟩ := rw_cut0 (G := G') (r := r + 13 + 1) (f := fun _ => 0) (s3_0s h3') hz5
  obtain ⟨V11, hV11⟩ : ∃ V11, V11 = sJ V8 r 8 7516205056 := ⟨_, rfl⟩
  have k58 : fr (fun i => i = r ∨ i = r + 14 ∨ i = r + 15) V V8 := (k5.mono (fun i q => Or.inl q)).trans (k8.mono (fun i q => by omega))
  have k11 : frj r (fun i => i = r ∨ i = r + 14 ∨ i = r + 15) V V11 := by
    rw [hV11]; exact k58.j.trans frj_sJ
  have gI11 : gI V11 = gI V8 := by rw [hV11]; rfl
  have gA11 : gA V11 = gA V8 := by rw [hV11]; rfl
  have vf : vF V11 (r + 13) [] := by
    refine ⟨by rw [gI11]; exact f8.1, Nat.zero_le _, trivial, ?_⟩
    rw [gI11, k58.I (by omega)]; exact h64
  have hj : gJ V11 r 8 = msk 3 := by
    rw [hV11]
    show u2 (gJ V8) r 8 _ r 8 = _
    unfold u2
    rw [if_pos ⟨rfl, rfl⟩]; rfl
  have i11 : ∀ k, gI V11 r k = gI V5 r k := fun k => by rw [gI11, k8.I (by omega)]
  have hp11 : cA V11 r T (bsk T 0) := by
    have k' : fr (fun i => i = r ∨ i = r + 14 ∨ i = r + 15) V (V11.1, V.2.1, V11.2.2) := k11.to
    have a : cA (V11.1, V.2.1, V11.2.2) r T (bsk T 0) := hp.fr k' (fun i q0 q1 => by omega) (by show gI V11 r 6 = gI V r 6; rw [i11, g5 6 (by decide)])
    exact a
  have h011 : gI V11 r 11 = 0 := by rw [i11, g5 11 (by decide)]; exact h0
  have h1011 : gI V11 r 10 = nmT T (bsk T 0) := by rw [i11]; exact g10
  have top : ∀ {R : Option (mW × Int)}, ((gd (rg (gI V11 r 10)) <|
  if (gI V11 r 10) = 24 then (F_X6_readQuestion_J57 r (n, z, G', V11)) else (if (gI V11 r 10) = 25 then (F_X6_readQuestion_J57 r (n, z, G', V11)) else (if (gI V11 r 10) = 26 then (F_X6_readQuestion_J57 r (n, z, G', V11)) else (F_X6_readQuestion_J62 r 0 (n, z, G', V11))))) = R) → F_X6_readQuestion r (n, z, G, V) = R := by
    intro R hR
    unfold F_X6_readQuestion
    refine E_gd hG (E_bd ew (E_lt (E_lt ?_)))
    rw [← hV5, ← hG', e7]
    refine E_gd h6 (E_bd (show F_X3_clear G' (r + 13) V5 = some (V8, 0) by unfold F_X3_clear; exact E_bd e8 rfl) (E_lt ?_))
    rw [← hV11]
    exact hR
  have nr := nm_rg (T := T) (p := bsk T 0)
  have rgw : rg (gI V11 r 10) := by rw [h1011]; exact ⟨by omega, by omega⟩
  have j95 : ∀ {s : Int} {R : Option (mW × Int)}, rg s → s ≠ 0 → F_X6_readQuestion_J113 r 0 (n, z, G', V11) = R → F_X6_readQuestion_J95 r 0 s (n, z, G', V11) = R := by
    intro s R hs h hR
    unfold F_X6_readQuestion_J95
    exact E_gd h6 (E_gd (⟨by decide, by decide⟩ : rg (0 : Int)) (E_if (fun _ => E_gd hs (E_if (fun q => absurd q h) (fun _ => hR))) (fun q => absurd rfl q)))
  unfold aQu
  by_cases c : 24 ≤ nmT T (bsk T 0) ∧ nmT T (bsk T 0) ≤ 29
  · rw [if_pos c]
    by_cases c2 : nmT T (bsk T 0) ≤ 26
    · rw [if_pos c2]
      obtain ⟨V', e', k', q'⟩ := cq_read (n := n) (z := z) (w := 0) (x := 1) h6 hT e7 hp11 h011 vf hj (Or.inr ⟨rfl, rfl⟩) h1011
      refine ⟨G', V', top (E_gd rgw ?_), hG', h6, k11.trans k'.j, q'⟩
      have j57 : F_X6_readQuestion_J57 r (n, z, G', V11) = some ((n, z, G', V'), 0) := by
        unfold F_X6_readQuestion_J57
        refine E_gd h6 ?_
        unfold F_X6_readQuestion_J62
        refine E_gd h6 (E_gd rgw (E_if (fun q => absurd (h1011.symm.trans q) (by omega)) (fun _ => E_if (fun q => absurd (h1011.symm.trans q) (by omega)) (fun _ => E_if (fun q => absurd (h1011.symm.trans q) (by omega)) (fun _ => ?_)))))
        unfold F_X6_readQuestion_J95
        exact E_gd h6 (E_gd (⟨by decide, by decide⟩ : rg (1 : Int)) (E_if (fun q => absurd q (by decide)) (fun _ => e')))
      refine E_if (fun _ => j57) (fun q1 => E_if (fun _ => j57) (fun q2 => E_if (fun _ => j57) (fun q3 => ?_)))
      rw [h1011] at q1 q2 q3
      exact absurd (show nmT T (bsk T 0) = 26 by omega) q3
    · rw [if_neg c2]
      obtain ⟨V', e', k', q'⟩ := cq_read (n := n) (z := z) (w := 3) (x := 0) h6 hT e7 hp11 h011 vf hj (Or.inl ⟨rfl, rfl⟩) h1011
      refine ⟨G', V', top (E_gd rgw (E_if (fun q => absurd (h1011.symm.trans q) (by omega)) (fun _ => E_if (fun q => absurd (h1011.symm.trans q) (by omega)) (fun _ => E_if (fun q => absurd (h1011.symm.trans q) (by omega)) (fun _ => ?_))))), hG', h6, k11.trans k'.j, q'⟩
      have j90 : F_X6_readQuestion_J90 r 0 (n, z, G', V11) = some ((n, z, G', V'), 0) := by
        unfold F_X6_readQuestion_J90
        exact E_gd h6 (j95 ⟨by decide, by decide⟩ (by decide) e')
      unfold F_X6_readQuestion_J62
      refine E_gd h6 (E_gd rgw (E_if (fun _ => j90) (fun q1 => E_if (fun _ => j90) (fun q2 => E_if (fun _ => j90) (fun q3 => ?_)))))
      have q1' : ¬ gI V11 r 10 = 27 := q1
      have q2' : ¬ gI V11 r 10 = 28 := q2
      have q3' : ¬ gI V11 r 10 = 29 := q3
      rw [h1011] at q1' q2' q3'
      exact absurd (show nmT T (bsk T 0) = 29 by omega) q3'
  · rw [if_neg c]
    obtain ⟨V1, e1, k1, r1, hp1⟩ := k6_fail hp11 h011 (k := 1) (w := ((bsk T 0 : Nat) : Int)) ⟨⟨by decide, by decide⟩, by decide⟩
    have e11 : gI V1 r 11 = 1 := r1.2.1
    have b0 : gI V1 r 11 ≠ 0 := by rw [e11]; decide
    have br : rg (gI V1 r 11) := by rw [e11]; exact ⟨by decide, by decide⟩
    refine ⟨G', V1, top (E_gd rgw (E_if (fun q => absurd (h1011.symm.trans q) (by omega)) (fun _ => E_if (fun q => absurd (h1011.symm.trans q) (by omega)) (fun _ => E_if (fun q => absurd (h1011.symm.trans q) (by omega)) (fun _ => ?_))))), hG', h6, k11.trans (k1.1.mono (fun i q => Or.inl q)).j, r1, ?_⟩
    · have j113 : F_X6_readQuestion_J113 r 0 (n, z, G', V1) = some ((n, z, G', V1), 0) := by
        unfold F_X6_readQuestion_J113
        exact E_gd h6 (E_bd (k6_take1 b0 br) (E_gd (⟨by decide, by decide⟩ : rg (0 : Int)) (E_if (fun _ => E_bd (FR_bad b0 br 64 3 0 0 (by decide) (by decide)) (cq_bad h6 r1)) (fun q => absurd rfl q))))
      have j95' : F_X6_readQuestion_J95 r 0 0 (n, z, G', V11) = some ((n, z, G', V1), 0) := by
        unfold F_X6_readQuestion_J95
        exact E_gd h6 (E_gd (⟨by decide, by decide⟩ : rg (0 : Int)) (E_if (fun _ => E_gd (⟨by decide, by decide⟩ : rg (0 : Int)) (E_if (fun _ => E_bd (k6_here h6 hp11) (E_bd e1 j113)) (fun q => absurd rfl q))) (fun q => absurd rfl q)))
      unfold F_X6_readQuestion_J62
      exact E_gd h6 (E_gd rgw (E_if (fun q => absurd (h1011.symm.trans q) (by omega)) (fun _ => E_if (fun q => absurd (h1011.symm.trans q) (by omega)) (fun _ => E_if (fun q => absurd (h1011.symm.trans q) (by omega)) (fun _ => j95')))))
    · have z8 : rz G' V11 (r + 14) := rw_rz (s3_0c h3') (show gI V11 (r + 14) 1 = 0 by rw [gI11]; exact f8.1) ⟨by decide, by omega⟩
      exact z8.fr k1.1 (by omega)
end

/-! the next token (class): what is taken, what fails -/
/-- a reader: a fault, or where it stands -/
def rs6 (V : mV) (r : Nat) (T : mT2) (x : (Int × Int) ⊕ Nat) : Prop := match x with
  | .inl e => (∃ p, cA V r T p) ∧ gI V r 11 = e.1 ∧ gI V r 12 = e.2 ∧ rg e.1 ∧ e.1 ≠ 0
  | .inr q => cA V r T q ∧ gI V r 11 = 0
def f6 (r : Nat) (V V' : mV) : Prop := fr (fun i => i = r) V V' ∧ gI V' r 10 = gI V r 10
theorem f6_refl {r : Nat} {V : mV} : f6 r V V := ⟨fr_refl, rfl⟩
theorem f6.trans {r : Nat} {V V1 V2 : mV} (h : f6 r V V1) (k : f6 r V1 V2) : f6 r V V2 := ⟨h.1.trans k.1, k.2.trans h.2⟩
section
variable {G : mG} {V : mV} {r : Nat} {T : mT2} {p : Nat}
theorem cA_le (h : cA V r T p) : p ≤ T.2 := by
  obtain ⟨cnt, i, -, -, -, -, -, e⟩ := h
  rw [← e]; exact pT_le i
theorem cA_at (h : cA V r T p) : rg (gI V r 6) ∧ 0 ≤ gI V r 6 ∧ gI V r 6 ≤ 1600 := by
  obtain ⟨cnt, i, -, -, c, e, ie, -⟩ := h
  rw [e]; exact ⟨⟨by omega, by omega⟩, by omega, by omega⟩
theorem cA.fr {S : Nat → Prop} {V1 : mV} (h : cA V r T p) (k : fr S V V1) (hS : ∀ i, r + 1 ≤ i → i ≤ r + 10 → ¬ S i) (h6 : gI V1 r 6 = gI V r 6) : cA V1 r T p := by
  obtain ⟨cnt, i, t, a, c, e, ie, b⟩ := h
  exact ⟨cnt, i, t.fr k hS, a, c, by rw [h6]; exact e, ie, b⟩
theorem k6_kd (hG : is6 G r) (h : cA V r T p) : F_X7_get G (r + 1) (gI V r 6) V = some (V, ((kdT T p : Nat) : Int)) := by
  obtain ⟨cnt, i, t, -, c, e, ie, ep⟩ := h
  rw [e, rw_get (s6_0s hG) (s6_0c hG) t.1 (by omega) ⟨by omega, by omega⟩]
  show some (V, ((kdT T (pT T ((i : Int)).toNat) : Nat) : Int)) = _
  rw [Int.toNat_natCast, ep]
theorem k6_st (hG : is6 G r) (h : cA V r T p) : F_X7_get G (r + 3) (gI V r 6) V = some (V, (p : Int)) := by
  obtain ⟨cnt, i, t, -, c, e, ie, ep⟩ := h
  rw [e, rw_get (s6_1s hG) (s6_1c hG) t.2.1 (by omega) ⟨by omega, by omega⟩]
  show some (V, ((pT T ((i : Int)).toNat : Nat) : Int)) = _
  rw [Int.toNat_natCast, ep]
theorem k6_ln (hG : is6 G r) (h : cA V r T p) : F_X7_get G (r + 5) (gI V r 6) V = some (V, ((lnT T p : Nat) : Int)) := by
  obtain ⟨cnt, i, t, -, c, e, ie, ep⟩ := h
  rw [e, rw_get (s6_2s hG) (s6_2c hG) t.2.2.1 (by omega) ⟨by omega, by omega⟩]
  show some (V, ((lnT T (pT T ((i : Int)).toNat) : Nat) : Int)) = _
  rw [Int.toNat_natCast, ep]
theorem k6_vl (hG : is6 G r) (h : cA V r T p) : F_X7_get G (r + 7) (gI V r 6) V = some (V, vlT T p) := by
  obtain ⟨cnt, i, t, -, c, e, ie, ep⟩ := h
  rw [e, rw_get (s6_3s hG) (s6_3c hG) t.2.2.2.1 (by omega) ⟨by omega, by omega⟩]
  show some (V, vlT T (pT T ((i : Int)).toNat)) = _
  rw [Int.toNat_natCast, ep]
theorem k6_nm (hG : is6 G r) (h : cA V r T p) : F_X7_get G (r + 9) (gI V r 6) V = some (V, nmT T p) := by
  obtain ⟨cnt, i, t, -, c, e, ie, ep⟩ := h
  rw [e, rw_get (s6_4s hG) (s6_4c hG) t.2.2.2.2 (by omega) ⟨by omega, by omega⟩]
  show some (V, nmT T (pT T ((i : Int)).toNat)) = _
  rw [Int.toNat_natCast, ep]
theorem k6_here (hG : is6 G r) (h : cA V r T p) : F_X6_here G r V = some (V, (p : Int)) := by
  unfold F_X6_here; exact E_bd (k6_st hG h) rfl
theorem k6_word (hG : is6 G r) (h : cA V r T p) : F_X6_word G r V = some (V, nmT T p) := by
  unfold F_X6_word; exact E_bd (k6_nm hG h) rfl
theorem k6_fine (h0 : gI V r 11 = 0) : F_X6_fine G r V = some (V, 1) := by
  unfold F_X6_fine; exact E_gd (by rw [h0]; decide) (E_if (fun _ => rfl) (fun q => absurd h0 q))
theorem k6_bad (h0 : gI V r 11 ≠ 0) (hr : rg (gI V r 11)) : F_X6_fine G r V = some (V, 0) := by
  unfold F_X6_fine; exact E_gd hr (E_if (fun q => absurd q h0) (fun _ => rfl))
theorem nmT_r : rg (nmT T p) := by
  rcases nm_rg (T := T) (p := p) with q | ⟨a, b, -⟩
  · rw [q]; decide
  · exact ⟨by omega, by omega⟩
theorem kd_r : rg ((kdT T p : Nat) : Int) := by have := kd_4 (T := T) (p := p); exact ⟨by omega, by omega⟩
/-- a fault told -/
theorem k6_fail (h : cA V r T p) (h0 : gI V r 11 = 0) {k w : Int} (hk : rg k ∧ k ≠ 0) : ∃ V', F_X6_fail G r k w V = some (V', 0) ∧ f6 r V V' ∧ rs6 V' r T (.inl (k, w)) ∧ cA V' r T p := by
  have k1 : fr (fun i => i = r) V (sI (sI V r 11 k) r 12 w) := (fr_sI (S := fun i => i = r) rfl).trans (fr_sI (S := fun i => i = r) rfl)
  have g6 : gI (sI (sI V r 11 k) r 12 w) r 6 = gI V r 6 := by rw [gI_sI, if_neg (by omega), gI_sI, if_neg (by omega)]
  have c' := h.fr k1 (fun i a b => by omega) g6
  refine ⟨_, ?_, ⟨k1, ?_⟩, ⟨⟨p, c'⟩, ?_, ?_, hk.1, hk.2⟩, c'⟩
  · unfold F_X6_fail
    exact E_gd (by rw [h0]; decide) (E_if (fun _ => E_lt (E_lt rfl)) (fun q => absurd h0 q))
  · rw [gI_sI, if_neg (by omega), gI_sI, if_neg (by omega)]
  · rw [gI_sI, if_neg (by omega), gI_sI, if_pos ⟨rfl, rfl⟩]
  · rw [gI_sI, if_pos ⟨rfl, rfl⟩]
theorem k6_fail1 (h0 : gI V r 11 ≠ 0) (hr : rg (gI V r 11)) {k w : Int} : F_X6_fail G r k w V = some (V, 0) := by
  unfold F_X6_fail; exact E_gd hr (E_if (fun q => absurd q h0) (fun _ => rfl))
theorem k6_take (hG : is6 G r) (h : cA V r T p) (h0 : gI V r 11 = 0) : ∃ V', F_X6_take G r V = some (V', 0) ∧ f6 r V V' ∧ rs6 V' r T (.inr (nxT T p)) := by
  have hk := k6_kd hG h
  by_cases hp : p < T.2
  · obtain ⟨cnt, i, t, a, c, e, ie, b⟩ := h
    have ne : i ≠ cnt := by intro q; rw [q, a] at b; omega
    have k1 : fr (fun i => i = r) V (sI V r 6 (gI V r 6 + 1)) := fr_sI rfl
    refine ⟨sI V r 6 (gI V r 6 + 1), ?_, ⟨k1, by rw [gI_sI, if_neg (by omega)]⟩, ⟨⟨cnt, i + 1, t.fr k1 (fun i a b => by omega), a, c, ?_, by omega, by show nxT T (pT T i) = _; rw [b]⟩, by rw [gI_sI, if_neg (by omega)]; exact h0⟩⟩
    · unfold F_X6_take
      refine E_bd (k6_fine h0) (E_gd (by decide) (E_if (fun q => absurd q (by decide)) (fun _ => E_bd hk (E_gd kd_r (E_if (fun q => ?_) (fun _ => E_lt rfl))))))
      have := kd_out.mp (show kdT T p = 3 by omega)
      omega
    · rw [gI_sI, if_pos ⟨rfl, rfl⟩, e]; omega
  · refine ⟨V, ?_, f6_refl, ⟨by rw [nxT_out (by omega)]; exact h, h0⟩⟩
    have k3 : kdT T p = 3 := kd_out.mpr (by omega)
    unfold F_X6_take
    exact E_bd (k6_fine h0) (E_gd (by decide) (E_if (fun q => absurd q (by decide)) (fun _ => E_bd hk (E_gd kd_r (E_if (fun q => rfl) (fun q => absurd (by rw [k3]; rfl) q))))))
theorem k6_take1 (h0 : gI V r 11 ≠ 0) (hr : rg (gI V r 11)) : F_X6_take G r V = some (V, 0) := by
  unfold F_X6_take; exact E_bd (k6_bad h0 hr) (E_gd (by decide) (E_if (fun _ => rfl) (fun q => absurd rfl q)))
theorem k6_sign (hG : is6 G r) (hT : tOk T) (h : cA V r T p) (h0 : gI V r 11 = 0) {s : Int} (hs : rg s) : F_X6_isSign G r s V = some (V, if kdT T p = 2 ∧ T.1 p = s then 1 else 0) := by
  have vr := vl_rg (p := p) hT
  unfold F_X6_isSign
  refine E_bd (k6_fine h0) (E_gd (by decide) (E_if (fun q => absurd q (by decide)) (fun _ => E_bd (k6_kd hG h) (E_gd kd_r (E_if (fun q => ?_) (fun q => ?_))))))
  · have k2 : kdT T p = 2 := by omega
    have ev := vl_2 k2
    refine E_bd (k6_vl hG h) (E_gd ⟨by omega, by omega⟩ (E_gd hs (E_if (fun q2 => E_so rfl ?_) (fun q2 => E_so rfl ?_))))
    · rw [if_pos ⟨k2, by rw [← ev]; exact q2⟩]
    · rw [if_neg (fun w => q2 (by rw [ev]; exact w.2))]
  · refine E_so rfl ?_
    rw [if_neg (fun w => q (by rw [w.1]; rfl))]
theorem k6_sign1 (h0 : gI V r 11 ≠ 0) (hr : rg (gI V r 11)) {s : Int} : F_X6_isSign G r s V = some (V, 0) := by
  unfold F_X6_isSign; exact E_bd (k6_bad h0 hr) (E_gd (by decide) (E_if (fun _ => rfl) (fun q => absurd rfl q)))
theorem k6_isw (hG : is6 G r) (h : cA V r T p) (h0 : gI V r 11 = 0) {w : Int} (hw : rg w) : F_X6_isWord G r w V = some (V, if nmT T p = w then 1 else 0) := by
  unfold F_X6_isWord
  refine E_bd (k6_fine h0) (E_gd (by decide) (E_if (fun q => absurd q (by decide)) (fun _ => E_bd (k6_word hG h) (E_gd nmT_r (E_gd hw (E_if (fun q => E_so rfl ?_) (fun q => E_so rfl ?_)))))))
  · rw [if_pos q]
  · rw [if_neg q]
theorem k6_isw1 (h0 : gI V r 11 ≠ 0) (hr : rg (gI V r 11)) {w : Int} : F_X6_isWord G r w V = some (V, 0) := by
  unfold F_X6_isWord; exact E_bd (k6_bad h0 hr) (E_gd (by decide) (E_if (fun _ => rfl) (fun q => absurd rfl q)))
/-- a sign that must stand there -/
def nSg (T : mT2) (s : Int) (p : Nat) : (Int × Int) ⊕ Nat := if kdT T p = 2 ∧ T.1 p = s then .inr (nxT T p) else .inl (1, (p : Int))
theorem k6_tSg (hG : is6 G r) (hT : tOk T) (h : cA V r T p) (h0 : gI V r 11 = 0) {s : Int} (hs : rg s) : ∃ V', F_X6_takeSign G r s V = some (V', 0) ∧ f6 r V V' ∧ rs6 V' r T (nSg T s p) := by
  have e := k6_sign hG hT h h0 hs
  unfold nSg
  by_cases c : kdT T p = 2 ∧ T.1 p = s
  · rw [if_pos c] at e ⊢
    obtain ⟨V', e1, e2, e3⟩ := k6_take hG h h0
    refine ⟨V', ?_, e2, e3⟩
    unfold F_X6_takeSign
    exact E_bd e (E_gd (by decide) (E_if (fun q => absurd q (by decide)) (fun _ => E_bd e1 rfl)))
  · rw [if_neg c] at e ⊢
    obtain ⟨V', e1, e2, e3, -⟩ := k6_fail (G := G) h h0 (k := 1) (w := (p : Int)) ⟨by decide, by decide⟩
    refine ⟨V', ?_, e2, e3⟩
    unfold F_X6_takeSign
    exact E_bd e (E_gd (by decide) (E_if (fun _ => E_bd (k6_here hG h) (E_bd e1 rfl)) (fun q => absurd rfl q)))
theorem k6_tSg1 (hG : is6 G r) (h : cA V r T p) (h0 : gI V r 11 ≠ 0) (hr : rg (gI V r 11)) {s : Int} : F_X6_takeSign G r s V = some (V, 0) := by
  unfold F_X6_takeSign; exact E_bd (k6_sign1 h0 hr) (E_gd (by decide) (E_if (fun _ => E_bd (k6_here hG h) (E_bd (k6_fail1 h0 hr) rfl)) (fun q => absurd rfl q)))
/-- a word that must stand there -/
def nWd (T : mT2) (w : Int) (p : Nat) : (Int × Int) ⊕ Nat := if nmT T p = w then .inr (nxT T p) else .inl (1, (p : Int))
theorem k6_tWd (hG : is6 G r) (h : cA V r T p) (h0 : gI V r 11 = 0) {w : Int} (hw : rg w) : ∃ V', F_X6_takeWord G r w V = some (V', 0) ∧ f6 r V V' ∧ rs6 V' r T (nWd T w p) := by
  have e := k6_isw hG h h0 hw
  unfold nWd
  by_cases c : nmT T p = w
  · rw [if_pos c] at e ⊢
    obtain ⟨V', e1, e2, e3⟩ := k6_take hG h h0
    refine ⟨V', ?_, e2, e3⟩
    unfold F_X6_takeWord
    exact E_bd e (E_gd (by decide) (E_if (fun q => absurd q (by decide)) (fun _ => E_bd e1 rfl)))
  · rw [if_neg c] at e ⊢
    obtain ⟨V', e1, e2, e3, -⟩ := k6_fail (G := G) h h0 (k := 1) (w := (p : Int)) ⟨by decide, by decide⟩
    refine ⟨V', ?_, e2, e3⟩
    unfold F_X6_takeWord
    exact E_bd e (E_gd (by decide) (E_if (fun _ => E_bd (k6_here hG h) (E_bd e1 rfl)) (fun q => absurd rfl q)))
theorem k6_tWd1 (hG : is6 G r) (h : cA V r T p) (h0 : gI V r 11 ≠ 0) (hr : rg (gI V r 11)) {w : Int} : F_X6_takeWord G r w V = some (V, 0) := by
  unfold F_X6_takeWord; exact E_bd (k6_isw1 h0 hr) (E_gd (by decide) (E_if (fun _ => E_bd (k6_here hG h) (E_bd (k6_fail1 h0 hr) rfl)) (fun q => absurd rfl q)))
/-- what opens -/
def nOp (T : mT2) (o p : Nat) : (Int × Int) ⊕ Nat := if 6 ≤ o then .inl (4, (p : Int)) else .inr (nxT T p)
theorem k6_tOp (hG : is6 G r) (h : cA V r T p) (h0 : gI V r 11 = 0) {o : Nat} (ho : o ≤ 7) : ∃ V', F_X6_takeOpening G r (o : Int) V = some (V', 0) ∧ f6 r V V' ∧ rs6 V' r T (nOp T o p) := by
  unfold nOp
  by_cases c : 6 ≤ o
  · rw [if_pos c]
    obtain ⟨V', e1, e2, e3, e4⟩ := k6_fail (G := G) h h0 (k := 4) (w := (p : Int)) ⟨by decide, by decide⟩
    have b : gI V' r 11 = 4 := e3.2.1
    refine ⟨V', ?_, e2, e3⟩
    unfold F_X6_takeOpening
    exact E_gd ⟨by omega, by omega⟩ (E_if (fun q => by omega) (fun _ => E_bd (k6_here hG h) (E_bd e1 (E_bd (k6_take1 (by rw [b]; decide) (by rw [b]; decide)) rfl))))
  · rw [if_neg c]
    obtain ⟨V', e1, e2, e3⟩ := k6_take hG h h0
    refine ⟨V', ?_, e2, e3⟩
    unfold F_X6_takeOpening
    exact E_gd ⟨by omega, by omega⟩ (E_if (fun _ => E_bd e1 rfl) (fun q => by omega))
theorem k6_tOp1 (hG : is6 G r) (h : cA V r T p) (h0 : gI V r 11 ≠ 0) (hr : rg (gI V r 11)) {o : Nat} (ho : o ≤ 7) : F_X6_takeOpening G r (o : Int) V = some (V, 0) := by
  unfold F_X6_takeOpening
  exact E_gd ⟨by omega, by omega⟩ (E_if (fun _ => E_bd (k6_take1 h0 hr) rfl) (fun _ => E_bd (k6_here hG h) (E_bd (k6_fail1 h0 hr) (E_bd (k6_take1 h0 hr) rfl))))
/-- a number -/
def nNu (T : mT2) (m : Int) (p : Nat) : (Int × Int) ⊕ Nat := if kdT T p ≠ 1 then .inl (1, (p : Int)) else if 4 < lnT T p then .inl (1, (p : Int) + 4) else if m < vlT T p then .inl (2, (p : Int)) else .inr (nxT T p)
theorem ln_r (hT : tOk T) (h : cA V r T p) : lnT T p ≤ 1600 := by
  have := hT.1
  have := te_le (cA_le h)
  unfold lnT; omega
theorem k6_tNu (hG : is6 G r) (hT : tOk T) (h : cA V r T p) (h0 : gI V r 11 = 0) {m : Int} (hm : rg m) : ∃ V', F_X6_takeNumber G r m V = some (V', vlT T p) ∧ f6 r V V' ∧ rs6 V' r T (nNu T m p) := by
  have vr := vl_rg (p := p) hT
  have lr := ln_r hT h
  have fl : ∀ (k w : Int), rg k ∧ k ≠ 0 → ∃ V', bd (F_X6_fail G r k w V) (fun V32 v33 => F_X6_takeNumber_J80 G r m V32) = some (V', vlT T p) ∧ f6 r V V' ∧ rs6 V' r T (.inl (k, w)) := by
    intro k w hk
    obtain ⟨V', e1, e2, e3, e4⟩ := k6_fail (G := G) h h0 (k := k) (w := w) hk
    have b : gI V' r 11 = k := e3.2.1
    refine ⟨V', E_bd e1 ?_, e2, e3⟩
    unfold F_X6_takeNumber_J80
    exact E_bd (k6_vl hG e4) (E_bd (k6_take1 (by rw [b]; exact hk.2) (by rw [b]; exact hk.1)) rfl)
  unfold nNu
  by_cases c1 : kdT T p ≠ 1
  · rw [if_pos c1]
    obtain ⟨V', e1, e2, e3⟩ := fl 1 (p : Int) ⟨by decide, by decide⟩
    refine ⟨V', ?_, e2, e3⟩
    unfold F_X6_takeNumber
    exact E_bd (k6_kd hG h) (E_gd kd_r (E_if (fun q => absurd (by omega) c1) (fun _ => E_bd (k6_here hG h) e1)))
  rw [if_neg c1]
  have c1' : kdT T p = 1 := by omega
  by_cases c2 : 4 < lnT T p
  · rw [if_pos c2]
    obtain ⟨V', e1, e2, e3⟩ := fl 1 ((p : Int) + 4) ⟨by decide, by decide⟩
    refine ⟨V', ?_, e2, e3⟩
    unfold F_X6_takeNumber
    exact E_bd (k6_kd hG h) (E_gd kd_r (E_if (fun q => E_bd (k6_ln hG h) (E_gd ⟨by omega, by omega⟩ (E_if (fun q2 => by omega) (fun _ => E_bd (k6_here hG h) e1)))) (fun q => absurd (by rw [c1']; rfl) q)))
  rw [if_neg c2]
  by_cases c3 : m < vlT T p
  · rw [if_pos c3]
    obtain ⟨V', e1, e2, e3⟩ := fl 2 (p : Int) ⟨by decide, by decide⟩
    refine ⟨V', ?_, e2, e3⟩
    unfold F_X6_takeNumber
    exact E_bd (k6_kd hG h) (E_gd kd_r (E_if (fun q => E_bd (k6_ln hG h) (E_gd ⟨by omega, by omega⟩ (E_if (fun q2 => E_bd (k6_vl hG h) (E_gd ⟨by omega, by omega⟩ (E_gd hm (E_if (fun q3 => by omega) (fun _ => E_bd (k6_here hG h) e1))))) (fun q2 => by omega)))) (fun q => absurd (by rw [c1']; rfl) q)))
  rw [if_neg c3]
  obtain ⟨V', e1, e2, e3⟩ := k6_take hG h h0
  refine ⟨V', ?_, e2, e3⟩
  unfold F_X6_takeNumber
  refine E_bd (k6_kd hG h) (E_gd kd_r (E_if (fun q => E_bd (k6_ln hG h) (E_gd ⟨by omega, by omega⟩ (E_if (fun q2 => E_bd (k6_vl hG h) (E_gd ⟨by omega, by omega⟩ (E_gd hm (E_if (fun q3 => ?_) (fun q3 => by omega))))) (fun q2 => by omega)))) (fun q => absurd (by rw [c1']; rfl) q)))
  unfold F_X6_takeNumber_J80
  exact E_bd (k6_vl hG h) (E_bd e1 rfl)
theorem k6_tNu1 (hG : is6 G r) (hT : tOk T) (h : cA V r T p) (h0 : gI V r 11 ≠ 0) (hr : rg (gI V r 11)) {m : Int} (hm : rg m) : F_X6_takeNumber G r m V = some (V, vlT T p) := by
  have vr := vl_rg (p := p) hT
  have lr := ln_r hT h
  have j : F_X6_takeNumber_J80 G r m V = some (V, vlT T p) := by
    unfold F_X6_takeNumber_J80
    exact E_bd (k6_vl hG h) (E_bd (k6_take1 h0 hr) rfl)
  have fl : ∀ (k w : Int), bd (F_X6_fail G r k w V) (fun V32 v33 => F_X6_takeNumber_J80 G r m V32) = some (V, vlT T p) := fun k w => E_bd (k6_fail1 h0 hr) j
  unfold F_X6_takeNumber
  exact E_bd (k6_kd hG h) (E_gd kd_r (E_if (fun q => E_bd (k6_ln hG h) (E_gd ⟨by omega, by omega⟩ (E_if (fun q2 => E_bd (k6_vl hG h) (E_gd ⟨by omega, by omega⟩ (E_gd hm (E_if (fun q3 => j) (fun _ => E_bd (k6_here hG h) (fl _ _)))))) (fun q2 => E_bd (k6_here hG h) (fl _ _))))) (fun q => E_bd (k6_here hG h) (fl _ _))))
/-- a name -/
def nNa (T : mT2) (p : Nat) : (Int × Int) ⊕ Nat := if kdT T p = 0 ∧ (nmT T p = -1 ∨ 24 ≤ nmT T p) then (if lnT T p ≤ 6 then .inr (nxT T p) else .inl (1, (p : Int) + 6)) else .inl (1, (p : Int))
theorem k6_tNa (hG : is6 G r) (hT : tOk T) (h : cA V r T p) (h0 : gI V r 11 = 0) : ∃ V', F_X6_takeName G r V = some (V', vlT T p) ∧ f6 r V V' ∧ rs6 V' r T (nNa T p) := by
  have lr := ln_r hT h
  have fl : ∀ (k w : Int), rg k ∧ k ≠ 0 → ∃ V', bd (F_X6_fail G r k w V) (fun V32 v33 => F_X6_takeName_J70 G r V32) = some (V', vlT T p) ∧ f6 r V V' ∧ rs6 V' r T (.inl (k, w)) := by
    intro k w hk
    obtain ⟨V', e1, e2, e3, e4⟩ := k6_fail (G := G) h h0 (k := k) (w := w) hk
    have b : gI V' r 11 = k := e3.2.1
    refine ⟨V', E_bd e1 ?_, e2, e3⟩
    unfold F_X6_takeName_J70
    exact E_bd (k6_vl hG e4) (E_bd (k6_take1 (by rw [b]; exact hk.2) (by rw [b]; exact hk.1)) rfl)
  unfold nNa
  by_cases c1 : kdT T p = 0 ∧ (nmT T p = -1 ∨ 24 ≤ nmT T p)
  · rw [if_pos c1]
    have j42 : ∃ V', F_X6_takeName_J42 G r V = some (V', vlT T p) ∧ f6 r V V' ∧ rs6 V' r T (if lnT T p ≤ 6 then .inr (nxT T p) else .inl (1, (p : Int) + 6)) := by
      by_cases c2 : lnT T p ≤ 6
      · rw [if_pos c2]
        obtain ⟨V', e1, e2, e3⟩ := k6_take hG h h0
        refine ⟨V', ?_, e2, e3⟩
        unfold F_X6_takeName_J42
        refine E_bd (k6_ln hG h) (E_gd ⟨by omega, by omega⟩ (E_if (fun _ => ?_) (fun q => by omega)))
        unfold F_X6_takeName_J70
        exact E_bd (k6_vl hG h) (E_bd e1 rfl)
      · rw [if_neg c2]
        obtain ⟨V', e1, e2, e3⟩ := fl 1 ((p : Int) + 6) ⟨by decide, by decide⟩
        refine ⟨V', ?_, e2, e3⟩
        unfold F_X6_takeName_J42
        exact E_bd (k6_ln hG h) (E_gd ⟨by omega, by omega⟩ (E_if (fun q => by omega) (fun _ => E_bd (k6_here hG h) e1)))
    obtain ⟨V', e1, e2, e3⟩ := j42
    refine ⟨V', ?_, e2, e3⟩
    unfold F_X6_takeName
    refine E_bd (k6_word hG h) (E_bd (k6_kd hG h) (E_gd kd_r (E_if (fun q => E_gd nmT_r (E_if (fun _ => e1) (fun q2 => E_if (fun _ => e1) (fun q3 => ?_)))) (fun q => absurd (by rw [c1.1]; rfl) q))))
    rcases c1.2 with z | z
    · exact absurd z q2
    · exact absurd z q3
  · rw [if_neg c1]
    obtain ⟨V', e1, e2, e3⟩ := fl 1 (p : Int) ⟨by decide, by decide⟩
    have j30 : F_X6_takeName_J30 G r V = some (V', vlT T p) := by
      unfold F_X6_takeName_J30
      exact E_bd (k6_here hG h) e1
    refine ⟨V', ?_, e2, e3⟩
    unfold F_X6_takeName
    exact E_bd (k6_word hG h) (E_bd (k6_kd hG h) (E_gd kd_r (E_if (fun q => E_gd nmT_r (E_if (fun q2 => absurd ⟨by omega, Or.inl q2⟩ c1) (fun q2 => E_if (fun q3 => absurd ⟨by omega, Or.inr q3⟩ c1) (fun q3 => j30)))) (fun q => j30))))
theorem k6_tNa1 (hG : is6 G r) (hT : tOk T) (h : cA V r T p) (h0 : gI V r 11 ≠ 0) (hr : rg (gI V r 11)) : F_X6_takeName G r V = some (V, vlT T p) := by
  have lr := ln_r hT h
  have j : F_X6_takeName_J70 G r V = some (V, vlT T p) := by
    unfold F_X6_takeName_J70
    exact E_bd (k6_vl hG h) (E_bd (k6_take1 h0 hr) rfl)
  have fl : ∀ (k w : Int), bd (F_X6_fail G r k w V) (fun V32 v33 => F_X6_takeName_J70 G r V32) = some (V, vlT T p) := fun k w => E_bd (k6_fail1 h0 hr) j
  have j42 : F_X6_takeName_J42 G r V = some (V, vlT T p) := by
    unfold F_X6_takeName_J42
    exact E_bd (k6_ln hG h) (E_gd ⟨by omega, by omega⟩ (E_if (fun _ => j) (fun q => E_bd (k6_here hG h) (fl _ _))))
  have j30 : F_X6_takeName_J30 G r V = some (V, vlT T p) := by
    unfold F_X6_takeName_J30
    exact E_bd (k6_here hG h) (fl _ _)
  unfold F_X6_takeName
  exact E_bd (k6_word hG h) (E_bd (k6_kd hG h) (E_gd kd_r (E_if (fun q => E_gd nmT_r (E_if (fun q2 => j42) (fun q2 => E_if (fun q3 => j42) (fun q3 => j30)))) (fun q => j30))))
end

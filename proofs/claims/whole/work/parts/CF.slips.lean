/-! slips and who it was: both -/
section
variable {G : mG} {V V' : mV} {x m N : Nat} {Y : mY}
theorem vY_by {T : mT2} {I : List Int} {S : Int × List Int} (h : vY G V x Y) (k : fr (fun i => i = x ∨ (x + 1 ≤ i ∧ i ≤ x + 4) ∨ i = x + 7 ∨ i = x + 8) V V') (hT : vT V' x T) (hI : vI V' x I) (hS : vS V' x S) : vY G V' x (yZ Y, T, yF Y, I, S, yE Y) := by
  obtain ⟨a, ⟨b1, b2⟩, -, ⟨d1, d2⟩, -, -, g, i, ⟨⟨z1, z2, z3, z4, z5⟩, j2, j3, j4⟩⟩ := h
  have ha := a.1
  have rzo : ∀ {r : Nat}, rz G V r → x + 9 ≤ r → rz G V' r := by
    intro r hr h1
    unfold rz at hr ⊢
    rw [k.I (by omega)]; exact hr
  have az : vZ G V' x (yZ Y) := by
    obtain ⟨p1, p2, p3, p4, ⟨e0, p5⟩, p6, p7, p8⟩ := a
    exact ⟨p1, p2.fr k (fun j p q _ => by omega), p3.fr k (fun j p q => by omega), p4.fr k (by omega) (by omega), ⟨e0, p5.fr k (fun j p q => by omega)⟩, by rw [k.I (by omega)]; exact p6, p7.fr k (fun j p q => by omega), p8.fr k (by omega) (by omega)⟩
  exact ⟨az, ⟨b1, b2.fr (fun q q0 q1 => (k.2.2 q (by rcases b1 with w | w <;> omega)).1)⟩, hT, ⟨by rw [k.I (by omega)]; exact d1, by rw [k.I (by omega)]; exact d2⟩, hI, hS, by rw [k.1]; exact g, by unfold vLi; rw [k.I (by omega)]; exact i, ⟨⟨rzo z1 (by omega), rzo z2 (by omega), rzo z3 (by omega), rzo z4 (by omega), rzo z5 (by omega)⟩, j2.fr k (by omega) (by omega), rzo j3 (by omega), by rw [k.I (by omega)]; exact j4⟩⟩
theorem rY_by {T : mT2} {F : Int × Int} {I : List Int} {S : Int × List Int} {E : Int} (h : rY V m Y) (kA : ∀ i, m + 2 ≤ i → i ≤ m + 70 → i ≠ m + 45 → gA V' i = gA V i) (kI : ∀ k, k ≠ 1 → k ≠ 7 → k ≠ 8 → k ≠ 72 → k ≠ 73 → k ≠ 108 → gI V' m k = gI V m k) (kL : gL V' (m + 28) = gL V (m + 28)) (hT : rTp V' m T) (hF : gI V' m 7 = F.1 ∧ gI V' m 8 = F.2) (hI : rIm V' m I) (hS : rSl V' m S) (hE : gJ V' m 71 = E) : rY V' m (yZ Y, T, F, I, S, E) := by
  obtain ⟨⟨a1, a2, ⟨p1, p2, p3, p4⟩, a4, a5⟩, -, -, -, -, -, g⟩ := h
  refine ⟨⟨a1.fr ⟨fun i p q => kA i (by omega) (by omega) (by omega), kL⟩, by rw [kA _ (by omega) (by omega) (by omega)]; exact a2, ⟨by rw [kI 69 (by decide) (by decide) (by decide) (by decide) (by decide) (by decide)]; exact p1, p2, by rw [kI 70 (by decide) (by decide) (by decide) (by decide) (by decide) (by decide)]; exact p3, fun i hi => by rw [kI 70 (by decide) (by decide) (by decide) (by decide) (by decide) (by decide), kA _ (by omega) (by omega) (by omega)]; exact p4 i hi⟩, fun j p q => by rw [kA _ (by omega) (by omega) (by omega)]; exact a4 j p q, by rw [kI 61 (by decide) (by decide) (by decide) (by decide) (by decide) (by decide)]; exact a5⟩, hT, hF, hI, hS, hE, fun q hq => ?_⟩
  have := g q hq
  unfold wdA at this ⊢
  unfold isW at hq
  rw [kA _ (by omega) (by omega) (by omega)]; exact this
-- ---- the slips told
def slRow (C : mCy) (T : mT2) (i : Nat) : Prop := T.1 (3 * i) < 24 ∧ T.1 (3 * i + 1) < ct C ∧ T.1 (3 * i + 2) ≤ 1
def slOk (C : mCy) (T : mT2) : Prop := T.2 ≠ 0 ∧ T.2 % 3 = 0 ∧ T.2 ≤ 60 ∧ ∀ i, 3 * i + 2 < T.2 → slRow C T i
def slL (T : mT2) : List Int := (List.range T.2).map T.1
theorem slL_len {T : mT2} : (slL T).length = T.2 := by unfold slL; rw [List.length_map, List.length_range]
theorem slL_get {T : mT2} {i : Nat} (h : i < T.2) : (slL T).getD i 0 = T.1 i := by
  unfold slL
  rw [List.getD_eq_getElem?_getD, List.getElem?_map, List.getElem?_range h]; rfl
theorem tp_get (hG : is9 G x) (hT : tOk (yT Y)) (hv : vY G V x Y) {k : Int} (h0 : 0 ≤ k) (h1 : k < ((yT Y).2 : Int)) : F_X7_get G (x + 1) k V = some (V, (yT Y).1 k.toNat) :=
  rw_get (s9_0s hG) (s9_0c hG) hv.2.2.1 (by have := hT.1; omega) ⟨h0, h1⟩
theorem c_areS (hG : is9 G x) (ho : okZ (yZ Y)) (hT : tOk (yT Y)) (hv : vY G V x Y) : ∃ r, F_X9_areSlips G x V = some (V, r) ∧ ((r = 1 ∧ slOk (yZ Y).1 (yT Y)) ∨ (r = 0 ∧ ¬ slOk (yZ Y).1 (yT Y))) := by
  have hsz : gI V (x + 1) 1 = ((yT Y).2 : Int) := hv.2.2.1.1
  have hT1 := hT.1
  have ht := ho.1.2.1
  unfold F_X9_areSlips
  by_cases c0 : (yT Y).2 = 0
  · refine ⟨0, E_bd p7_size ?_, Or.inr ⟨rfl, fun q => q.1 c0⟩⟩
    rw [hsz]
    exact E_gd ⟨by omega, by omega⟩ (E_if (fun _ => rfl) (fun q => by omega))
  have e3 : (((yT Y).2 : Int)).tmod 3 = (((yT Y).2 % 3 : Nat) : Int) := by rw [Int.tmod_eq_emod_of_nonneg (by omega)]; omega
  by_cases c3 : (yT Y).2 % 3 = 0
  rotate_left
  · refine ⟨0, E_bd p7_size ?_, Or.inr ⟨rfl, fun q => c3 q.2.1⟩⟩
    rw [hsz, e3]
    exact E_gd ⟨by omega, by omega⟩ (E_if (fun q => by omega) (fun _ => E_gd ⟨by omega, by omega⟩ (E_if (fun q => by omega) (fun _ => rfl))))
  by_cases c60 : (yT Y).2 ≤ 60
  rotate_left
  · refine ⟨0, E_bd p7_size ?_, Or.inr ⟨rfl, fun q => c60 q.2.2.1⟩⟩
    rw [hsz, e3]
    exact E_gd ⟨by omega, by omega⟩ (E_if (fun q => by omega) (fun _ => E_gd ⟨by omega, by omega⟩ (E_if (fun q => E_if (fun q2 => by omega) (fun _ => rfl)) (fun _ => rfl))))
  have main : Wp (lp (fun (s : Int) V => B_X9_areSlips_28 G x ((yT Y).2 : Int) s V) FU 0 V) (fun V' q => V' = V ∧ ((q.1 = 1 ∧ ¬ slOk (yZ Y).1 (yT Y)) ∨ (q.1 = 2 ∧ slOk (yZ Y).1 (yT Y)))) := by
    refine W_lp (fun w (y : Int) U => U = V ∧ ∃ i : Nat, y = ((3 * i : Nat) : Int) ∧ 3 * i + 3 * w = (yT Y).2 ∧ ∀ j, j < i → slRow (yZ Y).1 (yT Y) j) ?_ FU ((yT Y).2 / 3) _ V ⟨rfl, 0, rfl, by omega, fun j hj => by omega⟩ (by unfold FU; omega)
    rintro w y U ⟨rfl, i, rfl, hw, hr⟩
    unfold B_X9_areSlips_28
    refine W_gd ⟨by omega, by omega⟩ (W_gd ⟨by omega, by omega⟩ (W_if (fun q => W_so (Or.inr ⟨(by decide : (2 : Nat) ≠ 0), rfl, Or.inr ⟨rfl, c0, c3, c60, fun j hj => hr j (by omega)⟩⟩)) (fun q => ?_)))
    have b0 := hT.2 (3 * i) (by omega)
    have b1 := hT.2 (3 * i + 1) (by omega)
    have b2 := hT.2 (3 * i + 2) (by omega)
    have g0 := tp_get hG hT hv (k := ((3 * i : Nat) : Int)) (by omega) (by omega)
    have g1 := tp_get hG hT hv (k := ((3 * i : Nat) : Int) + 1) (by omega) (by omega)
    have g2 := tp_get hG hT hv (k := ((3 * i : Nat) : Int) + 2) (by omega) (by omega)
    rw [show (((3 * i : Nat) : Int)).toNat = 3 * i by omega] at g0
    rw [show (((3 * i : Nat) : Int) + 1).toNat = 3 * i + 1 by omega] at g1
    rw [show (((3 * i : Nat) : Int) + 2).toNat = 3 * i + 2 by omega] at g2
    have k0 := c_isK (G := G) (V := U) (x := x) (t := (yT Y).1 (3 * i)) ⟨by omega, by omega⟩
    have k1 := c_isT ho hv.1 (t := (yT Y).1 (3 * i + 1)) ⟨by omega, by omega⟩
    have bad : ¬ slRow (yZ Y).1 (yT Y) i → ¬ slOk (yZ Y).1 (yT Y) := fun h h2 => h (h2.2.2.2 i (by omega))
    refine W_be g0 (W_be k0 ?_)
    by_cases d0 : (yT Y).1 (3 * i) < 24
    rotate_left
    · rw [if_neg (by omega)]
      exact W_gd (by decide) (W_if (fun _ => W_so (Or.inr ⟨Nat.one_ne_zero, rfl, Or.inl ⟨rfl, bad (fun h => d0 h.1)⟩⟩)) (fun z => absurd rfl z))
    rw [if_pos (by omega)]
    refine W_gd (by decide) (W_if (fun z => absurd z (by decide)) (fun _ => W_be g1 (W_be k1 ?_)))
    by_cases d1 : (yT Y).1 (3 * i + 1) < ct (yZ Y).1
    rotate_left
    · rw [if_neg (by omega)]
      exact W_gd (by decide) (W_if (fun _ => W_so (Or.inr ⟨Nat.one_ne_zero, rfl, Or.inl ⟨rfl, bad (fun h => d1 h.2.1)⟩⟩)) (fun z => absurd rfl z))
    rw [if_pos (by omega)]
    refine W_gd (by decide) (W_if (fun z => absurd z (by decide)) (fun _ => W_be g2 (W_gd ⟨by omega, by omega⟩ (W_if (fun d2 => ?_) (fun d2 => ?_)))))
    · refine W_lt (W_so (Or.inl ⟨rfl, w - 1, by omega, rfl, i + 1, by show ((3 * i : Nat) : Int) + 3 = _; omega, by omega, fun j hj => ?_⟩))
      by_cases e : j = i
      · rw [e]; exact ⟨d0, d1, d2⟩
      · exact hr j (by omega)
    · exact W_so (Or.inr ⟨Nat.one_ne_zero, rfl, Or.inl ⟨rfl, bad (fun h => d2 h.2.2)⟩⟩)
  obtain ⟨V', q, e1, rfl, e2⟩ := main
  have top : ∀ r, (if q.1 = 1 then some (V', (0 : Int)) else some (V', 1)) = some (V', r) → (bd (F_X7_size G (x + 1) V') fun V1 v2 =>
  gd (rg v2) <|
  if v2 = 0 then (some (V1, 0)) else (gd (rg (v2.tmod 3)) <|
  if (v2.tmod 3) = 0 then (if v2 ≤ 60 then (bd (lp (fun (s : Int) V => B_X9_areSlips_28 G x v2 s V) FU 0 V1) fun V34 u35 =>
  if u35.1 = 1 then (some (V34, 0)) else (some (V34, 1))) else (some (V1, 0))) else (some (V1, 0)))) = some (V', r) := by
    intro r hr
    refine E_bd p7_size ?_
    rw [hsz, e3]
    exact E_gd ⟨by omega, by omega⟩ (E_if (fun q => by omega) (fun _ => E_gd ⟨by omega, by omega⟩ (E_if (fun _ => E_if (fun _ => E_bd e1 hr) (fun z => by omega)) (fun z => by omega))))
  rcases e2 with ⟨a, b⟩ | ⟨a, b⟩
  · exact ⟨0, top 0 (by rw [if_pos a]), Or.inr ⟨rfl, b⟩⟩
  · exact ⟨1, top 1 (by rw [if_neg (by omega)]), Or.inl ⟨rfl, b⟩⟩
theorem S_slips {a : Int} (hG : is9 G x) (hm : m = x + 327) (h : okA N Y) (h1 : rg a) : STEP G x m N (F_X9_slips G x a) (F_X10_slips G m a) Y := by
  have hT := h.1.2.2.1
  have hT1 := hT.1
  have ho := h.1.1
  have ht := ho.1.2.1
  have hn := ho.1.1
  -- the tape goes, class
  have cutT : ∀ {U : mV}, vT U x (yT Y) → ∃ U', F_X7_cut G (x + 1) 0 U = some (U', 0) ∧ fr (fun i => i = x + 1) U U' ∧ vT U' x ((yT Y).1, 0) := by
    intro U hU
    have hsz : gI U (x + 1) 1 = ((yT Y).2 : Int) := hU.1
    obtain ⟨U', e, k, r⟩ := rw_cut0 (V := U) (f := fun k => (yT Y).1 k.toNat) (s9_0s hG) (rw_rz (s9_0c hG) hsz ⟨by omega, by omega⟩)
    exact ⟨U', e, k, r⟩
  by_cases c : (0 ≤ a ∧ a < cn (yZ Y).1) ∧ slOk (yZ Y).1 (yT Y)
  · obtain ⟨cp, cs⟩ := c
    obtain ⟨s1, s2, s3, s4⟩ := id cs
    refine ⟨(yZ Y, ((yT Y).1, 0), yF Y, yI Y, (a, slL (yT Y)), yE Y), (((yT Y).2 / 3 : Nat) : Int), fun V hv => ?_, fun V hv => ?_, ?_, ⟨by omega, by omega⟩⟩
    · have e1 := c_isP ho hv.1 h1
      rw [if_pos cp] at e1
      obtain ⟨r, e2, hr⟩ := c_areS hG ho hT hv
      have er : r = 1 := by
        rcases hr with q | q
        · exact q.1
        · exact absurd cs q.2
      rw [er] at e2
      have hsz : gI V (x + 1) 1 = ((yT Y).2 : Int) := hv.2.2.1.1
      -- copied
      obtain ⟨V1, hV1⟩ : ∃ V1, V1 = rcopy V (x + 7) (qG G (x + 7 + 1)) (x + 1) := ⟨_, rfl⟩
      have e3 := p7_copy (V := V) (s9_3s hG) (s9_0s hG) (by omega) (by omega) (rw_rz (s9_0c hG) hsz ⟨by omega, by omega⟩)
      rw [← hV1] at e3
      have k1 : fr (fun i => i = x + 7 ∨ i = x + 8) V V1 := by rw [hV1]; exact fr_rcopy (Or.inr rfl) (Or.inl rfl)
      have q60 : qG G (x + 7 + 1) = 60 := s9_3c hG
      have mn : min (gI V (x + 1) 1) (qG G (x + 7 + 1) : Int) = ((yT Y).2 : Int) := by rw [hsz, q60]; omega
      have r1 : rw' V1 (x + 7) (((slL (yT Y)).length : Nat) : Int) (fun k => (slL (yT Y)).getD k.toNat 0) := by
        rw [slL_len]
        refine ⟨?_, fun j j0 j1 => ?_⟩
        · rw [hV1]; unfold rcopy rset
          rw [gI_sF, gI_sI, if_pos ⟨rfl, rfl⟩, mn]
        · rw [hV1]; unfold rcopy rset
          show gA (sF _ (x + 7 + 1) _) (x + 7 + 1) j.toNat = _
          rw [gA_sFe, mn]
          show (if ((j.toNat : Nat) : Int) < ((yT Y).2 : Int) then _ else _) = _
          rw [if_pos (by omega)]
          show gA V (x + 1 + 1) j.toNat = (slL (yT Y)).getD j.toNat 0
          rw [slL_get (by omega)]
          exact hv.2.2.1.2 j j0 j1
      have k2 : fr (fun i => i = x) V1 (sI V1 x 12 a) := fr_sI rfl
      have hT2 : vT (sI V1 x 12 a) x (yT Y) := (hv.2.2.1.fr k1 (by omega) (by omega)).fr k2 (by omega) (by omega)
      obtain ⟨V3, e4, k3, t3⟩ := cutT hT2
      have kk : fr (fun i => i = x ∨ (x + 1 ≤ i ∧ i ≤ x + 4) ∨ i = x + 7 ∨ i = x + 8) V V3 := ((k1.mono (fun i q => Or.inr (Or.inr q))).trans (k2.mono (fun i q => Or.inl q))).trans (k3.mono (fun i q => by omega))
      have r3 : rw' V3 (x + 7) (((slL (yT Y)).length : Nat) : Int) (fun k => (slL (yT Y)).getD k.toNat 0) := (r1.fr k2 (by omega) (by omega)).fr k3 (by omega) (by omega)
      have i12 : gI V3 x 12 = a := by rw [k3.I (by omega), gI_sI, if_pos ⟨rfl, rfl⟩]
      refine ⟨V3, ?_, fun i hi => ?_, vY_by hv kk t3 (hv.2.2.2.2.1.fr (((k1.mono (fun i q => Or.inr (Or.inr q))).trans (k2.mono (fun i q => Or.inl q))).trans (k3.mono (fun i q => Or.inr (Or.inl q))) : fr (fun i => i = x ∨ i = x + 1 ∨ i = x + 7 ∨ i = x + 8) V V3) (by omega) (by omega)) ⟨r3, fun _ => i12⟩⟩
      · unfold F_X9_slips
        refine E_y e1 (E_y e2 ?_)
        unfold F_X9_slips_J20
        refine E_gd (by decide) (E_if (fun q => absurd q (by decide)) (fun _ => E_bd e3 (E_lt ?_)))
        unfold F_X9_slips_J41
        refine E_bd e4 (E_gd (by decide) (E_if (fun q => absurd q (by decide)) (fun _ => E_bd p7_size ?_)))
        rw [r3.1, slL_len]
        refine E_gd ⟨by omega, by omega⟩ (E_so rfl ?_)
        rw [Int.tdiv_eq_ediv_of_nonneg (by omega)]; omega
      · obtain ⟨y1, y2⟩ := kk.2.2 i (by omega)
        exact ⟨y1, y2, by rw [kk.1], by rw [kk.2.1]⟩
    · obtain ⟨b1, b2⟩ := hv.2.1
      have hv2 : rC (sI V m 1 0) m (yZ Y).1 := hv.1.1.fr ⟨fun _ _ _ => rfl, rfl⟩
      have e1 := r_isP (G := G) (V := sI V m 1 0) ho.1 hv2 h1
      rw [if_pos cp] at e1
      have e3 : (((yT Y).2 : Int)).tmod 3 = 0 := by rw [Int.tmod_eq_emod_of_nonneg (by omega)]; omega
      have d3 : (((yT Y).2 : Int)).tdiv 3 = (((yT Y).2 / 3 : Nat) : Int) := by rw [Int.tdiv_eq_ediv_of_nonneg (by omega)]; omega
      have cell : ∀ {U : mV}, gA U (m + 1) = gA V (m + 1) → ∀ j, j < (yT Y).2 → gA U (m + 1) j = (yT Y).1 j := fun hU j hj => by rw [hU]; exact b1 j hj
      have main : Wp (lp (fun (s : Int × Int) V => B_X10_slips_45 G m a ((yT Y).2 : Int) s.1 s.2 V) FU (1, 0) (sI V m 1 0)) (fun V' q => V' = sI V m 1 0 ∧ q.2.1 = 1) := by
        refine W_lp (fun w (y : Int × Int) U => U = sI V m 1 0 ∧ ∃ i : Nat, y = (1, ((3 * i : Nat) : Int)) ∧ 3 * i + 3 * w = (yT Y).2) ?_ FU ((yT Y).2 / 3) _ _ ⟨rfl, 0, rfl, by omega⟩ (by unfold FU; omega)
        rintro w y U ⟨rfl, i, rfl, hw⟩
        show Wp (B_X10_slips_45 G m a ((yT Y).2 : Int) 1 ((3 * i : Nat) : Int) (sI V m 1 0)) _
        unfold B_X10_slips_45
        refine W_gd ⟨by omega, by omega⟩ (W_gd ⟨by omega, by omega⟩ (W_if (fun q => W_so (Or.inr ⟨Nat.one_ne_zero, rfl, rfl⟩)) (fun q => W_gd (by decide) (W_if (fun z => absurd z (by decide)) (fun _ => ?_)))))
        have row := s4 i (by omega)
        have x0 := hT.2 (3 * i) (by omega)
        have x1 := hT.2 (3 * i + 1) (by omega)
        have x2 := hT.2 (3 * i + 2) (by omega)
        have g0 := cell (U := sI V m 1 0) rfl (3 * i) (by omega)
        have g1 := cell (U := sI V m 1 0) rfl (3 * i + 1) (by omega)
        have g2 := cell (U := sI V m 1 0) rfl (3 * i + 2) (by omega)
        have et := r_isT (G := G) (V := sI V m 1 0) ho.1 hv2 (t := (yT Y).1 (3 * i + 1)) ⟨by omega, by omega⟩
        rw [if_pos ⟨x1.1, row.2.1⟩] at et
        rw [show (((3 * i : Nat) : Int)).toNat = 3 * i by omega, g0, show (((3 * i : Nat) : Int) + 1).toNat = 3 * i + 1 by omega, g1, show (((3 * i : Nat) : Int) + 2).toNat = 3 * i + 2 by omega]
        refine W_gd ⟨by omega, by omega, by omega⟩ (W_gd ⟨by omega, by omega⟩ (W_if (fun z => by have := row.1; omega) (fun _ => W_gd ⟨by omega, by omega, by omega⟩ (W_be et (W_gd (by decide) (W_if (fun z => absurd z (by decide)) (fun _ => W_gd ⟨by omega, by omega, by omega⟩ ?_)))))))
        rw [g2]
        exact W_gd ⟨by omega, by omega⟩ (W_if (fun z => by have := row.2.2; omega) (fun _ => W_lt (W_so (Or.inl ⟨rfl, w - 1, by omega, rfl, i + 1, Prod.ext rfl (by show ((3 * i : Nat) : Int) + 3 = ((3 * (i + 1) : Nat) : Int); omega), by omega⟩))))
      obtain ⟨V2, q2, e4, hV2, e5⟩ := main
      have main2 : Wp (lp (fun (s : Int) V => B_X10_slips_121 G m a ((yT Y).2 : Int) s V) FU 0 V2) (fun V' _ => (∀ i, i ≠ m + 45 → gA V' i = gA V i) ∧ gI V' = gI (sI V m 1 0) ∧ gJ V' = gJ V ∧ gL V' = gL V ∧ ∀ j, j < (yT Y).2 → gA V' (m + 45) j = (yT Y).1 j) := by
        refine W_lp (fun w (y : Int) U => ∃ k : Nat, y = (k : Int) ∧ k + w = (yT Y).2 ∧ (∀ i, i ≠ m + 45 → gA U i = gA V i) ∧ gI U = gI (sI V m 1 0) ∧ gJ U = gJ V ∧ gL U = gL V ∧ ∀ j, j < k → gA U (m + 45) j = (yT Y).1 j) ?_ FU (yT Y).2 _ V2 ⟨0, rfl, by omega, fun i _ => by rw [hV2]; rfl, by rw [hV2], by rw [hV2]; rfl, by rw [hV2]; rfl, fun j hj => by omega⟩ (by unfold FU; omega)
        rintro w y U ⟨k, rfl, hw, i1, i2, i3, i4, i5⟩
        unfold B_X10_slips_121
        refine W_gd ⟨by omega, by omega⟩ (W_gd ⟨by omega, by omega⟩ (W_if (fun q => W_so (Or.inr ⟨Nat.one_ne_zero, i1, i2, i3, i4, fun j hj => i5 j (by omega)⟩)) (fun q => W_gd ⟨by omega, by omega, by omega⟩ (W_gd ⟨by omega, by omega, by omega⟩ (W_lt (W_lt (W_so (Or.inl ⟨rfl, w - 1, by omega, k + 1, rfl, by omega, fun i hi => by rw [gA_sAo hi]; exact i1 i hi, i2, i3, i4, fun j hj => ?_⟩))))))))
        rw [Int.toNat_natCast, gA_sAf]
        by_cases ej : j = k
        · rw [if_pos ej, ej, i1 _ (by omega)]; exact b1 k (by omega)
        · rw [if_neg ej]; exact i5 j (by omega)
      obtain ⟨V3, q3, e6, j1, j2, j3, j4, j5⟩ := main2
      have jI : ∀ k, k ≠ 1 → k ≠ 72 → k ≠ 73 → gI (sI (sI V3 m 72 (((yT Y).2 / 3 : Nat) : Int)) m 73 a) m k = gI V m k := by
        intro k k0 k1 k2
        rw [gI_sI, if_neg (by omega), gI_sI, if_neg (by omega), j2, gI_sI, if_neg (by omega)]
      refine ⟨sI (sI V3 m 72 (((yT Y).2 / 3 : Nat) : Int)) m 73 a, ?_, fun i hi => ⟨?_, j1 i (by omega), by show gJ V3 i = _; rw [j3], by show gL V3 i = _; rw [j4]⟩, rY_by hv (fun i p q r => j1 i r) (fun k k1 k2 k3 k4 k5 k6 => jI k k1 k4 k5) (by show gL V3 _ = _; rw [j4]) ⟨fun j hj => (by cases hj), ?_⟩ ⟨by rw [jI 7 (by decide) (by decide) (by decide)]; exact hv.2.2.1.1, by rw [jI 8 (by decide) (by decide) (by decide)]; exact hv.2.2.1.2⟩ ⟨by rw [jI 108 (by decide) (by decide) (by decide)]; exact hv.2.2.2.1.1, fun j hj => by show gA V3 _ j = _; rw [j1 _ (by omega)]; exact hv.2.2.2.1.2 j hj⟩ ⟨?_, fun j hj => ?_, fun _ => ?_⟩ (by show gJ V3 m 71 = _; rw [j3]; exact hv.2.2.2.2.2.1)⟩
      · unfold F_X10_slips
        refine E_lt (E_lt (E_y e1 ?_))
        rw [b2, e3, d3]
        refine E_gd ⟨by omega, by omega⟩ (E_if (fun z => by omega) (fun _ => E_gd ⟨by omega, by omega⟩ (E_if (fun _ => E_gd ⟨by omega, by omega⟩ (E_if (fun z => by omega) (fun _ => ?_))) (fun z => absurd rfl z))))
        unfold F_X10_slips_J41
        refine E_bd e4 ?_
        rw [e5]
        unfold F_X10_slips_J108
        refine E_gd (by decide) (E_if (fun z => absurd z (by decide)) (fun _ => E_bd e6 (E_gd ⟨by omega, by omega⟩ ?_)))
        rw [d3]
        refine E_lt (E_lt (E_so rfl ?_))
        rw [gI_sI, if_neg (by omega), gI_sI, if_pos ⟨rfl, rfl⟩]
      · funext k
        rw [gI_sI, if_neg (by omega), gI_sI, if_neg (by omega), j2, gI_sI, if_neg (by omega)]
      · rw [gI_sI, if_neg (by omega), gI_sI, if_neg (by omega), j2, gI_sI, if_pos ⟨rfl, rfl⟩]; rfl
      · rw [gI_sI, if_neg (by omega), gI_sI, if_pos ⟨rfl, rfl⟩]
        show 3 * (((yT Y).2 / 3 : Nat) : Int) = (((slL (yT Y)).length : Nat) : Int)
        rw [slL_len]; omega
      · have hj' : j < (slL (yT Y)).length := hj
        rw [slL_len] at hj'
        show gA V3 (m + 45) j = (slL (yT Y)).getD j 0
        rw [j5 j hj', slL_get hj']
      · rw [gI_sI, if_pos ⟨rfl, rfl⟩]
    · obtain ⟨⟨a1, a2, a3, a4, a5, a6, a7⟩, b, c, d⟩ := okA_s h
      refine ⟨⟨a1, a2, ⟨Nat.zero_le _, fun j hj => (by cases hj)⟩, a4, a5, ⟨?_, ?_, fun _ => cp, fun i hi => ?_⟩, a7⟩, b, c, d⟩
      · show (slL (yT Y)).length ≤ 60
        rw [slL_len]; exact s3
      · show (slL (yT Y)).length % 3 = 0
        rw [slL_len]; exact s2
      · have hi' : 3 * i + 2 < (slL (yT Y)).length := hi
        rw [slL_len] at hi'
        have row := s4 i hi'
        have x0 := hT.2 (3 * i) (by omega)
        have x1 := hT.2 (3 * i + 1) (by omega)
        have x2 := hT.2 (3 * i + 2) (by omega)
        show (0 ≤ (slL (yT Y)).getD (3 * i) 0 ∧ (slL (yT Y)).getD (3 * i) 0 < 24) ∧ (0 ≤ (slL (yT Y)).getD (3 * i + 1) 0 ∧ (slL (yT Y)).getD (3 * i + 1) 0 < ct (yZ Y).1) ∧ (0 ≤ (slL (yT Y)).getD (3 * i + 2) 0 ∧ (slL (yT Y)).getD (3 * i + 2) 0 ≤ 1)
        rw [slL_get (by omega), slL_get (by omega), slL_get (by omega)]
        exact ⟨⟨x0.1, row.1⟩, ⟨x1.1, row.2.1⟩, ⟨x2.1, row.2.2⟩⟩
  · refine ⟨(refZ (yZ Y) 1, ((yT Y).1, 0), Y.2.2), -1, fun V hv => ?_, fun V hv => ?_, ?_, ⟨by decide, by decide⟩⟩
    · obtain ⟨V1, e4, k1, t1⟩ := cutT hv.2.2.1
      have y1 : vY G V1 x (yZ Y, ((yT Y).1, 0), Y.2.2) := vY_tp hv (k1.mono (fun i q => Or.inl q)) t1
      obtain ⟨V2, e5, k2, z2⟩ := c_refuse hG y1.1 (k := 1) (by decide)
      have J41 : F_X9_slips_J41 G x a 0 V = some (V2, -1) := by
        unfold F_X9_slips_J41
        exact E_bd e4 (E_gd (by decide) (E_if (fun _ => E_bd e5 rfl) (fun q => absurd rfl q)))
      have J19 : F_X9_slips_J19 G x a V = some (V2, -1) := by
        unfold F_X9_slips_J19 F_X9_slips_J20
        exact E_gd (by decide) (E_if (fun _ => J41) (fun q => absurd rfl q))
      have e1 := c_isP ho hv.1 h1
      refine ⟨V2, ?_, fun i hi => ?_, vY_of (Y' := (refZ (yZ Y) 1, ((yT Y).1, 0), Y.2.2)) y1 rfl rfl rfl rfl (by rw [k2.1]; exact y1.2.2.2.2.2.2.1) k2.2.2 z2⟩
      · unfold F_X9_slips
        by_cases cp : 0 ≤ a ∧ a < cn (yZ Y).1
        · rw [if_pos cp] at e1
          obtain ⟨r, e2, hr⟩ := c_areS hG ho hT hv
          have er : r = 0 := by
            rcases hr with q | q
            · exact absurd ⟨cp, q.2⟩ c
            · exact q.1
          rw [er] at e2
          exact E_y e1 (E_n e2 J19)
        · rw [if_neg cp] at e1
          exact E_n e1 J19
      · have ha := hv.1.1
        obtain ⟨y1, y2⟩ := k1.2.2 i (by omega)
        obtain ⟨y3, y4⟩ := k2.2.2 i (fun q => by omega)
        exact ⟨y3.trans y1, y4.trans y2, by rw [k2.1, k1.1], by rw [k2.2.1, k1.2.1]⟩
    · obtain ⟨b1, b2⟩ := hv.2.1
      have y1 : rY (sI V m 1 0) m (yZ Y, ((yT Y).1, 0), Y.2.2) := rY_tp hv (fun _ _ => rfl) (fun k hk => by rw [gI_sI, if_neg (by omega)]) rfl rfl ⟨fun j hj => (by cases hj), by rw [gI_sI, if_pos ⟨rfl, rfl⟩]; rfl⟩
      obtain ⟨V2, e5, hV2, z2⟩ := r_refuse (G := G) y1.1 (k := 1) (by decide)
      have J108 : F_X10_slips_J108 G m a ((yT Y).2 : Int) 0 (sI V m 1 0) = some (V2, -1) := by
        unfold F_X10_slips_J108
        exact E_gd (by decide) (E_if (fun _ => E_bd e5 rfl) (fun q => absurd rfl q))
      have J40 : F_X10_slips_J40 G m a ((yT Y).2 : Int) (sI V m 1 0) = some (V2, -1) := by
        unfold F_X10_slips_J40 F_X10_slips_J41
        have e : lp (fun (s : Int × Int) V => B_X10_slips_45 G m a ((yT Y).2 : Int) s.1 s.2 V) FU (0, 0) (sI V m 1 0) = some (sI V m 1 0, 1, (0, 0)) := by
          refine lp_stop (q := (1, (0, 0))) ?_ Nat.one_ne_zero (by unfold FU; decide)
          show B_X10_slips_45 G m a ((yT Y).2 : Int) 0 0 (sI V m 1 0) = _
          unfold B_X10_slips_45
          exact E_gd (by decide) (E_gd ⟨by omega, by omega⟩ (E_if (fun _ => rfl) (fun _ => E_gd (by decide) (E_if (fun _ => rfl) (fun q => absurd rfl q)))))
        exact E_bd e J108
      have hv2 : rC (sI V m 1 0) m (yZ Y).1 := y1.1.1
      have e1 := r_isP (G := G) (V := sI V m 1 0) ho.1 hv2 h1
      refine ⟨V2, ?_, fun i hi => ?_, rY_of (Y' := (refZ (yZ Y) 1, ((yT Y).1, 0), Y.2.2)) y1 rfl rfl rfl rfl (by rw [hV2]; exact y1.2.2.2.2.2.1) (by rw [hV2]; exact (rG_sA rfl).b) z2⟩
      · unfold F_X10_slips
        refine E_lt (E_lt ?_)
        rw [b2]
        by_cases cp : 0 ≤ a ∧ a < cn (yZ Y).1
        · rw [if_pos cp] at e1
          have hns : ¬ slOk (yZ Y).1 (yT Y) := fun q => c ⟨cp, q⟩
          have e3 : (((yT Y).2 : Int)).tmod 3 = (((yT Y).2 % 3 : Nat) : Int) := by rw [Int.tmod_eq_emod_of_nonneg (by omega)]; omega
          have d3 : (((yT Y).2 : Int)).tdiv 3 = (((yT Y).2 / 3 : Nat) : Int) := by rw [Int.tdiv_eq_ediv_of_nonneg (by omega)]; omega
          refine E_y e1 (E_gd ⟨by omega, by omega⟩ (E_if (fun _ => J40) (fun c0 => ?_)))
          rw [e3, d3]
          refine E_gd ⟨by omega, by omega⟩ (E_if (fun c3 => E_gd ⟨by omega, by omega⟩ (E_if (fun _ => J40) (fun c60 => ?_))) (fun _ => J40))
          unfold F_X10_slips_J41
          have main : Wp (lp (fun (s : Int × Int) V => B_X10_slips_45 G m a ((yT Y).2 : Int) s.1 s.2 V) FU (1, 0) (sI V m 1 0)) (fun V' q => V' = sI V m 1 0 ∧ q.2.1 = 0) := by
            refine W_lp (fun w (y : Int × Int) U => U = sI V m 1 0 ∧ ∃ i : Nat, y.2 = ((3 * i : Nat) : Int) ∧ 3 * i ≤ (yT Y).2 ∧ ((y.1 = 0 ∧ w = 0) ∨ (y.1 = 1 ∧ 1 ≤ w ∧ 3 * i + 3 * (w - 1) = (yT Y).2 ∧ ∀ j, j < i → slRow (yZ Y).1 (yT Y) j))) ?_ FU ((yT Y).2 / 3 + 1) _ _ ⟨rfl, 0, rfl, by omega, Or.inr ⟨rfl, by omega, by omega, fun j hj => by omega⟩⟩ (by unfold FU; omega)
            rintro w ⟨ya, yb⟩ U ⟨rfl, i, hyb, hi3, hy⟩
            have hyb' : yb = ((3 * i : Nat) : Int) := hyb
            subst hyb'
            show Wp (B_X10_slips_45 G m a ((yT Y).2 : Int) ya ((3 * i : Nat) : Int) (sI V m 1 0)) _
            unfold B_X10_slips_45
            rcases hy with ⟨q1, q2⟩ | ⟨q1, q2, q3, q4⟩
            · have q1' : ya = 0 := q1
              subst q1'
              exact W_gd ⟨by omega, by omega⟩ (W_gd ⟨by omega, by omega⟩ (W_if (fun _ => W_so (Or.inr ⟨Nat.one_ne_zero, rfl, rfl⟩)) (fun _ => W_gd (by decide) (W_if (fun _ => W_so (Or.inr ⟨Nat.one_ne_zero, rfl, rfl⟩)) (fun z => absurd rfl z)))))
            · have q1' : ya = 1 := q1
              subst q1'
              have full : ¬ ((yT Y).2 : Int) ≤ ((3 * i : Nat) : Int) := fun z => hns ⟨by omega, by omega, by omega, fun j hj => q4 j (by omega)⟩
              have x0 := hT.2 (3 * i) (by omega)
              have x1 := hT.2 (3 * i + 1) (by omega)
              have x2 := hT.2 (3 * i + 2) (by omega)
              have g0 : gA (sI V m 1 0) (m + 1) (3 * i) = (yT Y).1 (3 * i) := b1 _ (by omega)
              have g1 : gA (sI V m 1 0) (m + 1) (3 * i + 1) = (yT Y).1 (3 * i + 1) := b1 _ (by omega)
              have g2 : gA (sI V m 1 0) (m + 1) (3 * i + 2) = (yT Y).1 (3 * i + 2) := b1 _ (by omega)
              have et := r_isT (G := G) (V := sI V m 1 0) ho.1 hv2 (t := (yT Y).1 (3 * i + 1)) ⟨by omega, by omega⟩
              rw [show (((3 * i : Nat) : Int)).toNat = 3 * i by omega, g0, show (((3 * i : Nat) : Int) + 1).toNat = 3 * i + 1 by omega, g1, show (((3 * i : Nat) : Int) + 2).toNat = 3 * i + 2 by omega]
              have stop : ∀ z : Int, z = ((3 * i : Nat) : Int) + 3 → ∃ w', w' < w ∧ (sI V m 1 0 = sI V m 1 0 ∧ ∃ i : Nat, z = ((3 * i : Nat) : Int) ∧ 3 * i ≤ (yT Y).2 ∧ (((0 : Int) = 0 ∧ w' = 0) ∨ ((0 : Int) = 1 ∧ 1 ≤ w' ∧ 3 * i + 3 * (w' - 1) = (yT Y).2 ∧ ∀ j, j < i → slRow (yZ Y).1 (yT Y) j))) := fun z hz => ⟨0, by omega, rfl, i + 1, by omega, by omega, Or.inl ⟨rfl, rfl⟩⟩
              refine W_gd ⟨by omega, by omega⟩ (W_gd ⟨by omega, by omega⟩ (W_if (fun z => absurd z full) (fun _ => W_gd (by decide) (W_if (fun z => absurd z (by decide)) (fun _ => W_gd ⟨by omega, by omega, by omega⟩ (W_gd ⟨by omega, by omega⟩ (W_if (fun d0 => W_lt (W_so (Or.inl ⟨rfl, stop _ rfl⟩))) (fun d0 => W_gd ⟨by omega, by omega, by omega⟩ (W_be et ?_)))))))))
              by_cases d1 : (yT Y).1 (3 * i + 1) < ct (yZ Y).1
              rotate_left
              · rw [if_neg (fun z => d1 z.2)]
                exact W_gd (by decide) (W_if (fun _ => W_lt (W_so (Or.inl ⟨rfl, stop _ rfl⟩))) (fun z => absurd rfl z))
              rw [if_pos ⟨x1.1, d1⟩]
              refine W_gd (by decide) (W_if (fun z => absurd z (by decide)) (fun _ => W_gd ⟨by omega, by omega, by omega⟩ ?_))
              rw [g2]
              refine W_gd ⟨by omega, by omega⟩ (W_if (fun d2 => W_lt (W_so (Or.inl ⟨rfl, stop _ rfl⟩))) (fun d2 => W_lt (W_so (Or.inl ⟨rfl, w - 1, by omega, rfl, i + 1, by show ((3 * i : Nat) : Int) + 3 = _; omega, by omega, Or.inr ⟨rfl, by omega, by omega, fun j hj => ?_⟩⟩))))
              by_cases e : j = i
              · rw [e]; exact ⟨by omega, d1, by omega⟩
              · exact q4 j (by omega)
          obtain ⟨V3, q3, e6, hV3, e7⟩ := main
          refine E_bd e6 ?_
          rw [e7, hV3]; exact J108
        · rw [if_neg cp] at e1
          exact E_n e1 J40
      · have w2 : gA V2 i = gA V i := by rw [hV2, gA_sAo (by omega)]; rfl
        refine ⟨?_, w2, by rw [hV2]; rfl, by rw [hV2]; rfl⟩
        rw [hV2]
        funext k
        show gI (sI V m 1 0) i k = _
        rw [gI_sI, if_neg (by omega)]
    · obtain ⟨⟨a1, a2, a3, a4, a5, a6, a7⟩, b, c', d⟩ := okA_ref (k := 1) h
      exact ⟨⟨a1, a2, ⟨Nat.zero_le _, fun j hj => (by cases hj)⟩, a4, a5, a6, a7⟩, b, c', d⟩
end

/-! from bytes to tokens (class), the whole; the next token -/
def tOk (T : mT2) : Prop := T.2 ≤ 1600 ∧ ∀ j, j < T.2 → 0 ≤ T.1 j ∧ T.1 j ≤ 255
theorem kd_4 {T : mT2} {p : Nat} : kdT T p ≤ 4 := by
  unfold kdT
  (repeat' split) <;> decide
theorem te_le {T : mT2} {p : Nat} (hp : p ≤ T.2) : p ≤ teT T p ∧ teT T p ≤ T.2 := by
  by_cases h : p < T.2
  · have := teT_gt h; omega
  · unfold teT; rw [if_pos (by omega)]; omega
theorem vl_0 {T : mT2} {p : Nat} (hp : p < T.2) (l : isL (T.1 p) = true) : vlT T p = nm5 (ltr T p (min (ew isL T p - p) 6)) := by
  unfold vlT lnT
  rw [if_neg (by omega), if_pos l, te_0 hp l]
theorem vl_d {T : mT2} {p : Nat} (hp : p < T.2) (l : ¬ isL (T.1 p) = true) (d : isD (T.1 p) = true) : vlT T p = dig T p (min (ew isD T p - p) 4) ∧ teT T p = ew isD T p := by
  have e : teT T p = ew isD T p := by unfold teT; rw [if_neg (by omega), if_neg l, if_pos d]
  refine ⟨?_, e⟩
  unfold vlT lnT
  rw [if_neg (by omega), if_neg l, if_pos d, e]
theorem ltr_w {T : mT2} {p : Nat} (hp : p < T.2) (m : Nat) (hm : m ≤ ew isL T p - p) : okW (ltr T p m) := ltr_ok m (fun j hj => run_at (A := isL) (by omega) (by omega))
theorem vl_rg {T : mT2} {p : Nat} (hT : tOk T) : 0 ≤ vlT T p ∧ vlT T p < 1073741824 := by
  by_cases hp : p < T.2
  · by_cases l : isL (T.1 p) = true
    · rw [vl_0 hp l]
      have ok := ltr_w hp (min (ew isL T p - p) 6) (by omega)
      have a := nm5_nn ok
      have b := nm5_lt ok
      rw [ltr_len] at b
      have c : (32 ^ (min (ew isL T p - p) 6) : Nat) ≤ 32 ^ 6 := Nat.pow_le_pow_right (by decide) (by omega)
      omega
    · by_cases d : isD (T.1 p) = true
      · rw [(vl_d hp l d).1]
        have b := dig_bd (T := T) (p := p) (min (ew isD T p - p) 4) (fun j hj => run_at (A := isD) (by omega) (by omega))
        have c : (10 ^ (min (ew isD T p - p) 4) : Nat) ≤ 10 ^ 4 := Nat.pow_le_pow_right (by decide) (by omega)
        omega
      · have := hT.2 p hp
        unfold vlT
        rw [if_neg (by omega), if_neg l, if_neg d]
        omega
  · unfold vlT
    rw [if_pos (by omega)]
    omega
theorem pT_le {T : mT2} : ∀ i, pT T i ≤ T.2 := by
  intro i
  induction i with
  | zero => exact (bsk_spec (Nat.zero_le _)).2.1
  | succ i ih =>
    show nxT T (pT T i) ≤ T.2
    by_cases h : pT T i < T.2
    · exact (nxT_gt h).2
    · rw [nxT_out (by omega)]; exact ih
/-- the rows of a reader, at any time -/
def zRd (G : mG) (V : mV) (r : Nat) : Prop := rz G V (r + 1) ∧ rz G V (r + 3) ∧ rz G V (r + 5) ∧ rz G V (r + 7) ∧ rz G V (r + 9)
theorem rz.fr {G : mG} {V V1 : mV} {S : Nat → Prop} {r : Nat} (h : rz G V r) (k : fr S V V1) (h1 : ¬ S r) : rz G V1 r := by
  unfold rz; rw [k.I h1]; exact h
/-- a reader somewhere in a text -/
def cA (V : mV) (r : Nat) (T : mT2) (p : Nat) : Prop := ∃ cnt i : Nat, tkR V r T (cnt + 1) ∧ pT T cnt = T.2 ∧ cnt ≤ 1600 ∧ gI V r 6 = (i : Int) ∧ i ≤ cnt ∧ pT T i = p
section
variable {G : mG} {V : mV} {r tp : Nat} {T : mT2}
theorem p6_scan (hG : is6 G r) (ht : is7 G tp) (hq : qG G (tp + 1) = 1600) (h : vTx V tp T) (hw : rw' V (r + 11) 33 wf33) {i k : Nat} (hk : k < T.2) (hi : i ≤ k) (hR : tkR V r T i) (hp : pT T i = bsk T k) :
    ∃ V' k', F_X6_scan G r tp (k : Int) V = some (V', ((k' : Nat) : Int)) ∧ k < k' ∧ k' ≤ T.2 ∧ fr (fun i => r + 1 ≤ i ∧ i ≤ r + 10) V V' ∧ ∃ i', tkR V' r T i' ∧ pT T i' = bsk T k' ∧ i' ≤ k' := by
  have h2 := h.2.1
  have hT : tOk T := ⟨h.2.1, h.2.2.2⟩
  have hg := tx_get ht hq h hk
  have hr := tx_rg h hk
  have vr : ∀ p, rg (vlT T p) := fun p => by have := vl_rg (p := p) hT; exact ⟨by omega, by omega⟩
  by_cases b : isB (T.1 k) = true
  · refine ⟨V, k + 1, ?_, by omega, by omega, fr_refl, i, hR, ?_, by omega⟩
    · unfold F_X6_scan
      refine E_bd hg (E_gd hr (E_if (fun _ => E_so rfl (by omega)) (fun q => E_if (fun _ => E_so rfl (by omega)) (fun q2 => ?_))))
      exact absurd (isB_i.mp b) (by omega)
    · rw [hp]; exact ew_step hk b
  · have nb : T.1 k ≠ 32 ∧ T.1 k ≠ 10 := ⟨fun q => b (isB_i.mpr (Or.inl q)), fun q => b (isB_i.mpr (Or.inr q))⟩
    have hpk : pT T i = k := by rw [hp]; exact ew_stop b
    have hnx : pT T (i + 1) = bsk T (teT T k) := by show nxT T (pT T i) = _; rw [hpk]; rfl
    have tg := teT_gt hk
    have hl : lnT T k ≤ 1600 := by unfold lnT; omega
    have hin : teT T k = k + lnT T k := by unfold lnT; omega
    by_cases l : isL (T.1 k) = true
    · obtain ⟨c, e1, e2, e3, -⟩ := tx_pre ht hq h hk
      have te := te_0 hk l
      have ev := vl_0 hk l
      obtain ⟨V', f1, f2, f3⟩ := p6_put (s := ((kdT T k : Nat) : Int)) (ln := ((lnT T k : Nat) : Int)) hG hw hR (by omega) hpk (fun _ _ => vr _) hl rfl rfl
      refine ⟨V', teT T k, ?_, by omega, by omega, f2, i + 1, f3, hnx, by omega⟩
      have kd : kdT T k = if k ≠ 0 ∧ isD (T.1 (k - 1)) = true then 4 else 0 := by unfold kdT; rw [if_neg (by omega), if_pos l]
      unfold F_X6_scan
      refine E_bd hg (E_gd hr (E_if (fun q => absurd q nb.1) (fun _ => E_if (fun q => absurd q nb.2) (fun _ => E_bd (p6_let hr) ?_))))
      rw [if_pos l]
      refine E_gd (by decide) (E_if (fun q => absurd q (by decide)) (fun _ => ?_))
      refine E_bd (V1 := V') (v1 := ((teT T k : Nat) : Int)) ?_ rfl
      unfold F_X6_scanWord
      refine E_bd (lp_word ht hq h hk) ?_
      show F_X6_scanWord_J62 G r tp (k : Int) (nm5 (ltr T k (min (ew isL T k - k) 6))) ((ew isL T k : Nat) : Int) V = _
      rw [← ev, ← te]
      have fin : ∀ s : Int, s = ((kdT T k : Nat) : Int) → F_X6_scanWord_J81 G r tp (k : Int) (vlT T k) ((teT T k : Nat) : Int) s V = some (V', ((teT T k : Nat) : Int)) := by
        intro s hs
        unfold F_X6_scanWord_J81
        rw [hs, show ((teT T k : Nat) : Int) - (k : Int) = ((lnT T k : Nat) : Int) by omega]
        exact E_bd f1 rfl
      unfold F_X6_scanWord_J62
      refine E_bd e1 (E_bd (p6_dig e2) ?_)
      by_cases d : isD c = true
      · rw [if_pos d]
        rw [if_pos (e3.mp d)] at kd
        exact E_gd (by decide) (E_if (fun q => absurd q (by decide)) (fun _ => fin 4 (by rw [kd]; rfl)))
      · rw [if_neg d]
        rw [if_neg (fun q => d (e3.mpr q))] at kd
        exact E_gd (by decide) (E_if (fun _ => fin 0 (by rw [kd]; rfl)) (fun q => absurd rfl q))
    · by_cases d : isD (T.1 k) = true
      · obtain ⟨c, e1, e2, -, e3⟩ := tx_pre ht hq h hk
        obtain ⟨ev, te⟩ := vl_d hk l d
        obtain ⟨V', f1, f2, f3⟩ := p6_put (s := ((kdT T k : Nat) : Int)) (ln := ((lnT T k : Nat) : Int)) hG hw hR (by omega) hpk (fun _ _ => vr _) hl rfl rfl
        refine ⟨V', teT T k, ?_, by omega, by omega, f2, i + 1, f3, hnx, by omega⟩
        have kd : kdT T k = if k ≠ 0 ∧ isL (T.1 (k - 1)) = true then 4 else 1 := by unfold kdT; rw [if_neg (by omega), if_neg l, if_pos d]
        unfold F_X6_scan
        refine E_bd hg (E_gd hr (E_if (fun q => absurd q nb.1) (fun _ => E_if (fun q => absurd q nb.2) (fun _ => E_bd (p6_let hr) ?_))))
        rw [if_neg l]
        refine E_gd (by decide) (E_if (fun _ => E_bd (p6_dig hr) ?_) (fun q => absurd rfl q))
        rw [if_pos d]
        refine E_gd (by decide) (E_if (fun q => absurd q (by decide)) (fun _ => ?_))
        refine E_bd (V1 := V') (v1 := ((teT T k : Nat) : Int)) ?_ rfl
        unfold F_X6_scanNumber
        refine E_bd (lp_num ht hq h hk) ?_
        show F_X6_scanNumber_J55 G r tp (k : Int) (dig T k (min (ew isD T k - k) 4)) ((ew isD T k : Nat) : Int) V = _
        rw [← ev, ← te]
        have fin : ∀ s : Int, s = ((kdT T k : Nat) : Int) → F_X6_scanNumber_J74 G r tp (k : Int) (vlT T k) ((teT T k : Nat) : Int) s V = some (V', ((teT T k : Nat) : Int)) := by
          intro s hs
          unfold F_X6_scanNumber_J74
          rw [hs, show ((teT T k : Nat) : Int) - (k : Int) = ((lnT T k : Nat) : Int) by omega]
          exact E_bd f1 rfl
        unfold F_X6_scanNumber_J55
        refine E_bd e1 (E_bd (p6_let e2) ?_)
        by_cases l2 : isL c = true
        · rw [if_pos l2]
          rw [if_pos (e3.mp l2)] at kd
          exact E_gd (by decide) (E_if (fun q => absurd q (by decide)) (fun _ => fin 4 (by rw [kd]; rfl)))
        · rw [if_neg l2]
          rw [if_neg (fun q => l2 (e3.mpr q))] at kd
          exact E_gd (by decide) (E_if (fun _ => fin 1 (by rw [kd]; rfl)) (fun q => absurd rfl q))
      · have te : teT T k = k + 1 := by unfold teT; rw [if_neg (by omega), if_neg l, if_neg d]
        have kd : kdT T k = 2 := kd_2.mpr ⟨hk, l, d⟩
        have ev := vl_2 kd
        obtain ⟨V', f1, f2, f3⟩ := p6_put (s := 2) (ln := 1) hG hw hR (by omega) hpk (fun _ _ => vr _) hl (by rw [kd]; rfl) (by omega)
        refine ⟨V', teT T k, ?_, by omega, by omega, f2, i + 1, f3, hnx, by omega⟩
        rw [ev] at f1
        unfold F_X6_scan
        refine E_bd hg (E_gd hr (E_if (fun q => absurd q nb.1) (fun _ => E_if (fun q => absurd q nb.2) (fun _ => E_bd (p6_let hr) ?_))))
        rw [if_neg l]
        refine E_gd (by decide) (E_if (fun _ => E_bd (p6_dig hr) ?_) (fun q => absurd rfl q))
        rw [if_neg d]
        exact E_gd (by decide) (E_if (fun _ => E_bd f1 (E_so rfl (by omega))) (fun q => absurd rfl q))
theorem p6_start (hG : is6 G r) (ht : is7 G tp) (hq : qG G (tp + 1) = 1600) (hd : tp + 1 < r) (h : vTx V tp T) (hz : zRd G V r) (hw : rw' V (r + 11) 33 wf33) :
    ∃ V', F_X6_start G r tp V = some (V', 0) ∧ fr (fun i => r ≤ i ∧ i ≤ r + 10) V V' ∧ cA V' r T (bsk T 0) ∧ gI V' r 11 = 0 ∧ gI V' r 12 = -1 ∧ gI V' r 10 = gI V r 10 := by
  have h2 := h.2.1
  obtain ⟨z1, z2, z3, z4, z5⟩ := hz
  obtain ⟨V1, e1, k1, w1⟩ := rw_cut0 (f := fun k => ((kdT T (pT T k.toNat) : Nat) : Int)) (s6_0s hG) z1
  obtain ⟨V2, e2, k2, w2⟩ := rw_cut0 (V := V1) (f := fun k => ((pT T k.toNat : Nat) : Int)) (s6_1s hG) (z2.fr k1 (by omega))
  have k12 : fr (fun i => r + 1 ≤ i ∧ i ≤ r + 3) V V2 := (k1.mono (fun i q => by omega)).trans (k2.mono (fun i q => by omega))
  obtain ⟨V3, e3, k3, w3⟩ := rw_cut0 (V := V2) (f := fun k => ((lnT T (pT T k.toNat) : Nat) : Int)) (s6_2s hG) (z3.fr k12 (by omega))
  have k13 : fr (fun i => r + 1 ≤ i ∧ i ≤ r + 5) V V3 := (k12.mono (fun i q => by omega)).trans (k3.mono (fun i q => by omega))
  obtain ⟨V4, e4, k4, w4⟩ := rw_cut0 (V := V3) (f := fun k => vlT T (pT T k.toNat)) (s6_3s hG) (z4.fr k13 (by omega))
  have k14 : fr (fun i => r + 1 ≤ i ∧ i ≤ r + 7) V V4 := (k13.mono (fun i q => by omega)).trans (k4.mono (fun i q => by omega))
  obtain ⟨V5, e5, k5, w5⟩ := rw_cut0 (V := V4) (f := fun k => nmT T (pT T k.toNat)) (s6_4s hG) (z5.fr k14 (by omega))
  have k15 : fr (fun i => r + 1 ≤ i ∧ i ≤ r + 9) V V5 := (k14.mono (fun i q => by omega)).trans (k5.mono (fun i q => by omega))
  obtain ⟨U, hU⟩ : ∃ U, U = sI (sI (sI V5 r 6 0) r 11 0) r 12 (-1) := ⟨_, rfl⟩
  have kU : fr (fun i => i = r) V5 U := by rw [hU]; exact ((fr_sI (S := fun i => i = r) rfl).trans (fr_sI (S := fun i => i = r) rfl)).trans (fr_sI (S := fun i => i = r) rfl)
  have k0U : fr (fun i => r ≤ i ∧ i ≤ r + 10) V U := (k15.mono (fun i q => by omega)).trans (kU.mono (fun i q => by omega))
  have u6 : gI U r 6 = 0 := by rw [hU, gI_sI, if_neg (by omega), gI_sI, if_neg (by omega), gI_sI, if_pos ⟨rfl, rfl⟩]
  have u11 : gI U r 11 = 0 := by rw [hU, gI_sI, if_neg (by omega), gI_sI, if_pos ⟨rfl, rfl⟩]
  have u12 : gI U r 12 = -1 := by rw [hU, gI_sI, if_pos ⟨rfl, rfl⟩]
  have u10 : gI U r 10 = gI V r 10 := by rw [hU, gI_sI, if_neg (by omega), gI_sI, if_neg (by omega), gI_sI, if_neg (by omega), k15.I (by omega)]
  have hR0 : tkR U r T 0 := by
    refine tkR.fr (V := V5) ⟨?_, ?_, ?_, ?_, w5⟩ kU (fun i a b => by omega)
    · exact (((w1.fr k2 (by omega) (by omega)).fr k3 (by omega) (by omega)).fr k4 (by omega) (by omega)).fr k5 (by omega) (by omega)
    · exact ((w2.fr k3 (by omega) (by omega)).fr k4 (by omega) (by omega)).fr k5 (by omega) (by omega)
    · exact (w3.fr k4 (by omega) (by omega)).fr k5 (by omega) (by omega)
    · exact w4.fr k5 (by omega) (by omega)
  have hxU : vTx U tp T := h.fr k0U (by omega) (by omega)
  have hwU : rw' U (r + 11) 33 wf33 := hw.fr k0U (by omega) (by omega)
  have main : Wp (lp (fun (s : Int × Int) V => B_X6_start_59 G r tp s.1 s.2 V) FU (0, 0) U) (fun V' q => fr (fun i => r + 1 ≤ i ∧ i ≤ r + 10) U V' ∧ ∃ i : Nat, tkR V' r T i ∧ pT T i = T.2 ∧ i ≤ 1600) := by
    refine W_lp (fun w (y : Int × Int) W => fr (fun i => r + 1 ≤ i ∧ i ≤ r + 10) U W ∧ ∃ k t i : Nat, y = ((k : Int), (t : Int)) ∧ k ≤ T.2 ∧ t ≤ k ∧ i ≤ k ∧ tkR W r T i ∧ pT T i = bsk T k ∧ k + w = T.2) ?_ FU T.2 _ U ⟨fr_refl, 0, 0, 0, rfl, by omega, by omega, by omega, hR0, rfl, by omega⟩ (by unfold FU; omega)
    rintro w y W ⟨kW, k, t, i, rfl, hk, htk, hik, hR, hp, hm⟩
    show Wp (B_X6_start_59 G r tp (k : Int) (t : Int) W) _
    have done : k = T.2 → ∃ i : Nat, tkR W r T i ∧ pT T i = T.2 ∧ i ≤ 1600 := fun e => ⟨i, hR, by rw [hp, e]; exact ew_out (Nat.le_refl _), by omega⟩
    have hxW : vTx W tp T := hxU.fr kW (by omega) (by omega)
    unfold B_X6_start_59
    refine W_gd ⟨by omega, by omega⟩ (W_if (fun q => W_so (Or.inr ⟨Nat.one_ne_zero, kW, done (by omega)⟩)) (fun q => ?_))
    refine W_be p7_size (W_gd ⟨by omega, by omega⟩ (W_gd (by rw [hxW.1]; exact ⟨by omega, by omega⟩) (W_if (fun q2 => ?_) (fun q2 => ?_))))
    · rw [hxW.1] at q2
      exact W_so (Or.inr ⟨Nat.one_ne_zero, kW, done (by omega)⟩)
    · rw [hxW.1] at q2
      obtain ⟨V', k', f1, f2, f3, f4, i', f5, f6, f7⟩ := p6_scan hG ht hq hxW (hwU.fr kW (by omega) (by omega)) (k := k) (by omega) hik hR hp
      refine W_be f1 (W_lt (W_so (Or.inl ⟨rfl, T.2 - k', by omega, kW.trans f4, k', t + 1, i', ?_, f3, by omega, f7, f5, f6, by omega⟩)))
      refine Prod.ext rfl ?_
      show (t : Int) + 1 = _
      omega
  obtain ⟨W, q, l1, kW, cnt, hR, hp, hc⟩ := main
  have kd3 : kdT T T.2 = 3 := kd_out.mpr (Nat.le_refl _)
  have ln0 : lnT T T.2 = 0 := by unfold lnT teT; rw [if_pos (Nat.le_refl _)]; omega
  have vl00 : vlT T T.2 = 0 := by unfold vlT; rw [if_pos (Nat.le_refl _)]
  obtain ⟨V', f1, f2, f3⟩ := p6_put (s := 3) (ln := 0) hG (hwU.fr kW (by omega) (by omega)) hR hc hp (fun q => by rw [kd3] at q; cases q) (by omega) (by rw [kd3]; rfl) (by rw [ln0]; rfl)
  rw [vl00] at f1
  have kk : fr (fun i => r + 1 ≤ i ∧ i ≤ r + 10) U V' := kW.trans f2
  refine ⟨V', ?_, k0U.trans (kk.mono (fun i q => by omega)), ⟨cnt, 0, f3, hp, hc, by rw [kk.I (by omega), u6]; rfl, Nat.zero_le _, rfl⟩, by rw [kk.I (by omega), u11], by rw [kk.I (by omega), u12], by rw [kk.I (by omega), u10]⟩
  unfold F_X6_start
  refine E_bd e1 (E_bd e2 (E_bd e3 (E_bd e4 (E_bd e5 (E_lt (E_lt (E_lt ?_)))))))
  rw [← hU]
  refine E_bd l1 ?_
  unfold F_X6_start_J87
  refine E_bd p7_size ?_
  rw [(hxU.fr kW (by omega) (by omega)).1]
  exact E_bd f1 rfl
end

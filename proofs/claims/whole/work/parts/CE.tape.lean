/-! fault, status, octet, seed, end, feed: both -/
section
variable {G : mG} {V V' : mV} {x m N : Nat} {Y : mY}
def aFault (Y : mY) (k : Int) : Int := if k = 0 then (yF Y).1 else if k = 1 then (yF Y).2 else -1
theorem S_fault {a : Int} (h : okA N Y) (h1 : rg a) : STEP G x m N (F_X9_fault G x a) (F_X10_fault G m a) Y := by
  obtain ⟨f1, f2⟩ := h.1.2.2.2.1
  refine ⟨Y, aFault Y a, CL_0 (fun V hv => ?_), RF_0 (fun V hv => ?_), okA_s h, ?_⟩
  · unfold F_X9_fault aFault
    refine E_gd h1 (E_if (fun q => E_so rfl (by rw [if_pos q]; exact hv.2.2.2.1.1)) (fun q => E_if (fun q2 => E_so rfl (by rw [if_neg q, if_pos q2]; exact hv.2.2.2.1.2)) (fun q2 => E_so rfl (by rw [if_neg q, if_neg q2]))))
  · unfold F_X10_fault aFault
    refine E_gd h1 (E_if (fun q => E_so rfl (by rw [if_pos q]; exact hv.2.2.1.1)) (fun q => E_if (fun q2 => E_so rfl (by rw [if_neg q, if_pos q2]; exact hv.2.2.1.2)) (fun q2 => E_so rfl (by rw [if_neg q, if_neg q2]))))
  · unfold aFault
    split
    · exact f1
    · split
      · exact f2
      · exact ⟨by decide, by decide⟩
def aStat (Y : mY) (k : Int) : Int := if 0 ≤ k ∧ k < 6 then (yZ Y).2.2.2 k else -1
theorem S_status {a : Int} (hG : is9 G x) (h : okA N Y) (hN : N ≤ 100000) (h1 : rg a) : STEP G x m N (F_X9_status G x a) (F_X10_status G m a) Y := by
  refine ⟨Y, aStat Y a, CL_0 (fun V hv => ?_), RF_0 (fun V hv => ?_), okA_s h, ?_⟩
  · unfold F_X9_status aStat
    exact E_bd (rw_any (s9_2s hG) (s9_2c hG) hv.1.2.2.2.2.2.2.2 (by decide) h1) rfl
  · have ei := r_isIn (G := G) (V := V) (x := a) (a := 0) (b := 5) ⟨by omega, by omega⟩ ⟨by decide, by decide⟩ ⟨by decide, by decide⟩
    unfold F_X10_status aStat
    by_cases c : 0 ≤ a ∧ a < 6
    · rw [if_pos (by omega)] at ei
      rw [if_pos c]
      exact E_gd h1 (E_y ei (E_gd ⟨by omega, by omega, by omega⟩ (E_so rfl (hv.1.2.2.2.1 a c.1 c.2))))
    · rw [if_neg (by omega)] at ei
      rw [if_neg c]
      exact E_gd h1 (E_n ei rfl)
  · have := h.2.2.1 a
    unfold aStat
    split
    · exact ⟨by omega, by omega⟩
    · exact ⟨by decide, by decide⟩
def aOct (Y : mY) (k : Int) : Int := if 0 ≤ k ∧ k < ((yI Y).length : Int) then (yI Y).getD k.toNat 0 else -1
theorem S_octet {a : Int} (hG : is9 G x) (h : okA N Y) (h1 : rg a) : STEP G x m N (F_X9_octet G x a) (F_X10_octet G m a) Y := by
  obtain ⟨l1, l2⟩ := h.1.2.2.2.2.1
  refine ⟨Y, aOct Y a, CL_0 (fun V hv => ?_), RF_0 (fun V hv => ?_), okA_s h, ?_⟩
  · unfold F_X9_octet aOct
    exact E_bd (rw_any (s9_1s hG) (s9_1c hG) hv.2.2.2.2.1 ⟨by omega, by omega⟩ h1) rfl
  · obtain ⟨d1, d2⟩ := hv.2.2.2.1
    unfold F_X10_octet aOct
    refine E_gd h1 (E_if (fun q => E_so rfl (by rw [if_neg (by omega)])) (fun q => ?_))
    rw [d1]
    refine E_gd ⟨by omega, by omega⟩ (E_if (fun q2 => E_so rfl (by rw [if_neg (by omega)])) (fun q2 => E_gd ⟨by omega, by omega, by omega⟩ (E_so rfl ?_)))
    rw [if_pos ⟨by omega, by omega⟩]
    exact d2 _ (by omega)
  · have r := getD_rg (lo := 0) (hi := 255) l2 a.toNat ⟨by decide, by decide⟩
    unfold aOct
    split
    · exact ⟨by omega, by omega⟩
    · exact ⟨by decide, by decide⟩
theorem CL_ref {f : mV → Option (mV × Int)} {a k : Int} (hG : is9 G x) (hm : m = x + 327) (hk : 0 ≤ k ∧ k < 6) (h : ∀ V V1, vY G V x Y → F_X9_refuse G x k V = some (V1, -1) → f V = some (V1, a)) : CL G x m f Y (refZ (yZ Y) k, Y.2) a :=
  CL_E hm (fun V hv => by
    obtain ⟨V1, e, k1, z⟩ := c_refuse hG hv.1 hk
    exact ⟨V1, h V V1 hv e, k1, z⟩)
theorem RF_ref {f : mV → Option (mV × Int)} {a k : Int} (hk : 0 ≤ k ∧ k < 6) (h : ∀ V V1, rY V m Y → F_X10_refuses G m k V = some (V1, -1) → V1 = sA V (m + 2) k.toNat (gA V (m + 2) k.toNat + 1) → f V = some (V1, a)) : RF m f Y (refZ (yZ Y) k, Y.2) a :=
  RF_E (fun V hv => by
    obtain ⟨V1, e, hV1, z⟩ := r_refuse (G := G) hv.1 hk
    exact ⟨V1, h V V1 hv e (by rw [hV1, hv.1.2.2.2.1 k hk.1 hk.2]), by rw [hV1]; exact rG_sA rfl, z⟩)
theorem S_seed {a : Int} (hG : is9 G x) (hm : m = x + 327) (h : okA N Y) (h1 : rg a) : STEP G x m N (F_X9_seed G x a) (F_X10_seed G m a) Y := by
  obtain ⟨⟨a1, a2, a3, a4, a5, a6, a7⟩, b, c, d⟩ := okA_s h
  by_cases q : 0 ≤ a
  · refine ⟨(yZ Y, yT Y, yF Y, yI Y, yS Y, a), 1, fun V hv => ?_, fun V hv => ?_, ⟨⟨a1, a2, a3, a4, a5, a6, ⟨q, by show a < 2147483648; omega⟩⟩, b, c, d⟩, ⟨by decide, by decide⟩⟩
    · refine ⟨sJ V x 13 a, ?_, fun i hi => ⟨rfl, rfl, ?_, rfl⟩, vY_of hv rfl rfl rfl rfl gJ_sJe (fun i _ => ⟨rfl, rfl⟩) hv.1⟩
      · unfold F_X9_seed
        exact E_gd h1 (E_if (fun _ => E_lt rfl) (fun z => absurd q z))
      · funext k
        show u2 (gJ V) x 13 a i k = _
        unfold u2; rw [if_neg (by omega)]
    · refine ⟨sJ V m 71 a, ?_, fun i hi => ⟨rfl, rfl, ?_, rfl⟩, rY_of hv rfl rfl rfl rfl gJ_sJe rGb_sJ hv.1⟩
      · unfold F_X10_seed
        exact E_gd h1 (E_if (fun _ => E_lt rfl) (fun z => absurd q z))
      · funext k
        show u2 (gJ V) m 71 a i k = _
        unfold u2; rw [if_neg (by omega)]
  · refine ⟨(refZ (yZ Y) 5, Y.2), 0, CL_ref hG hm ⟨by decide, by decide⟩ (fun V V1 hv e => ?_), RF_ref (G := G) ⟨by decide, by decide⟩ (fun V V1 hv e hV => ?_), okA_ref h, ⟨by decide, by decide⟩⟩
    · unfold F_X9_seed
      exact E_gd h1 (E_if (fun z => absurd z q) (fun _ => E_bd e rfl))
    · unfold F_X10_seed
      refine E_gd h1 (E_if (fun z => absurd z q) (fun _ => E_lt (E_so ?_ rfl)))
      rw [hV]; rfl
/-- the tape's cells alone -/
theorem vY_tp {T' : mT2} (h : vY G V x Y) (k : fr (fun i => i = x + 1 ∨ i = x + 2) V V') (hT : vT V' x T') : vY G V' x (yZ Y, T', Y.2.2) := by
  obtain ⟨a, ⟨b1, b2⟩, c, ⟨d1, d2⟩, e, ⟨f1, f2⟩, g, i, ⟨⟨z1, z2, z3, z4, z5⟩, j2, j3, j4⟩⟩ := h
  have ha := a.1
  have rzo : ∀ {r : Nat}, rz G V r → ¬ (r = x + 1 ∨ r = x + 2) → rz G V' r := by
    intro r hr h1
    unfold rz at hr ⊢
    rw [k.I h1]; exact hr
  have az : vZ G V' x (yZ Y) := by
    obtain ⟨p1, p2, p3, p4, ⟨e0, p5⟩, p6, p7, p8⟩ := a
    exact ⟨p1, p2.fr k (fun j p q _ => by omega), p3.fr k (fun j p q => by omega), p4.fr k (by omega) (by omega), ⟨e0, p5.fr k (fun j p q => by omega)⟩, by rw [k.I (by omega)]; exact p6, p7.fr k (fun j p q => by omega), p8.fr k (by omega) (by omega)⟩
  exact ⟨az, ⟨b1, b2.fr (fun q q0 q1 => (k.2.2 q (by rcases b1 with w | w <;> omega)).1)⟩, hT, ⟨by rw [k.I (by omega)]; exact d1, by rw [k.I (by omega)]; exact d2⟩, e.fr k (by omega) (by omega), ⟨f1.fr k (by omega) (by omega), fun q => by rw [k.I (by omega)]; exact f2 q⟩, by rw [k.1]; exact g, by unfold vLi; rw [k.I (by omega)]; exact i, ⟨⟨rzo z1 (by omega), rzo z2 (by omega), rzo z3 (by omega), rzo z4 (by omega), rzo z5 (by omega)⟩, j2.fr k (by omega) (by omega), rzo j3 (by omega), by rw [k.I (by omega)]; exact j4⟩⟩
theorem rY_tp {T' : mT2} (h : rY V m Y) (kA : ∀ i, i ≠ m + 1 → gA V' i = gA V i) (kI : ∀ k, k ≠ 1 → gI V' m k = gI V m k) (kJ : gJ V' = gJ V) (kL : gL V' = gL V) (hT : rTp V' m T') : rY V' m (yZ Y, T', Y.2.2) := by
  obtain ⟨⟨a1, a2, ⟨p1, p2, p3, p4⟩, a4, a5⟩, -, ⟨c1, c2⟩, ⟨d1, d2⟩, ⟨e1, e2, e3⟩, f, g⟩ := h
  refine ⟨⟨a1.fr ⟨fun i p q => kA i (by omega), by rw [kL]⟩, by rw [kA _ (by omega)]; exact a2, ⟨by rw [kI _ (by decide)]; exact p1, p2, by rw [kI _ (by decide)]; exact p3, fun i hi => by rw [kI _ (by decide), kA _ (by omega)]; exact p4 i hi⟩, fun j p q => by rw [kA _ (by omega)]; exact a4 j p q, by rw [kI _ (by decide)]; exact a5⟩, hT, ⟨by rw [kI _ (by decide)]; exact c1, by rw [kI _ (by decide)]; exact c2⟩, ⟨by rw [kI _ (by decide)]; exact d1, fun j hj => by rw [kA _ (by omega)]; exact d2 j hj⟩, ⟨by rw [kI _ (by decide)]; exact e1, fun j hj => by rw [kA _ (by omega)]; exact e2 j hj, fun q => by rw [kI _ (by decide)]; exact e3 q⟩, by rw [kJ]; exact f, fun q hq => ?_⟩
  have := g q hq
  unfold wdA at this ⊢
  unfold isW at hq
  rw [kA _ (by omega)]; exact this
theorem S_end {a : Int} (hG : is9 G x) (hm : m = x + 327) (h : okA N Y) (h1 : rg a) : STEP G x m N (F_X9_end G x a) (F_X10_end G m a) Y := by
  have hT := h.1.2.2.1
  by_cases q : 0 ≤ a ∧ a ≤ ((yT Y).2 : Int)
  · refine ⟨(yZ Y, ((yT Y).1, a.toNat), Y.2.2), 1, fun V hv => ?_, fun V hv => ?_, ?_, ⟨by decide, by decide⟩⟩
    · have hc := hv.2.2.1
      have hsz : gI V (x + 1) 1 = ((yT Y).2 : Int) := hc.1
      obtain ⟨V1, hV1⟩ : ∃ V1, V1 = rcut V (x + 1) a := ⟨_, rfl⟩
      have k1 : fr (fun i => i = x + 1 ∨ i = x + 2) V V1 := by rw [hV1]; exact fr_rcut (Or.inl rfl)
      have hT1 : vT V1 x ((yT Y).1, a.toNat) := by
        refine ⟨?_, fun j j0 j1 => ?_⟩
        · rw [hV1]; unfold rcut
          split
          · rw [gI_sI, if_pos ⟨rfl, rfl⟩]; show a = ((a.toNat : Nat) : Int); omega
          · next z => rw [hsz]; show ((yT Y).2 : Int) = ((a.toNat : Nat) : Int); omega
        · have e1 : rc V1 (x + 1) = rc V (x + 1) := by rw [hV1]; unfold rcut; split <;> rfl
          have j1' : j < ((a.toNat : Nat) : Int) := j1
          rw [e1]; exact hc.2 j j0 (by omega)
      refine ⟨V1, ?_, fun i hi => ?_, vY_tp hv k1 hT1⟩
      · unfold F_X9_end
        refine E_gd h1 (E_if (fun z => by omega) (fun _ => E_bd p7_size ?_))
        rw [hsz]
        refine E_gd ⟨by omega, by have := hT.1; omega⟩ (E_if (fun _ => E_bd (p7_cut (s9_0s hG) (rw_rz (s9_0c hG) hsz ⟨by omega, by have := hT.1; omega⟩) h1) (E_so hV1.symm rfl)) (fun z => absurd q.2 z))
      · obtain ⟨y1, y2⟩ := k1.2.2 i (by omega)
        exact ⟨y1, y2, by rw [k1.1], by rw [k1.2.1]⟩
    · obtain ⟨b1, b2⟩ := hv.2.1
      refine ⟨sI V m 1 a, ?_, fun i hi => ⟨?_, rfl, rfl, rfl⟩, rY_tp hv (fun _ _ => rfl) (fun k hk => by rw [gI_sI, if_neg (by omega)]) rfl rfl ⟨fun j hj => ?_, ?_⟩⟩
      · unfold F_X10_end
        rw [b2]
        exact E_gd h1 (E_if (fun z => by omega) (fun _ => E_gd ⟨by omega, by have := hT.1; omega⟩ (E_if (fun _ => E_lt rfl) (fun z => absurd q.2 z))))
      · funext k
        rw [gI_sI, if_neg (by omega)]
      · have hj' : j < a.toNat := hj
        exact b1 j (by omega)
      · rw [gI_sI, if_pos ⟨rfl, rfl⟩]; show a = ((a.toNat : Nat) : Int); omega
    · obtain ⟨⟨a1, a2, a3, a4, a5, a6, a7⟩, b, c, d⟩ := okA_s h
      exact ⟨⟨a1, a2, ⟨by have := a3.1; show a.toNat ≤ 1600; omega, fun j hj => a3.2 j (by have hj' : j < a.toNat := hj; omega)⟩, a4, a5, a6, a7⟩, b, c, d⟩
  · refine ⟨(refZ (yZ Y) 0, Y.2), 0, CL_ref hG hm ⟨by decide, by decide⟩ (fun V V1 hv e => ?_), RF_ref (G := G) ⟨by decide, by decide⟩ (fun V V1 hv e hV => ?_), okA_ref h, ⟨by decide, by decide⟩⟩
    · have hsz : gI V (x + 1) 1 = ((yT Y).2 : Int) := hv.2.2.1.1
      have j15 : F_X9_end_J15 G x a V = some (V1, 0) := by unfold F_X9_end_J15; exact E_bd e rfl
      unfold F_X9_end
      refine E_gd h1 (E_if (fun _ => j15) (fun z => E_bd p7_size ?_))
      rw [hsz]
      exact E_gd ⟨by omega, by have := hT.1; omega⟩ (E_if (fun z2 => absurd ⟨by omega, z2⟩ q) (fun _ => j15))
    · have j12 : F_X10_end_J12 G m a V = some (V1, 0) := by
        unfold F_X10_end_J12
        refine E_lt (E_so ?_ rfl)
        rw [hV]; rfl
      unfold F_X10_end
      rw [hv.2.1.2]
      exact E_gd h1 (E_if (fun _ => j12) (fun z => E_gd ⟨by omega, by have := hT.1; omega⟩ (E_if (fun z2 => absurd ⟨by omega, z2⟩ q) (fun _ => j12))))
-- ---- feed
def fdw (a b c d e : Int) (k : Nat) : Int := if k < 4 then a else if k < 8 then b else if k < 12 then c else if k < 16 then d else e
def fdb (a b c d e : Int) (k : Nat) : Int := (shr (fdw a b c d e k) (8 * (3 - ((k % 4 : Nat) : Int)))) % 256
def fdT (T : mT2) (a b c d e : Int) : mT2 := (fun j => if j < T.2 then T.1 j else fdb a b c d e (j - T.2), T.2 + 20)
theorem c_fn {a : Int} {n : Int} {f : Int → Int} (hG : is9 G x) (ha : rg a) (h : rw' V (x + 1) n f) (hn : 0 ≤ n ∧ n + 4 ≤ 1600) (h0 : f n = (shr a 24) % 256) (h1 : f (n + 1) = (shr a 16) % 256) (h2 : f (n + 1 + 1) = (shr a 8) % 256) (h3 : f (n + 1 + 1 + 1) = (shr a 0) % 256) :
    ∃ V', F_X9_feedNumber G x a V = some (V', 0) ∧ fr (fun i => i = x + 1 ∨ i = x + 2) V V' ∧ rw' V' (x + 1) (n + 1 + 1 + 1 + 1) f := by
  obtain ⟨V1, e1, k1, r1⟩ := rw_add (s9_0s hG) (s9_0c hG) h ⟨by omega, by show n < 1600; omega⟩ h0
  obtain ⟨V2, e2, k2, r2⟩ := rw_add (s9_0s hG) (s9_0c hG) r1 ⟨by omega, by show n + 1 < 1600; omega⟩ h1
  obtain ⟨V3, e3, k3, r3⟩ := rw_add (s9_0s hG) (s9_0c hG) r2 ⟨by omega, by show n + 1 + 1 < 1600; omega⟩ h2
  obtain ⟨V4, e4, k4, r4⟩ := rw_add (s9_0s hG) (s9_0c hG) r3 ⟨by omega, by show n + 1 + 1 + 1 < 1600; omega⟩ h3
  have st : ∀ (s : Int) (U U' : mV), 0 ≤ s → s < 32 → F_X7_add G (x + 1) ((shr a s) % 256) U = some (U', 0) → B_X9_feedNumber_3 G x a s U = some (U', 0, s + -8) := by
    intro s U U' s0 s1 e
    unfold B_X9_feedNumber_3
    exact E_gd ⟨by omega, by omega⟩ (E_if (fun q => by omega) (fun _ => E_gd ha (E_gd ⟨s0, s1⟩ (E_bd e (E_lt rfl)))))
  have b1 := st 24 V V1 (by decide) (by decide) e1
  have b2 := st 16 V1 V2 (by decide) (by decide) e2
  have b3 := st 8 V2 V3 (by decide) (by decide) e3
  have b4 := st 0 V3 V4 (by decide) (by decide) e4
  have b5 : B_X9_feedNumber_3 G x a (-8) V4 = some (V4, 1, -8) := by
    unfold B_X9_feedNumber_3
    exact E_gd (by decide) (E_if (fun _ => rfl) (fun q => absurd (by decide) q))
  refine ⟨V4, ?_, ((k1.trans k2).trans k3).trans k4, r4⟩
  have e : lp (fun (s : Int) V => B_X9_feedNumber_3 G x a s V) FU 24 V = some (V4, 1, -8) := by
    rw [show FU = 4995 + 1 + 1 + 1 + 1 + 1 from rfl]
    rw [lp_more (B := fun (s : Int) V => B_X9_feedNumber_3 G x a s V) (s := 24) (s' := 16) b1, lp_more (B := fun (s : Int) V => B_X9_feedNumber_3 G x a s V) (s := 16) (s' := 8) b2, lp_more (B := fun (s : Int) V => B_X9_feedNumber_3 G x a s V) (s := 8) (s' := 0) b3, lp_more (B := fun (s : Int) V => B_X9_feedNumber_3 G x a s V) (s := 0) (s' := -8) b4]
    exact lp_stop (q := (1, -8)) b5 Nat.one_ne_zero (by decide)
  unfold F_X9_feedNumber
  exact E_bd e rfl
theorem S_feed {a b c d e : Int} (hG : is9 G x) (hm : m = x + 327) (h : okA N Y) (ha : rg a) (hb : rg b) (hc : rg c) (hd : rg d) (he : rg e) : STEP G x m N (F_X9_feed G x a b c d e) (F_X10_feed G m a b c d e) Y := by
  have hT := h.1.2.2.1
  have hT1 := hT.1
  by_cases q : (yT Y).2 + 20 ≤ 1600
  · refine ⟨(yZ Y, fdT (yT Y) a b c d e, Y.2.2), ((yT Y).2 : Int) + 20, fun V hv => ?_, fun V hv => ?_, ?_, ⟨by omega, by omega⟩⟩
    · have hc0 := hv.2.2.1
      have hsz : gI V (x + 1) 1 = ((yT Y).2 : Int) := hc0.1
      obtain ⟨F, hF⟩ : ∃ F : Int → Int, F = fun k => (fdT (yT Y) a b c d e).1 k.toNat := ⟨_, rfl⟩
      have r0 : rw' V (x + 1) ((yT Y).2 : Int) F := rw_cg hc0 (fun j j0 j1 => by rw [hF]; show (if j.toNat < (yT Y).2 then (yT Y).1 j.toNat else _) = (yT Y).1 j.toNat; rw [if_pos (by omega)])
      have fv : ∀ (k : Nat) (z : Int), z = ((yT Y).2 : Int) + (k : Int) → F z = fdb a b c d e k := by
        intro k z hz
        rw [hF]
        show (if z.toNat < (yT Y).2 then (yT Y).1 z.toNat else fdb a b c d e (z.toNat - (yT Y).2)) = _
        rw [if_neg (by omega), show z.toNat - (yT Y).2 = k by omega]
      obtain ⟨V1, e1, k1, r1⟩ := c_fn hG ha r0 ⟨by omega, by omega⟩ (fv 0 _ (by omega)) (fv 1 _ (by omega)) (fv 2 _ (by omega)) (fv 3 _ (by omega))
      obtain ⟨V2, e2, k2, r2⟩ := c_fn hG hb r1 ⟨by omega, by omega⟩ (fv 4 _ (by omega)) (fv 5 _ (by omega)) (fv 6 _ (by omega)) (fv 7 _ (by omega))
      obtain ⟨V3, e3, k3, r3⟩ := c_fn hG hc r2 ⟨by omega, by omega⟩ (fv 8 _ (by omega)) (fv 9 _ (by omega)) (fv 10 _ (by omega)) (fv 11 _ (by omega))
      obtain ⟨V4, e4, k4, r4⟩ := c_fn hG hd r3 ⟨by omega, by omega⟩ (fv 12 _ (by omega)) (fv 13 _ (by omega)) (fv 14 _ (by omega)) (fv 15 _ (by omega))
      obtain ⟨V5, e5, k5, r5⟩ := c_fn hG he r4 ⟨by omega, by omega⟩ (fv 16 _ (by omega)) (fv 17 _ (by omega)) (fv 18 _ (by omega)) (fv 19 _ (by omega))
      have kk : fr (fun i => i = x + 1 ∨ i = x + 2) V V5 := (((k1.trans k2).trans k3).trans k4).trans k5
      have hT5 : vT V5 x (fdT (yT Y) a b c d e) := by
        refine ⟨?_, fun j j0 j1 => ?_⟩
        · rw [r5.1]; show _ = (((yT Y).2 + 20 : Nat) : Int); omega
        · have j1' : j < (((yT Y).2 + 20 : Nat) : Int) := j1
          rw [r5.2 j j0 (by omega), hF]
      refine ⟨V5, ?_, fun i hi => ?_, vY_tp hv kk hT5⟩
      · unfold F_X9_feed
        refine E_bd p7_size ?_
        rw [hsz]
        refine E_gd ⟨by omega, by omega⟩ (E_if (fun _ => E_bd e1 (E_bd e2 (E_bd e3 (E_bd e4 (E_bd e5 (E_bd p7_size (E_so rfl ?_))))))) (fun z => by omega))
        rw [r5.1]; omega
      · obtain ⟨y1, y2⟩ := kk.2.2 i (by omega)
        exact ⟨y1, y2, by rw [kk.1], by rw [kk.2.1]⟩
    · obtain ⟨b1, b2⟩ := hv.2.1
      have main : Wp (lp (fun (s : Int) V => B_X10_feed_28 G m a b c d e s V) FU 0 V) (fun V' _ => (∀ i, i ≠ m + 1 → gA V' i = gA V i) ∧ (∀ i k, (i ≠ m ∨ k ≠ 1) → gI V' i k = gI V i k) ∧ gJ V' = gJ V ∧ gL V' = gL V ∧ rTp V' m (fdT (yT Y) a b c d e)) := by
        refine W_lp (fun w (y : Int) U => ∃ k : Nat, y = (k : Int) ∧ k + w = 20 ∧ (∀ i, i ≠ m + 1 → gA U i = gA V i) ∧ (∀ i k, (i ≠ m ∨ k ≠ 1) → gI U i k = gI V i k) ∧ gJ U = gJ V ∧ gL U = gL V ∧ gI U m 1 = (((yT Y).2 + k : Nat) : Int) ∧ ∀ j, j < (yT Y).2 + k → gA U (m + 1) j = (fdT (yT Y) a b c d e).1 j) ?_ FU 20 _ V ⟨0, rfl, rfl, fun _ _ => rfl, fun _ _ _ => rfl, rfl, rfl, b2, fun j hj => ?_⟩ (by unfold FU; omega)
        · rintro w y U ⟨k, rfl, hw, h1, h2, h3, h4, h5, h6⟩
          unfold B_X10_feed_28
          refine W_gd ⟨by omega, by omega⟩ (W_if (fun q => W_so (Or.inr ⟨Nat.one_ne_zero, h1, h2, h3, h4, fun j hj => h6 j ?_, ?_⟩)) (fun q => ?_))
          · have hj' : j < (yT Y).2 + 20 := hj
            omega
          · rw [h5]; show (((yT Y).2 + k : Nat) : Int) = (((yT Y).2 + 20 : Nat) : Int); omega
          have J : ∀ s0 : Int, s0 = fdw a b c d e k → Wp (F_X10_feed_J81_28 G m a b c d e (k : Int) s0 U) (fun V' q => (q.1 = 0 ∧ ∃ w', w' < w ∧ ∃ k : Nat, q.2 = (k : Int) ∧ k + w' = 20 ∧ (∀ i, i ≠ m + 1 → gA V' i = gA V i) ∧ (∀ i k, (i ≠ m ∨ k ≠ 1) → gI V' i k = gI V i k) ∧ gJ V' = gJ V ∧ gL V' = gL V ∧ gI V' m 1 = (((yT Y).2 + k : Nat) : Int) ∧ ∀ j, j < (yT Y).2 + k → gA V' (m + 1) j = (fdT (yT Y) a b c d e).1 j) ∨ (q.1 ≠ 0 ∧ (∀ i, i ≠ m + 1 → gA V' i = gA V i) ∧ (∀ i k, (i ≠ m ∨ k ≠ 1) → gI V' i k = gI V i k) ∧ gJ V' = gJ V ∧ gL V' = gL V ∧ rTp V' m (fdT (yT Y) a b c d e))) := by
            intro s0 hs0
            have hrg : rg s0 := by
              rw [hs0]; unfold fdw
              (repeat' split) <;> assumption
            have hk4 : ((k : Int)).tmod 4 = ((k % 4 : Nat) : Int) := by
              rw [Int.tmod_eq_emod_of_nonneg (by omega)]; omega
            unfold F_X10_feed_J81_28
            rw [hk4, h5]
            refine W_gd ⟨by omega, by omega⟩ (W_gd hrg (W_gd ⟨by omega, by omega⟩ (W_gd ⟨by omega, by omega, by omega⟩ (W_lt (W_lt (W_lt (W_so (Or.inl ⟨rfl, w - 1, by omega, k + 1, rfl, by omega, fun i hi => ?_, fun i j hij => ?_, h3, h4, ?_, fun j hj => ?_⟩))))))))
            · show gA (sA U (m + 1) _ _) i = _
              rw [gA_sAo hi]; exact h1 i hi
            · rw [gI_sI, if_neg (by omega)]; exact h2 i j hij
            · rw [gI_sI, if_pos ⟨rfl, rfl⟩]
              show gI U m 1 + 1 = _
              rw [h5]; omega
            · show gA (sA U (m + 1) ((((yT Y).2 + k : Nat) : Int)).toNat _) (m + 1) j = _
              rw [Int.toNat_natCast, gA_sAf]
              by_cases ej : j = (yT Y).2 + k
              · rw [if_pos ej]
                show _ = (if j < (yT Y).2 then (yT Y).1 j else fdb a b c d e (j - (yT Y).2))
                rw [if_neg (by omega), ej, show (yT Y).2 + k - (yT Y).2 = k by omega, hs0]; rfl
              · rw [if_neg ej]; exact h6 j (by omega)
          have fw : ∀ {u : Int}, fdw a b c d e k = u → Wp (F_X10_feed_J81_28 G m a b c d e (k : Int) u U) _ := fun hu => J _ hu.symm
          refine W_if (fun q4 => W_if (fun q8 => W_if (fun q12 => W_if (fun q16 => fw ?_) (fun q16 => fw ?_)) (fun q12 => fw ?_)) (fun q8 => fw ?_)) (fun q4 => fw ?_)
          · unfold fdw; rw [if_neg (by omega), if_neg (by omega), if_neg (by omega), if_neg (by omega)]
          · unfold fdw; rw [if_neg (by omega), if_neg (by omega), if_neg (by omega), if_pos (by omega)]
          · unfold fdw; rw [if_neg (by omega), if_neg (by omega), if_pos (by omega)]
          · unfold fdw; rw [if_neg (by omega), if_pos (by omega)]
          · unfold fdw; rw [if_pos (by omega)]
        · show _ = (if j < (yT Y).2 then (yT Y).1 j else _)
          rw [if_pos (by omega)]; exact b1 j (by omega)
      obtain ⟨V1, u, e1, k1, k2, k3, k4, k5⟩ := main
      refine ⟨V1, ?_, fun i hi => ⟨by funext k; exact k2 i k (by omega), k1 i (by omega), by rw [k3], by rw [k4]⟩, rY_tp hv k1 (fun k hk => k2 m k (by omega)) k3 k4 k5⟩
      unfold F_X10_feed
      rw [b2]
      refine E_gd ⟨by omega, by omega⟩ (E_if (fun _ => E_bd e1 (E_so rfl ?_)) (fun z => by omega))
      rw [k5.2]; show (((yT Y).2 + 20 : Nat) : Int) = _; omega
    · obtain ⟨⟨a1, a2, a3, a4, a5, a6, a7⟩, b', c', d'⟩ := okA_s h
      refine ⟨⟨a1, a2, ⟨q, fun j hj => ?_⟩, a4, a5, a6, a7⟩, b', c', d'⟩
      show 0 ≤ (if j < (yT Y).2 then (yT Y).1 j else fdb a b c d e (j - (yT Y).2)) ∧ (if j < (yT Y).2 then (yT Y).1 j else fdb a b c d e (j - (yT Y).2)) ≤ 255
      by_cases z : j < (yT Y).2
      · rw [if_pos z]; exact hT.2 j z
      · rw [if_neg z]
        have h1 := Int.emod_nonneg (shr (fdw a b c d e (j - (yT Y).2)) (8 * (3 - (((j - (yT Y).2) % 4 : Nat) : Int)))) (show (256 : Int) ≠ 0 by decide)
        have h2 := Int.emod_lt_of_pos (shr (fdw a b c d e (j - (yT Y).2)) (8 * (3 - (((j - (yT Y).2) % 4 : Nat) : Int)))) (show (0 : Int) < 256 by decide)
        unfold fdb
        omega
  · refine ⟨(refZ (yZ Y) 0, Y.2), -1, CL_ref hG hm ⟨by decide, by decide⟩ (fun V V1 hv e => ?_), RF_ref (G := G) ⟨by decide, by decide⟩ (fun V V1 hv e hV => ?_), okA_ref h, ⟨by decide, by decide⟩⟩
    · have hsz : gI V (x + 1) 1 = ((yT Y).2 : Int) := hv.2.2.1.1
      unfold F_X9_feed
      refine E_bd p7_size ?_
      rw [hsz]
      exact E_gd ⟨by omega, by omega⟩ (E_if (fun z => by omega) (fun _ => E_bd e rfl))
    · unfold F_X10_feed
      rw [hv.2.1.2]
      refine E_gd ⟨by omega, by omega⟩ (E_if (fun z => by omega) (fun _ => E_lt (E_so ?_ rfl)))
      rw [hV]; rfl
end

/-! a question asked (reference), the whole of it -/
section
variable {G : mG} {V V' V1 V2 : mV} {m N : Nat} {C : mCy} {M : mMo} {p : Int} {cs : List Int} {b : Bool} {Y : mY}
/-- the moment before the hour j comes -/
noncomputable def askP (C : mCy) (M : mMo) : Nat → mMo
  | 0 => M
  | j + 1 => (askY C (M, fun _ => 0) j).1
theorem r_askL (ho : okC C) (hoM : okM (cn C) M) (hp : 0 ≤ p ∧ p < cn C) {k : Int} (hk : 0 ≤ k ∧ k ≤ 5) (hc : okc (decide (k ≤ 2)) 40 cs) (hpk : pkS (alS 3) (3 = 3) cs) (hl : cs.length ≤ 1600) (hv : rC V m C) (hM : rM (gA V (m + 37)) (cn C) M) (h38 : gA V (m + 38) 0 = mh M) (h98 : gI V m 98 = (cs.length : Int)) (hcl : clr (gA V (m + 68)) 0 cs) (h105 : gJ V m 105 = tlA tl0 k) (h106 : gI V m 106 = 1) (h61 : gI V m 61 = -1 ∨ gI V m 61 = 0 ∨ gI V m 61 = 1) :
    Wp (lp (fun (s : Int) V => B_X10_ask_188 G m p k s V) FU 0 V) (fun U _ => rAh m V U ∧ gJ U m 105 = tlA (askT C M p cs (askK M)) k ∧ (gI U m 61 = -1 ∨ gI U m 61 = 0 ∨ gI U m 61 = 1)) := by
  have hn := ho.1
  have hh := hoM.1
  refine W_lp (fun w (y : Int) U => ∃ j : Nat, y = (j : Int) ∧ j + w = 48 ∧ mh M + (j : Int) ≤ 10000 ∧ rAh m V U ∧ rM (gA U (m + 37)) (cn C) (askP C M j) ∧ gJ U m 105 = tlA (askT C M p cs j) k ∧ (gI U m 106 = if j = 0 then 1 else 0) ∧ (gI U m 61 = -1 ∨ gI U m 61 = 0 ∨ gI U m 61 = 1)) ?_ FU 48 _ V ⟨0, rfl, rfl, by show mh M + ((0 : Nat) : Int) ≤ 10000; omega, rAh_refl, hM, h105, by rw [if_pos rfl]; exact h106, h61⟩ (by unfold FU; decide)
  rintro w y U ⟨j, rfl, hjw, hj, f, rm, a105, a106, a61⟩
  have f38 : gA U (m + 38) 0 = mh M := by rw [f.1 _ (by omega) (by omega) (by omega) (by omega)]; exact h38
  have stop : askK M = j → rAh m V U ∧ gJ U m 105 = tlA (askT C M p cs (askK M)) k ∧ (gI U m 61 = -1 ∨ gI U m 61 = 0 ∨ gI U m 61 = 1) := fun e => ⟨f, by rw [e]; exact a105, a61⟩
  unfold B_X10_ask_188
  refine W_gd ⟨by omega, by omega⟩ (W_if (fun z => W_so (Or.inr ⟨Nat.one_ne_zero, stop (by unfold askK; omega)⟩)) (fun z => ?_))
  rw [f38]
  refine W_gd ⟨by omega, by omega⟩ (W_if (fun z2 => W_so (Or.inr ⟨Nat.one_ne_zero, stop (by unfold askK; omega)⟩)) (fun z2 => ?_))
  obtain ⟨⟨okj, mhj⟩, dj⟩ := askY_ok ho hoM j (by omega)
  obtain ⟨V2, e2, k2, a2, -, -, -, s2⟩ := r_clears (G := G) (V := U) (m := m)
  refine W_be e2 ?_
  have hcs : ∀ {U1 : mV}, rAh m V U1 → rCs m V U1 := fun h => ⟨fun i p q => h.1 i (by omega) (by omega) (by omega) (by omega), h.2.2.2 _ (by omega)⟩
  -- behind the hour: what is told, what is taken
  have rest : ∀ {U1 : mV}, rAh m U U1 → rM (gA U1 (m + 37)) (cn C) (askY C (M, fun _ => 0) j).1 → (∀ p, 0 ≤ p → p < 10 → gA U1 (m + 40) p.toNat = (askY C (M, fun _ => 0) j).2 p) → (gI U1 m 106 = if j = 0 then 1 else 0) → gJ U1 m 105 = tlA (askT C M p cs j) k → (gI U1 m 61 = -1 ∨ gI U1 m 61 = 0 ∨ gI U1 m 61 = 1) →
      ∃ U2, F_X10_ask_J220_188 G m p k (j : Int) U1 = some (U2, 0, (j : Int) + 1) ∧ rAh m U U2 ∧ rM (gA U2 (m + 37)) (cn C) (askY C (M, fun _ => 0) j).1 ∧ gJ U2 m 105 = tlA (askT C M p cs (j + 1)) k ∧ gI U2 m 106 = 0 ∧ (gI U2 m 61 = -1 ∨ gI U2 m 61 = 0 ∨ gI U2 m 61 = 1) := by
    intro U1 fU rm1 d1 i106 j105 i61
    obtain ⟨U3, hU3⟩ : ∃ U3, U3 = sI U1 m 58 p := ⟨_, rfl⟩
    obtain ⟨U4, hU4⟩ : ∃ U4, U4 = sJ U3 m 51 (mh (askY C (M, fun _ => 0) j).1 % 24) := ⟨_, rfl⟩
    obtain ⟨U5, hU5⟩ : ∃ U5, U5 = sJ U4 m 52 (mh (askY C (M, fun _ => 0) j).1 / 24) := ⟨_, rfl⟩
    have gA5 : gA U5 = gA U1 := by rw [hU5, hU4, hU3]; rfl
    have gI5 : gI U5 = gI U3 := by rw [hU5, hU4]; rfl
    have k3 : rAh m U1 U3 := by rw [hU3]; exact rAh_sI (by omega)
    have k4 : rAh m U3 U4 := by rw [hU4]; exact rAh_sJ (by omega)
    have k5 : rAh m U4 U5 := by rw [hU5]; exact rAh_sJ (by omega)
    have k15 : rAh m U1 U5 := (k3.trans k4).trans k5
    have kV : rAh m V U5 := (f.trans fU).trans k15
    have i58 : gI U5 m 58 = p := by rw [gI5, hU3, gI_sI, if_pos ⟨rfl, rfl⟩]
    have iO : ∀ q, q ≠ 58 → gI U5 m q = gI U1 m q := fun q hq => by rw [gI5, hU3, gI_sI, if_neg (by omega)]
    have j51 : gJ U5 m 51 = mh (askY C (M, fun _ => 0) j).1 % 24 := by rw [hU5, gJ_sJ, if_neg (by omega), hU4, gJ_sJ, if_pos ⟨rfl, rfl⟩]
    have j52 : gJ U5 m 52 = mh (askY C (M, fun _ => 0) j).1 / 24 := by rw [hU5, gJ_sJ, if_pos ⟨rfl, rfl⟩]
    have j5 : gJ U5 m 105 = tlA (askT C M p cs j) k := by
      have e3 : gJ U3 = gJ U1 := by rw [hU3]; rfl
      rw [hU5, gJ_sJ, if_neg (by omega), hU4, gJ_sJ, if_neg (by omega), e3]; exact j105
    have m0 := okj.1
    have qb := qV_ok (d := (askY C (M, fun _ => 0) j).2) ho okj hp ⟨(dj p).1, by have := (dj p).2; omega⟩ hc
    obtain ⟨g, e6⟩ := r_qval (G := G) (V := U5) (i := (j : Int)) ho (hv.fr (hcs kV)) (d := (askY C (M, fun _ => 0) j).2) (by rw [gA5]; exact rm1) okj (fun q q0 q1 => by rw [gA5]; exact d1 q q0 q1) dj hp i58 j51 j52 (by rw [kV.2.1 m 98 (by omega)]; exact h98) hl (by rw [kV.1 _ (by omega) (by omega) (by omega) (by omega)]; exact hcl) hc hpk
    obtain ⟨v, hvv⟩ : ∃ v, v = qV C ((askY C (M, fun _ => 0) j).1, (askY C (M, fun _ => 0) j).2) p cs := ⟨_, rfl⟩
    rw [← hvv] at qb e6
    have tb := askT_ok ho hoM hp hc j (by omega)
    have k6 : rAh m U5 (pU U5 m g 1) := rT_pU.ah
    have h6 : gA (pU U5 m g 1) (m + 37) 0 = mh M + (j : Int) := by
      rw [pU_A, gA5, rm1.1]; exact mhj
    obtain ⟨U7, e7, k7, g7, j7, n7, i7⟩ := r_qtk (G := G) (V := pU U5 m g 1) (t := askT C M p cs j) (h := mh M + (j : Int)) (v := v) tb (by omega) hk ⟨by omega, by omega⟩ qb.2.1 (fun q => qb.2.2 (decide_eq_true q)) (by rw [pU_J]; exact j5) (by rw [pU_I (Or.inr (by decide)), iO 106 (by decide)]; exact i106)
    have ht : (gA U3 (m + 37) 0).tmod 24 = mh (askY C (M, fun _ => 0) j).1 % 24 := by
      rw [show gA U3 = gA U1 by rw [hU3]; rfl, rm1.1]
      exact Int.tmod_eq_emod_of_nonneg m0.1
    have htd : (gA U4 (m + 37) 0).tdiv 24 = mh (askY C (M, fun _ => 0) j).1 / 24 := by
      rw [show gA U4 = gA U1 by rw [hU4, hU3]; rfl, rm1.1]
      exact Int.tdiv_eq_ediv_of_nonneg m0.1
    have a3 : gA U3 (m + 37) 0 = mh (askY C (M, fun _ => 0) j).1 := by
      rw [show gA U3 = gA U1 by rw [hU3]; rfl]; exact rm1.1
    have a4 : gA U4 (m + 37) 0 = mh (askY C (M, fun _ => 0) j).1 := by
      rw [show gA U4 = gA U1 by rw [hU4, hU3]; rfl]; exact rm1.1
    refine ⟨U7, ?_, ((fU.trans k15).trans k6).trans k7, by rw [g7, pU_A, gA5]; exact rm1, ?_, n7, by rw [i7, pU_I (Or.inr (by decide)), iO 61 (by decide)]; exact i61⟩
    · unfold F_X10_ask_J220_188
      refine E_lt ?_
      rw [← hU3, ht]
      refine E_gd (by rw [a3]; exact ⟨by omega, by omega⟩) (E_gd ⟨by omega, by omega⟩ (E_lt ?_))
      rw [← hU4, htd]
      refine E_gd (by rw [a4]; exact ⟨by omega, by omega⟩) (E_gd ⟨by omega, by omega⟩ (E_lt ?_))
      rw [← hU5]
      refine E_bd e6 ?_
      rw [h6]
      exact E_bd e7 (E_lt rfl)
    · rw [j7, hvv]; rfl
  have fin : ∀ {U1 : mV}, rAh m U U1 → rM (gA U1 (m + 37)) (cn C) (askY C (M, fun _ => 0) j).1 → (∀ p, 0 ≤ p → p < 10 → gA U1 (m + 40) p.toNat = (askY C (M, fun _ => 0) j).2 p) → (gI U1 m 106 = if j = 0 then 1 else 0) → gJ U1 m 105 = tlA (askT C M p cs j) k → (gI U1 m 61 = -1 ∨ gI U1 m 61 = 0 ∨ gI U1 m 61 = 1) →
      Wp (F_X10_ask_J220_188 G m p k (j : Int) U1) (fun V' q => (q.1 = 0 ∧ ∃ w', w' < w ∧ ∃ j : Nat, q.2 = (j : Int) ∧ j + w' = 48 ∧ mh M + (j : Int) ≤ 10000 ∧ rAh m V V' ∧ rM (gA V' (m + 37)) (cn C) (askP C M j) ∧ gJ V' m 105 = tlA (askT C M p cs j) k ∧ (gI V' m 106 = if j = 0 then 1 else 0) ∧ (gI V' m 61 = -1 ∨ gI V' m 61 = 0 ∨ gI V' m 61 = 1)) ∨ (q.1 ≠ 0 ∧ (rAh m V V' ∧ gJ V' m 105 = tlA (askT C M p cs (askK M)) k ∧ (gI V' m 61 = -1 ∨ gI V' m 61 = 0 ∨ gI V' m 61 = 1)))) := by
    intro U1 q1 q2 q3 q4 q5 q6
    obtain ⟨U2, e, r1, r2, r3, r4, r5⟩ := rest q1 q2 q3 q4 q5 q6
    exact W_of e (Or.inl ⟨rfl, w - 1, by omega, j + 1, by show (j : Int) + 1 = ((j + 1 : Nat) : Int); omega, by omega, by omega, f.trans r1, r2, r3, by rw [if_neg (by omega)]; exact r4, r5⟩)
  have i106 : gI V2 m 106 = if j = 0 then 1 else 0 := by rw [k2.2.1 m 106 (by omega)]; exact a106
  have j105 : gJ V2 m 105 = tlA (askT C M p cs j) k := by rw [k2.2.2.1 m 105 (by omega)]; exact a105
  cases j with
  | zero =>
    refine W_if (fun _ => ?_) (fun q => absurd (by show ((0 : Nat) : Int) ≤ 0; omega) q)
    have s := s2 M
    exact fin k2.ah (by rw [a2]; exact rm) s.2.2.1 i106 j105 (by rw [s.2.2.2.1]; exact Or.inl rfl)
  | succ i =>
    refine W_if (fun q => absurd q (by omega)) (fun _ => ?_)
    obtain ⟨⟨oki, mhi⟩, -⟩ := askY_ok ho hoM i (by omega)
    have rmi : rM (gA V2 (m + 37)) (cn C) (s0 (askY C (M, fun _ => 0) i).1).1 := by rw [a2]; exact rm
    obtain ⟨V3, e3, k3, m3, s3⟩ := r_hour (G := G) (V := V2) (S := s0 (askY C (M, fun _ => 0) i).1) ho (hv.fr (hcs (f.trans k2.ah))) rmi oki (by show mh (askY C (M, fun _ => 0) i).1 ≤ 9998; omega) (s2 _)
    refine W_be e3 ?_
    exact fin (k2.ah.trans k3.ah) m3 s3.2.2.1 (by rw [k3.2.1 m 106 (by omega)]; exact i106) (by rw [k3.2.2.1 m 105 (by omega)]; exact j105) (by rw [s3.2.2.2.1]; exact s3.2.2.2.2.1)
theorem r_ask (hG : is10 G m) (h : okA N Y) (hv : rY V m Y) (hp : rg p) : ∃ V', F_X10_ask G m p V = some (V', aAsk Y p) ∧ (∀ i, i < m → gI V' i = gI V i ∧ gA V' i = gA V i ∧ gJ V' i = gJ V i ∧ gL V' i = gL V i) ∧ rY V' m (yAsk Y p) := by
  have hT := h.1.2.2.1
  have hT1 := hT.1
  have ho := h.1.1
  obtain ⟨hz, ⟨t1, t2⟩, ⟨u1, u2⟩, ⟨im1, im2⟩, ⟨sl1, sl2, sl3⟩, hse, hwd⟩ := hv
  have ei := r_isP (G := G) ho.1 hz.1 hp
  -- what the frame gives
  have lo : ∀ {U : mV}, rAq m V U → ∀ i, i < m → gI U i = gI V i ∧ gA U i = gA V i ∧ gJ U i = gJ V i ∧ gL U i = gL V i := fun f i hi => ⟨by funext k; exact f.2.1 i k (by omega), f.1 i (by omega) (by omega) (by omega), by funext k; exact f.2.2.1 i k (by omega), f.2.2.2 i (by omega)⟩
  have pic : ∀ {U : mV} {F : Int × Int}, rAq m V U → (∀ j, j < 282 → gA U (m + 37) j = gA V (m + 37) j) → (gI U m 61 = -1 ∨ gI U m 61 = 0 ∨ gI U m 61 = 1) → gI U m 1 = 0 → (gI U m 7 = F.1 ∧ gI U m 8 = F.2) → rY U m (yZ Y, ((yT Y).1, 0), F, yI Y, yS Y, yE Y) := by
    intro U F f e e61 e1 e7
    obtain ⟨a, b, ⟨c1, c2, c3, c4⟩, d, -⟩ := hz
    refine ⟨⟨a.fr ⟨fun i p q => f.1 i (by omega) (by omega) (by omega), f.2.2.2 _ (by omega)⟩, rM_cgs ho.1.1.2 ho.2.1.2.2.2.2.2.2 e b, ⟨by rw [f.2.1 m 69 (by omega)]; exact c1, c2, by rw [f.2.1 m 70 (by omega)]; exact c3, fun i hi => ?_⟩, fun j p q => by rw [f.1 _ (by omega) (by omega) (by omega)]; exact d j p q, e61⟩, ⟨fun j hj => by have hj' : j < 0 := hj; omega, e1⟩, e7, ⟨(f.2.1 m 108 (by omega)).trans im1, fun j hj => by rw [f.1 _ (by omega) (by omega) (by omega)]; exact im2 j hj⟩, ⟨by rw [f.2.1 m 72 (by omega)]; exact sl1, fun j hj => by rw [f.1 _ (by omega) (by omega) (by omega)]; exact sl2 j hj, fun q => by rw [f.2.1 m 73 (by omega)]; exact sl3 q⟩, by rw [f.2.2.1 m 71 (by omega)]; exact hse, ?_⟩
    · rw [f.2.1 m 70 (by omega), f.1 _ (by omega) (by omega) (by omega)]; exact c4 i hi
    · exact hwd.of (fun i hi => by unfold isW at hi; exact f.1 _ (by omega) (by omega) (by omega))
  unfold aAsk yAsk
  by_cases c : 0 ≤ p ∧ p < cn (yZ Y).1
  rotate_left
  · rw [if_neg c] at ei
    rw [if_neg c, if_neg c]
    have f : rAq m V (sI V m 1 0) := rAq_sI (by omega)
    refine ⟨sI V m 1 0, ?_, lo f, pic f (fun _ _ => rfl) ?_ (by rw [gI_sI, if_pos ⟨rfl, rfl⟩]) ⟨?_, ?_⟩⟩
    · unfold F_X10_ask
      exact E_n ei (E_lt rfl)
    · rw [gI_sI, if_neg (by omega)]; exact hz.2.2.2.2
    · rw [gI_sI, if_neg (by omega)]; exact u1
    · rw [gI_sI, if_neg (by omega)]; exact u2
  rw [if_pos c] at ei
  rw [if_pos c, if_pos c]
  obtain ⟨V8, hV8⟩ : ∃ V8, V8 = sI (sI (sI (sI (sI (sI (sI (sI (sI (sI (sI V m 3 (gI V m 1)) m 1 0) m 2 0) m 4 (-1)) m 5 0) m 6 (-1)) m 48 3) m 98 0) m 100 0) m 101 0) m 102 0 := ⟨_, rfl⟩
  have f8 : rAq m V V8 := by
    rw [hV8]
    exact ((((((((((rAq_sI (by omega)).trans (rAq_sI (by omega))).trans (rAq_sI (by omega))).trans (rAq_sI (by omega))).trans (rAq_sI (by omega))).trans (rAq_sI (by omega))).trans (rAq_sI (by omega))).trans (rAq_sI (by omega))).trans (rAq_sI (by omega))).trans (rAq_sI (by omega))).trans (rAq_sI (by omega))
  have gA8 : gA V8 = gA V := by rw [hV8]; rfl
  have q3 : gI V8 m 3 = ((yT Y).2 : Int) := by
    rw [hV8]
    iterate 10 rw [gI_sI, if_neg (by omega)]
    rw [gI_sI, if_pos ⟨rfl, rfl⟩]; exact t2
  have q1 : gI V8 m 1 = 0 := by
    rw [hV8]
    iterate 9 rw [gI_sI, if_neg (by omega)]
    rw [gI_sI, if_pos ⟨rfl, rfl⟩]
  have q2 : gI V8 m 2 = 0 := by
    rw [hV8]
    iterate 8 rw [gI_sI, if_neg (by omega)]
    rw [gI_sI, if_pos ⟨rfl, rfl⟩]
  have q4 : gI V8 m 4 = -1 := by
    rw [hV8]
    iterate 7 rw [gI_sI, if_neg (by omega)]
    rw [gI_sI, if_pos ⟨rfl, rfl⟩]
  have q5 : gI V8 m 5 = 0 := by
    rw [hV8]
    iterate 6 rw [gI_sI, if_neg (by omega)]
    rw [gI_sI, if_pos ⟨rfl, rfl⟩]
  have q6 : gI V8 m 6 = -1 := by
    rw [hV8]
    iterate 5 rw [gI_sI, if_neg (by omega)]
    rw [gI_sI, if_pos ⟨rfl, rfl⟩]
  have q48 : gI V8 m 48 = ((3 : Nat) : Int) := by
    rw [hV8]
    iterate 4 rw [gI_sI, if_neg (by omega)]
    rw [gI_sI, if_pos ⟨rfl, rfl⟩]; rfl
  have q98 : gI V8 m 98 = 0 := by
    rw [hV8]
    iterate 3 rw [gI_sI, if_neg (by omega)]
    rw [gI_sI, if_pos ⟨rfl, rfl⟩]
  have q100 : gI V8 m 100 = 0 := by
    rw [hV8]
    iterate 2 rw [gI_sI, if_neg (by omega)]
    rw [gI_sI, if_pos ⟨rfl, rfl⟩]
  have q101 : gI V8 m 101 = 0 := by
    rw [hV8, gI_sI, if_neg (by omega), gI_sI, if_pos ⟨rfl, rfl⟩]
  have q102 : gI V8 m 102 = 0 := by
    rw [hV8, gI_sI, if_pos ⟨rfl, rfl⟩]
  have hrs : rs10 V8 m (yT Y) (.inr (bsk (yT Y) 0)) := ⟨rA_0 hT (fun j hj => by rw [gA8]; exact t1 j hj) q3 q2 q4, q5⟩
  have hw8 : rWd V8 m := hwd.of (fun i hi => by rw [gA8])
  obtain ⟨V2, k, e2, k2, I2, hq⟩ := r_quest (G := G) (x := p) hT hG hw8 hrs q48 q98 q100 q101 q102 (fun _ => q6)
  obtain ⟨V3, hV3⟩ : ∃ V3, V3 = sI (sI V2 m 7 (gI V2 m 5)) m 8 (gI V2 m 6) := ⟨_, rfl⟩
  have f3 : rAq m V V3 := by
    rw [hV3]
    exact ((f8.trans k2.q).trans (rAq_sI (by omega))).trans (rAq_sI (by omega))
  have gi3 : ∀ q, q ≠ 7 → q ≠ 8 → gI V3 m q = gI V2 m q := fun q a b => by rw [hV3, gI_sI, if_neg (by omega), gI_sI, if_neg (by omega)]
  have gA3 : gA V3 = gA V2 := by rw [hV3]; rfl
  have g7 : gI V3 m 7 = gI V2 m 5 := by rw [hV3, gI_sI, if_neg (by omega), gI_sI, if_pos ⟨rfl, rfl⟩]
  have g8 : gI V3 m 8 = gI V2 m 6 := by rw [hV3, gI_sI, if_pos ⟨rfl, rfl⟩]
  have i1 : gI V3 m 1 = 0 := by rw [gi3 1 (by decide) (by decide), k2.2.2.2 m 1 (by omega)]; exact q1
  have i61 : gI V3 m 61 = gI V m 61 := by
    rw [gi3 61 (by decide) (by decide), k2.2.2.2 m 61 (by omega), hV8]
    iterate 11 rw [gI_sI, if_neg (by omega)]
  have a37 : gA V3 (m + 37) = gA V (m + 37) := by rw [gA3, k2.2.2.1 _ (by omega) (by omega), gA8]
  have top : ∀ {R : Option (mV × Int)}, (gd (rg (gI V3 m 5)) <|
  if (gI V3 m 5) = 0 then (gd (rg k) <|
  if 2 ≤ k then (F_X10_ask_J174 G m p k 0 V3) else (F_X10_ask_J174 G m p k (-1) V3)) else (some (V3, (-1000000000000000)))) = R → F_X10_ask G m p V = R := by
    intro R hR
    unfold F_X10_ask
    refine E_y ei (E_lt (E_lt (E_lt (E_lt (E_lt (E_lt (E_lt (E_lt (E_lt (E_lt (E_lt ?_)))))))))))
    rw [← hV8]
    refine e2.trans ?_
    unfold F_X10_ask_J134
    refine E_lt (E_lt ?_)
    rw [show gI (sI V2 m 7 (gI V2 m 5)) m 6 = gI V2 m 6 by rw [gI_sI, if_neg (by omega)], ← hV3]
    exact hR
  have okq := aQu_ok hT
  cases hA : aQu (yT Y) with
  | inl e =>
    rw [hA] at hq
    obtain ⟨w1, w2, w3, w4⟩ := hq
    have g5 : gI V3 m 5 = e.1 := (gi3 5 (by decide) (by decide)).trans w1
    refine ⟨V3, top (E_gd (by rw [g5]; exact w3) (E_if (fun q => absurd (g5 ▸ q) w4) (fun _ => rfl))), lo f3, pic f3 (fun j _ => by rw [a37]) (by rw [i61]; exact hz.2.2.2.2) i1 ⟨g7.trans w1, g8.trans w2⟩⟩
  | inr y =>
    rw [hA] at hq okq
    obtain ⟨wk, w5, w98, wcl⟩ := hq
    obtain ⟨qk, qc, qp, ql⟩ := okq
    have g5 : gI V3 m 5 = 0 := (gi3 5 (by decide) (by decide)).trans w5
    have w6 : gI V2 m 6 = -1 := I2 w5
    obtain ⟨s1, hs1⟩ : ∃ s1, s1 = tlA tl0 k := ⟨_, rfl⟩
    obtain ⟨V4, hV4⟩ : ∃ V4, V4 = sI (sJ V3 m 105 s1) m 106 1 := ⟨_, rfl⟩
    have k4 : rAh m V3 V4 := by rw [hV4]; exact (rAh_sJ (by omega)).trans (rAh_sI (by omega))
    have gA4 : gA V4 = gA V3 := by rw [hV4]; rfl
    obtain ⟨V5, hV5⟩ : ∃ V5, V5 = sF V4 (m + 38) (up 282 (gA V4 (m + 37)) (gA V4 (m + 38))) := ⟨_, rfl⟩
    have e5 := r_puts (G := G) (V := V4) (m := m)
    rw [← hV5] at e5
    have a5 : ∀ i, i ≠ m + 38 → gA V5 i = gA V4 i := fun i hi => by rw [hV5, gA_sFo hi]
    have o5 : gI V5 = gI V4 ∧ gJ V5 = gJ V4 ∧ gL V5 = gL V4 := by rw [hV5]; exact ⟨rfl, rfl, rfl⟩
    have k5 : rAq m V4 V5 := ⟨fun i a _ _ => a5 i (by omega), fun i q _ => by rw [o5.1], fun i q _ => by rw [o5.2.1], fun i _ => by rw [o5.2.2]⟩
    have f5 : rAq m V V5 := (f3.trans k4.q).trans k5
    have a537 : gA V5 (m + 37) = gA V (m + 37) := by rw [a5 _ (by omega), gA4, a37]
    have a538 : gA V5 (m + 38) 0 = mh (yZ Y).2.1 := by
      rw [hV5, gA_sFe]; unfold up; rw [if_pos (by decide), gA4, a37]; exact hz.2.1.1
    have rc5 : rC V5 m (yZ Y).1 := hz.1.fr ⟨fun i p q => f5.1 i (by omega) (by omega) (by omega), f5.2.2.2 _ (by omega)⟩
    have i98 : gI V5 m 98 = (y.2.length : Int) := by
      rw [o5.1, k4.2.1 m 98 (by omega), gi3 98 (by decide) (by decide)]; exact w98
    have icl : clr (gA V5 (m + 68)) 0 y.2 := by
      rw [a5 _ (by omega), gA4, gA3]; exact wcl
    have j105 : gJ V5 m 105 = tlA tl0 k := by
      rw [o5.2.1, hV4]
      show gJ (sJ V3 m 105 s1) m 105 = _
      rw [gJ_sJ, if_pos ⟨rfl, rfl⟩, hs1]
    have i106 : gI V5 m 106 = 1 := by rw [o5.1, hV4, gI_sI, if_pos ⟨rfl, rfl⟩]
    have i561 : gI V5 m 61 = gI V m 61 := by
      rw [o5.1, hV4, gI_sI, if_neg (by omega)]
      exact i61
    rw [← wk] at qk qc
    obtain ⟨V6, u6, e6, k6, j6, i6⟩ := r_askL (G := G) (V := V5) (p := p) (k := k) (cs := y.2) ho.1 ho.2.1 c qk qc qp ql rc5 (by rw [a537]; exact hz.2.1) a538 i98 icl j105 i106 (by rw [i561]; exact hz.2.2.2.2)
    have e7 := r_takes (G := G) (V := V6) (m := m)
    obtain ⟨V7, hV7⟩ : ∃ V7, V7 = sF V6 (m + 37) (up 282 (gA V6 (m + 38)) (gA V6 (m + 37))) := ⟨_, rfl⟩
    have back := aside_back (V := V4) (V1 := V5) (V2 := V6) hV5 (k6.1 _ (by omega) (by omega) (by omega) (by omega))
    rw [← hV7] at e7 back
    have o7 : gI V7 = gI V6 ∧ gJ V7 = gJ V6 ∧ gL V7 = gL V6 := by rw [hV7]; exact ⟨rfl, rfl, rfl⟩
    have k7 : rAq m V6 V7 := ⟨fun i a _ _ => by rw [hV7, gA_sFo (by omega)], fun i q _ => by rw [o7.1], fun i q _ => by rw [o7.2.1], fun i _ => by rw [o7.2.2]⟩
    have f7 : rAq m V V7 := (f5.trans k6.q).trans k7
    have j7 : gJ V7 m 105 = tlA (askT (yZ Y).1 (yZ Y).2.1 p y.2 (askK (yZ Y).2.1)) y.1 := by rw [o7.2.1, j6, wk]
    have j174 : F_X10_ask_J174 G m p k s1 V3 = some (V7, tlA (askT (yZ Y).1 (yZ Y).2.1 p y.2 (askK (yZ Y).2.1)) y.1) := by
      unfold F_X10_ask_J174
      refine E_lt (E_lt ?_)
      rw [← hV4]
      refine E_bd e5 (E_bd e6 ?_)
      unfold F_X10_ask_J275
      exact E_bd e7 (E_so rfl j7)
    have st : ∀ q, q ≠ 58 → q ≠ 61 → q ≠ 62 → q ≠ 64 → q ≠ 65 → q ≠ 104 → q ≠ 106 → gI V7 m q = gI V3 m q := by
      intro q b1 b2 b3 b4 b5 b6 b7
      rw [o7.1, k6.2.1 m q (by omega), o5.1, k4.2.1 m q (by omega)]
    refine ⟨V7, top (E_gd (by rw [g5]; decide) (E_if (fun _ => E_gd ⟨by omega, by omega⟩ (E_if (fun q => ?_) (fun q => ?_))) (fun q => absurd g5 q))), lo f7, pic f7 (fun j hj => ?_) (by rw [o7.1]; exact i6) ?_ ⟨?_, ?_⟩⟩
    · have e : s1 = 0 := by
        rw [hs1]
        have : k = 2 ∨ k = 3 ∨ k = 4 ∨ k = 5 := by omega
        rcases this with e | e | e | e <;> rw [e] <;> rfl
      rw [e] at j174; exact j174
    · have e : s1 = -1 := by
        rw [hs1]
        have : k = 0 ∨ k = 1 := by omega
        rcases this with e | e <;> rw [e] <;> rfl
      rw [e] at j174; exact j174
    · rw [back j hj, gA4, a37]
    · rw [st 1 (by decide) (by decide) (by decide) (by decide) (by decide) (by decide) (by decide)]; exact i1
    · rw [st 7 (by decide) (by decide) (by decide) (by decide) (by decide) (by decide) (by decide), g7]; exact w5
    · rw [st 8 (by decide) (by decide) (by decide) (by decide) (by decide) (by decide) (by decide), g8]; exact w6
/-- behind a question: all is in order -/
theorem okA_ask (h : okA N Y) (hp : rg p) : okA (N + 1) (yAsk Y p) ∧ rl (aAsk Y p) := by
  have hT := h.1.2.2.1
  have hT1 := hT.1
  have okq := aQu_ok hT
  have ho := h.1.1
  have hh := ho.2.1.1
  have t0 : tOk ((yT Y).1, 0) := ⟨Nat.zero_le _, fun j hj => by have hj' : j < 0 := hj; omega⟩
  have rN : rl (-1000000000000000) := ⟨by decide, by decide⟩
  obtain ⟨⟨a1, a2, a3, a4, a5, a6, a7⟩, b, c, d⟩ := okA_s h
  have key : ∀ {F : Int × Int}, (rg F.1 ∧ rg F.2) → okA (N + 1) (yZ Y, ((yT Y).1, 0), F, yI Y, yS Y, yE Y) := fun hF => ⟨⟨a1, a2, t0, hF, a5, a6, a7⟩, b, c, d⟩
  unfold aAsk yAsk
  by_cases cc : 0 ≤ p ∧ p < cn (yZ Y).1
  rotate_left
  · rw [if_neg cc, if_neg cc]
    exact ⟨key a4, rN⟩
  rw [if_pos cc, if_pos cc]
  cases hA : aQu (yT Y) with
  | inl e =>
    rw [hA] at okq
    obtain ⟨⟨k1, k2⟩, k3, k4⟩ := okq
    have he : rg e.1 ∧ rg e.2 := ⟨⟨by omega, by omega⟩, ⟨by omega, by omega⟩⟩
    exact ⟨key he, rN⟩
  | inr y =>
    rw [hA] at okq
    obtain ⟨⟨k1, k2⟩, qc, qp, ql⟩ := okq
    have h0 : rg (0 : Int) ∧ rg (-1 : Int) := ⟨⟨by decide, by decide⟩, ⟨by decide, by decide⟩⟩
    refine ⟨key (F := (0, -1)) h0, ?_⟩
    obtain ⟨b0, b1, b2, b3, b4, b5, b6⟩ := askT_ok ho.1 ho.2.1 cc qc (askK (yZ Y).2.1) (by unfold askK; omega)
    have hK : askK (yZ Y).2.1 ≤ 48 := by unfold askK; omega
    show rl (tlA (askT (yZ Y).1 (yZ Y).2.1 p y.2 (askK (yZ Y).2.1)) y.1)
    unfold tlA
    split
    · exact ⟨by omega, by omega⟩
    · split
      · exact ⟨by omega, by omega⟩
      · split
        · exact ⟨by omega, by omega⟩
        · split
          · exact ⟨by omega, by omega⟩
          · split <;> exact ⟨by omega, by omega⟩
end

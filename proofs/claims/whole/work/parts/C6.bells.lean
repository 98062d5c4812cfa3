/-! bells: both -/
def till (h : Int) : Int := (11 - h) % 24 + 1
def drw (s : Int) : Int := (1103515245 * s + 12345) % 2147483648
def rngM (C : mCy) (M : mMo) (s : Int) : mMo × Int := if cn C = 0 then (M, s) else if ml M (drw s / 64 % cn C) = -1 then (M, drw s) else (calM C M (drw s / 64 % cn C), drw s)
noncomputable def bellM (C : mCy) (y : mMo × Int) : mMo × Int := ((hoursS C 12 (s0 (rngM C (hoursS C (till (mh y.1)).toNat (s0 y.1)).1 y.2).1)).1, (rngM C (hoursS C (till (mh y.1)).toNat (s0 y.1)).1 y.2).2)
noncomputable def bellsM (C : mCy) : Nat → mMo × Int → mMo × Int
  | 0, y => y
  | n + 1, y => bellsM C n (bellM C y)
abbrev canB (Z : mZ) (n : Int) : Prop := (1 ≤ n ∧ n ≤ 20) ∧ mh Z.2.1 + till (mh Z.2.1) + 24 * n - 12 ≤ 9999
noncomputable def bellsZ (Z : mZ) (s n : Int) : mZ × Int := if canB Z n then ((Z.1, (bellsM Z.1 n.toNat (Z.2.1, s)).1, (Z.2.1 :: Z.2.2.1).take 20, Z.2.2.2), (bellsM Z.1 n.toNat (Z.2.1, s)).2) else (refZ Z 2, s)
noncomputable def aBells (Z : mZ) (s n : Int) : Int := if canB Z n then mh (bellsM Z.1 n.toNat (Z.2.1, s)).1 else -1
theorem mh_hours {C : mCy} : ∀ (j : Nat) (S : mSt), mh (hoursS C j S).1 = mh S.1 + j := by
  intro j
  induction j with
  | zero => intro S; show mh S.1 = _; omega
  | succ j ih =>
    intro S
    show mh (hoursS C j (hourS C (S.1, S.2.1, S.2.2.1, fun _ => 0))).1 = _
    rw [ih, mh_hour]
    show mh S.1 + 1 + (j : Int) = _
    omega
theorem okM_hours {C : mCy} (ho : okC C) : ∀ (j : Nat) (S : mSt), okM (cn C) S.1 → mh S.1 + j ≤ 9999 → okM (cn C) (hoursS C j S).1 := by
  intro j
  induction j with
  | zero => intro S h _; exact h
  | succ j ih =>
    intro S h hh
    refine ih (hourS C (S.1, S.2.1, S.2.2.1, fun _ => 0)) (okM_hour ho h (by show mh S.1 ≤ 9998; omega)) ?_
    rw [mh_hour]; show mh S.1 + 1 + (j : Int) ≤ 9999; omega
theorem till_rg (h : Int) : 1 ≤ till h ∧ till h ≤ 24 := by unfold till; omega
theorem drw_rg (s : Int) : 0 ≤ drw s ∧ drw s < 2147483648 := ⟨Int.emod_nonneg _ (by decide), Int.emod_lt_of_pos _ (by decide)⟩
theorem rng_mh {C : mCy} {M : mMo} {s : Int} : mh (rngM C M s).1 = mh M := by
  unfold rngM
  split
  · rfl
  · split <;> rfl
theorem rng_s {C : mCy} {M : mMo} {s : Int} (h : 0 ≤ s ∧ s < 2147483648) : 0 ≤ (rngM C M s).2 ∧ (rngM C M s).2 < 2147483648 := by
  unfold rngM
  split
  · exact h
  · split <;> exact drw_rg s
theorem rng_ok {C : mCy} {M : mMo} {s : Int} (ho : okC C) (h : okM (cn C) M) : okM (cn C) (rngM C M s).1 := by
  have hn := ho.1
  unfold rngM
  split
  · exact h
  · next z =>
    split
    · exact h
    · next q => exact okM_cal ho h ⟨Int.emod_nonneg _ z, Int.emod_lt_of_pos _ (by omega)⟩ q
/-- the class's changes, the seed with them -/
def frs (G : mG) (x : Nat) (V V' : mV) : Prop := (∀ i k, ¬ (i = x ∧ k = 13) → gJ V' i k = gJ V i k) ∧ gL V' = gL V ∧ ∀ i, ¬ zE G x i → gI V' i = gI V i ∧ gA V' i = gA V i
theorem frs_refl {G : mG} {x : Nat} {V : mV} : frs G x V V := ⟨fun _ _ _ => rfl, rfl, fun _ _ => ⟨rfl, rfl⟩⟩
theorem fr.s {G : mG} {x : Nat} {V V' : mV} (h : fr (zE G x) V V') : frs G x V V' := ⟨fun i k _ => by rw [h.1], h.2.1, h.2.2⟩
theorem frs.trans {G : mG} {x : Nat} {V V1 V2 : mV} (h : frs G x V V1) (k : frs G x V1 V2) : frs G x V V2 :=
  ⟨fun i j q => (k.1 i j q).trans (h.1 i j q), k.2.1.trans h.2.1, fun i hi => ⟨(k.2.2 i hi).1.trans (h.2.2 i hi).1, (k.2.2 i hi).2.trans (h.2.2 i hi).2⟩⟩
theorem frs_sJ {G : mG} {x : Nat} {V : mV} {s : Int} : frs G x V (sJ V x 13 s) := ⟨fun i k q => by show u2 (gJ V) x 13 s i k = _; unfold u2; rw [if_neg q], rfl, fun _ _ => ⟨rfl, rfl⟩⟩
/-- the reference's -/
def rGb (m : Nat) (V V' : mV) : Prop := (∀ i, i ≠ m + 2 → (i < m + 37 ∨ m + 44 < i) → gA V' i = gA V i) ∧ (∀ i k, (i ≠ m ∨ (k ≠ 104 ∧ k ≠ 61 ∧ k ≠ 62 ∧ k ≠ 64 ∧ k ≠ 65 ∧ k ≠ 69 ∧ k ≠ 70)) → gI V' i k = gI V i k) ∧ (∀ i k, (i ≠ m ∨ k < 51 ∨ (57 < k ∧ k ≠ 71)) → gJ V' i k = gJ V i k) ∧ (∀ i, i ≠ m + 70 → gL V' i = gL V i)
theorem rGb_refl {m : Nat} {V : mV} : rGb m V V := ⟨fun _ _ _ => rfl, fun _ _ _ => rfl, fun _ _ _ => rfl, fun _ _ => rfl⟩
theorem rG.b {m : Nat} {V V' : mV} (h : rG m V V') : rGb m V V' := ⟨h.1, h.2.1, fun i k q => h.2.2.1 i k (by omega), h.2.2.2⟩
theorem rGb.trans {m : Nat} {V V1 V2 : mV} (h : rGb m V V1) (k : rGb m V1 V2) : rGb m V V2 :=
  ⟨fun i a q => (k.1 i a q).trans (h.1 i a q), fun i j q => (k.2.1 i j q).trans (h.2.1 i j q), fun i j q => (k.2.2.1 i j q).trans (h.2.2.1 i j q), fun i q => (k.2.2.2 i q).trans (h.2.2.2 i q)⟩
theorem rGb_sJ {m : Nat} {V : mV} {s : Int} : rGb m V (sJ V m 71 s) := ⟨fun _ _ _ => rfl, fun _ _ _ => rfl, fun i k q => by show u2 (gJ V) m 71 s i k = _; unfold u2; rw [if_neg (by omega)], fun _ _ => rfl⟩
theorem gJ_sJe {V : mV} {i k : Nat} {s : Int} : gJ (sJ V i k s) i k = s := by show u2 (gJ V) i k s i k = s; unfold u2; rw [if_pos ⟨rfl, rfl⟩]
section
variable {G : mG} {V V1 : mV} {cr c mo x m : Nat} {C : mCy} {M : mMo} {B : Int} {n : Int} {Z : mZ}
theorem c_remZ (hG : is9 G x) (ho : okZ Z) (hv : vZ G V x Z) : ∃ V1, F_X5_remember G (x + 45) (x + 227) V = some (V1, 0) ∧ fr (zE G x) V V1 ∧ vZ G V1 x (Z.1, Z.2.1, (Z.2.1 :: Z.2.2.1).take 20, Z.2.2.2) := by
  have hn := ho.1.1
  obtain ⟨a, b, c, d, ⟨e0, f⟩, g, i, j⟩ := hv
  obtain ⟨V1, g1, k1, w1⟩ := c_remember (V := V) (y := x + 45) (mo := x + 227) (s9_7s hG) (s9_8s hG) (by omega) hn c i
  refine ⟨V1, g1, k1.mono (fun i q => by simp only [zE]; omega), a, b.fr k1 (fun j p q _ => by omega), c.fr k1 (fun j p q => by omega), d.fr k1 (by omega) (by omega), ⟨e0, f.fr k1 (fun j p q => by omega)⟩, by rw [k1.I (by omega)]; exact g, w1, j.fr k1 (by omega) (by omega)⟩
theorem r_keepZ (ho : okZ Z) (hv : rZ V m Z) : ∃ V1, F_X10_keeps G m V = some (V1, 0) ∧ rG m V V1 ∧ gJ V1 = gJ V ∧ rZ V1 m (Z.1, Z.2.1, (Z.2.1 :: Z.2.2.1).take 20, Z.2.2.2) := by
  have hn := ho.1.1
  obtain ⟨a, b, c, d, d5⟩ := hv
  obtain ⟨V1, g1, k1, w1⟩ := r_keeps (G := G) hn.2 b ho.2.1.2.2.2.2.2.2 c (fun Q hQ => (ho.2.2 Q hQ).2.2.2.2.2.2)
  have kc : rCs m V V1 := ⟨fun i p q => k1.1 i (by omega), by rw [k1.2.2.2]⟩
  refine ⟨V1, g1, k1.out, k1.2.2.1, a.fr kc, by rw [k1.1 _ (by omega)]; exact b, w1, fun j q r => by rw [k1.1 _ (by omega)]; exact d j q r, by rw [k1.2.1 m 61 (by omega)]; exact d5⟩
theorem c_bringZ (hG : is9 G x) (ho : okZ Z) (hv : vZ G V x Z) {k : Nat} (hh : mh Z.2.1 + k ≤ 9999) (hk : k < 5000) :
    ∃ V', F_X9_bring G x (x + 227) (k : Int) V = some (V', 0) ∧ fr (zE G x) V V' ∧ vZ G V' x (Z.1, (hoursS Z.1 k (s0 Z.2.1)).1, Z.2.2.1, Z.2.2.2) := by
  have hn := ho.1.1
  have hh0 := ho.2.1.1
  obtain ⟨a, b, c, d, ⟨e0, f⟩, g, i, j⟩ := hv
  have hG5 := s9_5s hG
  obtain ⟨V2, e2, k2, a2, b2, c2, d2, f2, g2, -⟩ := c_bring (V := V) (x := x) (mo := x + 227) (S := (Z.2.1, e0.2)) (B := 240 * mh Z.2.1) (k := k) hG5 (s9_10s hG) (s9_8s hG) ho.1 b d (by omega) (by omega) c ho.2.1 f (by show mh Z.2.1 + _ ≤ 9999; omega) (by omega) (by omega)
  have ind := hours_ind (C := Z.1) k (S := (Z.2.1, e0.2)) (S' := s0 Z.2.1) rfl
  rw [ind] at c2 d2 g2
  have g2' : mh (hoursS Z.1 k (s0 Z.2.1)).1 = mh Z.2.1 + k := g2
  refine ⟨V2, e2, k2.mono (fun i q => by simp only [sH, isSk] at q; simp only [zE]; omega), a, a2, c2.more (by rw [g2']; omega), b2, ⟨_, f2⟩, ?_, i.fr k2 (fun j p q w => by simp only [sH, isSk] at w; omega), j.fr k2 (by simp only [sH, isSk]; omega) (by simp only [sH, isSk]; omega)⟩
  rw [k2.I (by simp only [sH, isSk]; omega)]; exact g
theorem r_hoursZ (ho : okZ Z) (hv : rZ V m Z) {k : Nat} (hh : mh Z.2.1 + k ≤ 9999) (hk : k < 5000) :
    ∃ V', F_X10_hoursCome G m (k : Int) V = some (V', 0) ∧ rG m V V' ∧ rZ V' m (Z.1, (hoursS Z.1 k (s0 Z.2.1)).1, Z.2.2.1, Z.2.2.2) := by
  have hn := ho.1.1
  obtain ⟨t, hS⟩ := rZ_S hv Z.2.1
  obtain ⟨a, b, ⟨p1, p2, p3, p4⟩, d, d5⟩ := hv
  obtain ⟨V2, e2, k2, w2, o2, s2⟩ := r_hours (G := G) (V := V) (m := m) (S := (Z.2.1, t)) (k := k) ho.1 a b ho.2.1 (by show mh Z.2.1 + _ ≤ 9999; omega) (by omega) hS
  have q3 := hoursQ_S (C := Z.1) k (S := (Z.2.1, t)) (S' := (Z.2.1, t)) eq3_rfl
  have q1 : (hoursQ Z.1 k (Z.2.1, t)).1 = (hoursS Z.1 k (s0 Z.2.1)).1 := q3.1.trans (hours_ind k rfl)
  rw [q1] at w2
  refine ⟨V2, e2, k2.Q.out, a.fr k2.cs, w2, ⟨by rw [k2.2.1 m 69 (by omega)]; exact p1, p2, by rw [k2.2.1 m 70 (by omega)]; exact p3, fun i hi => ?_⟩, fun j p q => ?_, by rw [s2.2.2.2.1]; exact s2.2.2.2.2.1⟩
  · rw [k2.2.1 m 70 (by omega), k2.1 _ (by omega) (by omega) (by omega) (by omega)]; exact p4 i hi
  · rw [k2.1 _ (by omega) (by omega) (by omega) (by omega)]; exact d j p q
theorem c_awayZ (hG : is9 G x) (ho : okZ Z) (hv : vZ G V x Z) {p : Int} (h : here Z.1 Z.2.1 p) :
    ∃ V' v, F_X2_sendAway G (x + 27) (gR G x 10) (x + 227) p V = some (V', v) ∧ fr (zE G x) V V' ∧ vZ G V' x (Z.1, calM Z.1 Z.2.1 p, Z.2.2.1, Z.2.2.2) := by
  obtain ⟨a, b, c, d, ⟨e0, f⟩, g, i, j⟩ := hv
  obtain ⟨V2, v2, e2, k2, w2, l2, m2⟩ := c_away (V := V) (cr := x + 27) (c := gR G x 10) (mo := x + 227) (s9_5s hG) (s9_10s hG) (s9_8s hG) ho.1 b (by omega) (by omega) c ho.2.1 g h.1 h.2
  have hl : (sendA Z.1 (ml Z.2.1) p).2.2.length ≤ 10 := wav_len (C := Z.1) 10 (lv := uf (ml Z.2.1) p (-1)) (left := ml Z.2.1 p) (mv := [])
  have m21 : gI V2 (x + 30) 1 = ((sendA Z.1 (ml Z.2.1) p).2.2.length : Int) := m2.1
  refine ⟨V2, v2, e2, k2.mono (fun i q => by simp only [sA'] at q; simp only [zE]; omega), a, b.fr k2 (fun j p q _ w => by simp only [sA'] at w; omega), w2, d.fr k2 (by simp only [sA']; omega) (by simp only [sA']; omega), ⟨e0, f.fr k2 (fun j p q w => by simp only [sA'] at w; omega)⟩, by rw [m21]; omega, i.fr k2 (fun j p q w => by simp only [sA'] at w; omega), j.fr k2 (by simp only [sA']; omega) (by simp only [sA']; omega)⟩
theorem r_awayZ (ho : okZ Z) (hv : rZ V m Z) {p : Int} (h : here Z.1 Z.2.1 p) :
    ∃ V' v, F_X10_isCalled G m p V = some (V', v) ∧ rG m V V' ∧ rZ V' m (Z.1, calM Z.1 Z.2.1 p, Z.2.2.1, Z.2.2.2) := by
  obtain ⟨a, b, ⟨p1, p2, p3, p4⟩, d, d5⟩ := hv
  obtain ⟨V2, v2, e2, k2, w2, l2, n2, m2, q61⟩ := r_called (G := G) (V := V) ho.1 a b ho.2.1 h.1 h.2
  refine ⟨V2, v2, e2, k2.Q.out, a.fr k2.cs, w2, ⟨by rw [k2.2.1 m 69 (by omega)]; exact p1, p2, by rw [k2.2.1 m 70 (by omega)]; exact p3, fun i hi => ?_⟩, fun j p q => ?_, by rw [q61]; exact d5⟩
  · rw [k2.2.1 m 70 (by omega), k2.1 _ (by omega) (by omega) (by omega) (by omega)]; exact p4 i hi
  · rw [k2.1 _ (by omega) (by omega) (by omega) (by omega)]; exact d j p q
theorem c_ringZ (hG : is9 G x) (ho : okZ Z) (hv : vZ G V x Z) {s : Int} (hs : gJ V x 13 = s) :
    ∃ V', F_X9_ringBell G x V = some (V', 0) ∧ frs G x V V' ∧ gJ V' x 13 = (rngM Z.1 Z.2.1 s).2 ∧ vZ G V' x (Z.1, (rngM Z.1 Z.2.1 s).1, Z.2.2.1, Z.2.2.2) := by
  have hn := ho.1.1
  have hsz : gI V (gR G x 10 + 1) 1 = cn Z.1 := hv.2.1.2.1.1.1
  by_cases c0 : cn Z.1 = 0
  · have e : rngM Z.1 Z.2.1 s = (Z.2.1, s) := if_pos c0
    rw [e]
    refine ⟨V, ?_, frs_refl, hs, hv⟩
    unfold F_X9_ringBell
    refine E_bd p7_size ?_
    rw [hsz]
    exact E_gd ⟨by omega, by omega⟩ (E_if (fun _ => rfl) (fun q => absurd c0 q))
  obtain ⟨p, hp⟩ : ∃ p, p = drw s / 64 % cn Z.1 := ⟨_, rfl⟩
  have hpr : 0 ≤ p ∧ p < cn Z.1 := by rw [hp]; exact ⟨Int.emod_nonneg _ c0, Int.emod_lt_of_pos _ (by omega)⟩
  have hd := drw_rg s
  have hv1 : vZ G (sJ V x 13 (drw s)) x Z := hv
  have eH := c_here hG ho hv1 (p := p) ⟨by omega, by omega⟩
  have t1 : (drw s).tdiv 64 = drw s / 64 := Int.tdiv_eq_ediv_of_nonneg hd.1
  have t2 : (drw s / 64).tmod (cn Z.1) = p := by rw [hp]; exact Int.tmod_eq_emod_of_nonneg (by omega)
  have j1 : gJ (sJ V x 13 (drw s)) x 13 = drw s := gJ_sJe
  have top : ∀ {res : Option (mV × Int)}, (bd (F_X9_isHere G x p (sJ V x 13 (drw s))) fun V12 v13 =>
  gd (rg v13) <|
  if v13 = 0 then (some (V12, 0)) else (bd (F_X2_sendAway G (x + 27) (gR G x 10) (x + 227) p V12) fun V17 v18 =>
  some (V17, 0))) = res → F_X9_ringBell G x V = res := by
    intro res e
    unfold F_X9_ringBell
    refine E_bd p7_size ?_
    rw [hsz]
    refine E_gd ⟨by omega, by omega⟩ (E_if (fun q => absurd q c0) (fun _ => E_lt ?_))
    rw [hs, show (1103515245 * s + 12345) % 2147483648 = drw s from rfl, j1, t1, t2]
    exact E_gd ⟨by omega, by omega⟩ (E_gd ⟨by omega, by omega⟩ (E_gd ⟨by omega, by omega⟩ (E_gd c0 (E_lt e))))
  by_cases c1 : ml Z.2.1 p = -1
  · have e : rngM Z.1 Z.2.1 s = (Z.2.1, drw s) := by unfold rngM; rw [if_neg c0, if_pos (by rw [← hp]; exact c1)]
    rw [e]
    rw [if_neg (fun q => q.2 c1)] at eH
    exact ⟨_, top (E_n eH rfl), frs_sJ, j1, hv1⟩
  · have e : rngM Z.1 Z.2.1 s = (calM Z.1 Z.2.1 p, drw s) := by unfold rngM; rw [if_neg c0, if_neg (by rw [← hp]; exact c1), ← hp]
    rw [e]
    rw [if_pos ⟨hpr, c1⟩] at eH
    obtain ⟨V2, v2, e2, k2, w2⟩ := c_awayZ hG ho hv1 (p := p) ⟨hpr, c1⟩
    exact ⟨V2, top (E_y eH (E_bd e2 rfl)), frs_sJ.trans k2.s, by rw [k2.1]; exact j1, w2⟩
theorem r_ringZ (ho : okZ Z) (hv : rZ V m Z) {s : Int} (hs : gJ V m 71 = s) (hsr : 0 ≤ s ∧ s < 2147483648) :
    ∃ V', F_X10_bellRings G m V = some (V', 0) ∧ rGb m V V' ∧ gJ V' m 71 = (rngM Z.1 Z.2.1 s).2 ∧ rZ V' m (Z.1, (rngM Z.1 Z.2.1 s).1, Z.2.2.1, Z.2.2.2) := by
  have hn := ho.1.1
  by_cases c0 : cn Z.1 = 0
  · have e : rngM Z.1 Z.2.1 s = (Z.2.1, s) := if_pos c0
    rw [e]
    refine ⟨V, ?_, rGb_refl, hs, hv⟩
    unfold F_X10_bellRings
    exact E_bd (r_many hv.1) (E_gd ⟨by omega, by omega⟩ (E_if (fun _ => rfl) (fun q => absurd c0 q)))
  obtain ⟨p, hp⟩ : ∃ p, p = drw s / 64 % cn Z.1 := ⟨_, rfl⟩
  have hpr : 0 ≤ p ∧ p < cn Z.1 := by rw [hp]; exact ⟨Int.emod_nonneg _ c0, Int.emod_lt_of_pos _ (by omega)⟩
  have hd := drw_rg s
  have hv1 : rZ (sJ V m 71 (drw s)) m Z := hv
  have t1 : (drw s).tdiv 64 = drw s / 64 := Int.tdiv_eq_ediv_of_nonneg hd.1
  have t2 : (drw s / 64).tmod (cn Z.1) = p := by rw [hp]; exact Int.tmod_eq_emod_of_nonneg (by omega)
  have j1 : gJ (sJ V m 71 (drw s)) m 71 = drw s := gJ_sJe
  have ed : F_X10_drawOf G m (cn Z.1) V = some (sJ V m 71 (drw s), p) := by
    unfold F_X10_drawOf
    rw [hs]
    refine E_gd ⟨by omega, by omega⟩ (E_lt ?_)
    rw [show (1103515245 * s + 12345).tmod 2147483648 = drw s from Int.tmod_eq_emod_of_nonneg (by omega), j1, t1, t2]
    exact E_gd ⟨by omega, by omega⟩ (E_gd ⟨by omega, by omega⟩ (E_gd ⟨by omega, by omega⟩ (E_gd ⟨by omega, by omega⟩ (E_gd c0 rfl))))
  have lv := r_lives (G := G) hv1.2.1 hn.2 hpr
  have hl := ho.2.1.2.1 p hpr.1 hpr.2
  have kb : rGb m V (sJ V m 71 (drw s)) := rGb_sJ
  by_cases c1 : ml Z.2.1 p = -1
  · have e : rngM Z.1 Z.2.1 s = (Z.2.1, drw s) := by unfold rngM; rw [if_neg c0, if_pos (by rw [← hp]; exact c1)]
    rw [e]
    refine ⟨_, ?_, kb, j1, hv1⟩
    unfold F_X10_bellRings
    exact E_bd (r_many hv.1) (E_gd ⟨by omega, by omega⟩ (E_if (fun q => absurd q c0) (fun _ => E_bd (r_many hv.1) (E_bd ed (E_bd lv (E_gd ⟨by omega, by omega⟩ (E_if (fun _ => rfl) (fun q => absurd c1 q))))))))
  · have e : rngM Z.1 Z.2.1 s = (calM Z.1 Z.2.1 p, drw s) := by unfold rngM; rw [if_neg c0, if_neg (by rw [← hp]; exact c1), ← hp]
    rw [e]
    obtain ⟨V2, v2, e2, k2, w2⟩ := r_awayZ (G := G) ho hv1 (p := p) ⟨hpr, c1⟩
    refine ⟨V2, ?_, kb.trans k2.b, by rw [k2.2.2.1 m 71 (by omega)]; exact j1, w2⟩
    unfold F_X10_bellRings
    exact E_bd (r_many hv.1) (E_gd ⟨by omega, by omega⟩ (E_if (fun q => absurd q c0) (fun _ => E_bd (r_many hv.1) (E_bd ed (E_bd lv (E_gd ⟨by omega, by omega⟩ (E_if (fun q => absurd q c1) (fun _ => E_bd e2 rfl))))))))
/-- one day -/
theorem bell_mh {y : mMo × Int} : mh (bellM C y).1 = mh y.1 + till (mh y.1) + 12 := by
  have ht := till_rg (mh y.1)
  show mh (hoursS C 12 (s0 (rngM C (hoursS C (till (mh y.1)).toNat (s0 y.1)).1 y.2).1)).1 = _
  rw [mh_hours]
  show mh (rngM C (hoursS C (till (mh y.1)).toNat (s0 y.1)).1 y.2).1 + ((12 : Nat) : Int) = _
  rw [rng_mh, mh_hours]
  show mh y.1 + (((till (mh y.1)).toNat : Nat) : Int) + ((12 : Nat) : Int) = _
  omega
theorem okZ_mo {M : mMo} (h : okZ Z) (hM : okM (cn Z.1) M) : okZ (Z.1, M, Z.2.2.1, Z.2.2.2) := ⟨h.1, hM, h.2.2⟩
theorem c_dayZ (hG : is9 G x) (ho : okZ Z) (hv : vZ G V x Z) {s : Int} (hs : gJ V x 13 = s) (hh : mh Z.2.1 + till (mh Z.2.1) + 12 ≤ 9999) :
    ∃ V' V1 V2, F_X9_bring G x (x + 227) (till (mh Z.2.1)) V = some (V1, 0) ∧ F_X9_ringBell G x V1 = some (V2, 0) ∧ F_X9_bring G x (x + 227) 12 V2 = some (V', 0) ∧ frs G x V V' ∧ gJ V' x 13 = (bellM Z.1 (Z.2.1, s)).2 ∧ vZ G V' x (Z.1, (bellM Z.1 (Z.2.1, s)).1, Z.2.2.1, Z.2.2.2) ∧ okZ (Z.1, (bellM Z.1 (Z.2.1, s)).1, Z.2.2.1, Z.2.2.2) := by
  have ht := till_rg (mh Z.2.1)
  obtain ⟨V1, e1, k1, w1⟩ := c_bringZ (k := (till (mh Z.2.1)).toNat) hG ho hv (by omega) (by omega)
  rw [Int.toNat_of_nonneg (by omega)] at e1
  have o1 := okZ_mo ho (okM_hours ho.1 (till (mh Z.2.1)).toNat (s0 Z.2.1) ho.2.1 (by show mh Z.2.1 + _ ≤ 9999; omega))
  obtain ⟨V2, e2, k2, s2, w2⟩ := c_ringZ hG o1 w1 (s := s) (by rw [k1.1]; exact hs)
  have o2 := okZ_mo ho (rng_ok (s := s) ho.1 o1.2.1)
  have h2 : mh (rngM Z.1 (hoursS Z.1 (till (mh Z.2.1)).toNat (s0 Z.2.1)).1 s).1 = mh Z.2.1 + till (mh Z.2.1) := by
    rw [rng_mh, mh_hours]
    show mh Z.2.1 + (((till (mh Z.2.1)).toNat : Nat) : Int) = _
    omega
  obtain ⟨V3, e3, k3, w3⟩ := c_bringZ (k := 12) hG o2 w2 (by show mh (rngM Z.1 (hoursS Z.1 (till (mh Z.2.1)).toNat (s0 Z.2.1)).1 s).1 + ((12 : Nat) : Int) ≤ 9999; rw [h2]; omega) (by decide)
  have o3 := okZ_mo ho (okM_hours ho.1 12 (s0 (rngM Z.1 (hoursS Z.1 (till (mh Z.2.1)).toNat (s0 Z.2.1)).1 s).1) o2.2.1 (by show mh (rngM Z.1 (hoursS Z.1 (till (mh Z.2.1)).toNat (s0 Z.2.1)).1 s).1 + ((12 : Nat) : Int) ≤ 9999; rw [h2]; omega))
  exact ⟨V3, V1, V2, e1, e2, e3, (k1.s.trans k2).trans k3.s, by rw [k3.1]; exact s2, w3, o3⟩
theorem r_dayZ (ho : okZ Z) (hv : rZ V m Z) {s : Int} (hs : gJ V m 71 = s) (hsr : 0 ≤ s ∧ s < 2147483648) (hh : mh Z.2.1 + till (mh Z.2.1) + 12 ≤ 9999) :
    ∃ V' V1 V2, F_X10_hoursCome G m (till (mh Z.2.1)) V = some (V1, 0) ∧ F_X10_bellRings G m V1 = some (V2, 0) ∧ F_X10_hoursCome G m 12 V2 = some (V', 0) ∧ rGb m V V' ∧ gJ V' m 71 = (bellM Z.1 (Z.2.1, s)).2 ∧ rZ V' m (Z.1, (bellM Z.1 (Z.2.1, s)).1, Z.2.2.1, Z.2.2.2) ∧ okZ (Z.1, (bellM Z.1 (Z.2.1, s)).1, Z.2.2.1, Z.2.2.2) := by
  have ht := till_rg (mh Z.2.1)
  obtain ⟨V1, e1, k1, w1⟩ := r_hoursZ (G := G) (k := (till (mh Z.2.1)).toNat) ho hv (by omega) (by omega)
  rw [Int.toNat_of_nonneg (by omega)] at e1
  have o1 := okZ_mo ho (okM_hours ho.1 (till (mh Z.2.1)).toNat (s0 Z.2.1) ho.2.1 (by show mh Z.2.1 + _ ≤ 9999; omega))
  obtain ⟨V2, e2, k2, s2, w2⟩ := r_ringZ (G := G) o1 w1 (s := s) (by rw [k1.2.2.1 m 71 (by omega)]; exact hs) hsr
  have o2 := okZ_mo ho (rng_ok (s := s) ho.1 o1.2.1)
  have h2 : mh (rngM Z.1 (hoursS Z.1 (till (mh Z.2.1)).toNat (s0 Z.2.1)).1 s).1 = mh Z.2.1 + till (mh Z.2.1) := by
    rw [rng_mh, mh_hours]
    show mh Z.2.1 + (((till (mh Z.2.1)).toNat : Nat) : Int) = _
    omega
  obtain ⟨V3, e3, k3, w3⟩ := r_hoursZ (G := G) (k := 12) o2 w2 (by show mh (rngM Z.1 (hoursS Z.1 (till (mh Z.2.1)).toNat (s0 Z.2.1)).1 s).1 + ((12 : Nat) : Int) ≤ 9999; rw [h2]; omega) (by decide)
  have o3 := okZ_mo ho (okM_hours ho.1 12 (s0 (rngM Z.1 (hoursS Z.1 (till (mh Z.2.1)).toNat (s0 Z.2.1)).1 s).1) o2.2.1 (by show mh (rngM Z.1 (hoursS Z.1 (till (mh Z.2.1)).toNat (s0 Z.2.1)).1 s).1 + ((12 : Nat) : Int) ≤ 9999; rw [h2]; omega))
  exact ⟨V3, V1, V2, e1, e2, e3, (k1.b.trans k2).trans k3.b, by rw [k3.2.2.1 m 71 (by omega)]; exact s2, w3, o3⟩
theorem bell_s {y : mMo × Int} (h : 0 ≤ y.2 ∧ y.2 < 2147483648) : 0 ≤ (bellM C y).2 ∧ (bellM C y).2 < 2147483648 := rng_s h
theorem bells_s : ∀ (k : Nat) {y : mMo × Int}, 0 ≤ y.2 ∧ y.2 < 2147483648 → 0 ≤ (bellsM C k y).2 ∧ (bellsM C k y).2 < 2147483648
  | 0, _, h => h
  | k + 1, _, h => bells_s k (bell_s h)
theorem c_bells (hG : is9 G x) (ho : okZ Z) (hv : vZ G V x Z) {s k : Int} (hs : gJ V x 13 = s) (hk : rg k) :
    ∃ V', F_X9_bells G x k V = some (V', aBells Z s k) ∧ frs G x V V' ∧ gJ V' x 13 = (bellsZ Z s k).2 ∧ vZ G V' x (bellsZ Z s k).1 ∧ okZ (bellsZ Z s k).1 := by
  have ht := till_rg (mh Z.2.1)
  have hh0 := ho.2.1.1
  have h0 : gI V (x + 227) 0 = mh Z.2.1 := hv.2.2.1.1
  have et : F_X9_hoursTillNoon G x V = some (V, till (mh Z.2.1)) := by
    unfold F_X9_hoursTillNoon
    rw [h0]
    exact E_gd ⟨by omega, by omega⟩ rfl
  unfold F_X9_bells bellsZ aBells
  by_cases c : canB Z k
  rotate_left
  · obtain ⟨V1, g1, k1, w1⟩ := c_refuse hG hv (k := 2) (by decide)
    rw [if_neg c, if_neg c]
    have j11 : F_X9_bells_J11 G x k V = some (V1, -1) := by unfold F_X9_bells_J11; exact E_bd g1 rfl
    refine ⟨V1, E_gd hk (E_if (fun _ => j11) (fun q => E_if (fun q2 => E_bd et (E_lt ?_)) (fun _ => j11))), fr.s k1, by rw [k1.1]; exact hs, w1, okZ_ref ho⟩
    rw [h0]
    exact E_gd ⟨by omega, by omega⟩ (E_if (fun q3 => absurd ⟨⟨by omega, q2⟩, by omega⟩ c) (fun _ => E_bd g1 rfl))
  rw [if_pos c, if_pos c]
  obtain ⟨V1, g1, k1, w1⟩ := c_remZ hG ho hv
  have o1 : okZ (Z.1, Z.2.1, (Z.2.1 :: Z.2.2.1).take 20, Z.2.2.2) := okZ_new ho ho.2.1
  have main : Wp (lp (fun (y : Int) V => B_X9_bells_69 G x k y V) FU 0 V1) (fun V' q => frs G x V1 V' ∧ gJ V' x 13 = (bellsM Z.1 k.toNat (Z.2.1, s)).2 ∧ vZ G V' x (Z.1, (bellsM Z.1 k.toNat (Z.2.1, s)).1, (Z.2.1 :: Z.2.2.1).take 20, Z.2.2.2) ∧ okZ (Z.1, (bellsM Z.1 k.toNat (Z.2.1, s)).1, (Z.2.1 :: Z.2.2.1).take 20, Z.2.2.2)) := by
    refine W_lp (fun w (y : Int) U => ∃ (j : Nat) (t : mMo × Int), y = (j : Int) ∧ j + w = k.toNat ∧ frs G x V1 U ∧ gJ U x 13 = t.2 ∧ vZ G U x (Z.1, t.1, (Z.2.1 :: Z.2.2.1).take 20, Z.2.2.2) ∧ okZ (Z.1, t.1, (Z.2.1 :: Z.2.2.1).take 20, Z.2.2.2) ∧ bellsM Z.1 w t = bellsM Z.1 k.toNat (Z.2.1, s) ∧ mh t.1 + till (mh t.1) + 24 * (w : Int) - 12 ≤ 9999) ?_ FU k.toNat _ V1 ⟨0, (Z.2.1, s), rfl, by omega, frs_refl, by rw [k1.1]; exact hs, w1, o1, rfl, by show mh Z.2.1 + till (mh Z.2.1) + _ - 12 ≤ 9999; omega⟩ (by unfold FU; omega)
    rintro w y U ⟨j, t, rfl, hw, hf, hj, hvU, hoU, hb, hB⟩
    unfold B_X9_bells_69
    refine W_gd ⟨by omega, by omega⟩ (W_gd hk (W_if (fun q => W_so (Or.inr ⟨Nat.one_ne_zero, ?_⟩)) (fun q => ?_)))
    · have e : w = 0 := by omega
      subst e
      have e2 : t = bellsM Z.1 k.toNat (Z.2.1, s) := hb
      rw [← e2]
      exact ⟨hf, hj, hvU, hoU⟩
    · obtain ⟨w, rfl⟩ : ∃ i, w = i + 1 := ⟨w - 1, by omega⟩
      have ht2 := till_rg (mh t.1)
      have hU0 := hoU.2.1.1
      have hU0' : 0 ≤ mh t.1 ∧ mh t.1 ≤ 9999 := hU0
      obtain ⟨U3, U1, U2, g2, g3, g4, kk, sj, wv, ow⟩ := c_dayZ hG hoU hvU (s := t.2) hj (by show mh t.1 + till (mh t.1) + 12 ≤ 9999; omega)
      have hU00 : gI U (x + 227) 0 = mh t.1 := hvU.2.2.1.1
      have et2 : F_X9_hoursTillNoon G x U = some (U, till (mh t.1)) := by
        unfold F_X9_hoursTillNoon
        rw [hU00]
        exact E_gd ⟨by omega, by omega⟩ rfl
      refine W_be et2 (W_be g2 (W_be g3 (W_be g4 (W_lt (W_so (Or.inl ⟨rfl, w, by omega, j + 1, bellM Z.1 t, rfl, by omega, hf.trans kk, sj, wv, ow, hb, ?_⟩))))))
      rw [bell_mh]
      have : till (mh t.1 + till (mh t.1) + 12) = 12 := by unfold till; omega
      rw [this]; omega
  obtain ⟨V', q, e2, e3, e4, e5, e6⟩ := main
  refine ⟨V', E_gd hk (E_if (fun q => by omega) (fun _ => E_if (fun _ => E_bd et (E_lt ?_)) (fun q => absurd c.1.2 q))), k1.s.trans e3, e4, e5, e6⟩
  rw [h0]
  refine E_gd ⟨by omega, by omega⟩ (E_if (fun _ => E_bd g1 (E_bd e2 (E_so rfl e5.2.2.1.1))) (fun q => by omega))
theorem r_bells (ho : okZ Z) (hv : rZ V m Z) {s k : Int} (hs : gJ V m 71 = s) (hsr : 0 ≤ s ∧ s < 2147483648) (hk : rg k) :
    ∃ V', F_X10_bells G m k V = some (V', aBells Z s k) ∧ rGb m V V' ∧ gJ V' m 71 = (bellsZ Z s k).2 ∧ rZ V' m (bellsZ Z s k).1 := by
  have ht := till_rg (mh Z.2.1)
  have hh0 := ho.2.1.1
  have ei := r_isIn (G := G) (V := V) (x := k) (a := 1) (b := 20) ⟨by omega, by omega⟩ ⟨by decide, by decide⟩ ⟨by decide, by decide⟩
  have tn : ∀ {U : mV} {M : mMo} {n : Int}, rM (gA U (m + 37)) n M → 0 ≤ mh M ∧ mh M ≤ 9999 → F_X10_tillNoon G m U = some (U, till (mh M)) := by
    intro U M n hM hb
    unfold F_X10_tillNoon
    rw [hM.1, (tm24 hb.1).1]
    refine E_gd ⟨by omega, by omega⟩ (E_gd ⟨by omega, by omega⟩ (E_so rfl ?_))
    rw [Int.tmod_eq_emod_of_nonneg (by omega)]
    unfold till; omega
  have et := tn hv.2.1 hh0
  have h0 : gA V (m + 37) 0 = mh Z.2.1 := hv.2.1.1
  unfold F_X10_bells bellsZ aBells
  by_cases c : canB Z k
  rotate_left
  · obtain ⟨V1, g1, hV1, w1⟩ := r_refuse (G := G) hv (k := 2) (by decide)
    rw [if_neg c, if_neg c]
    have j11 : F_X10_bells_J37 G m k V = some (V1, -1) := by unfold F_X10_bells_J37; exact E_bd g1 rfl
    have kb : rGb m V V1 := by rw [hV1]; exact (rG_sA rfl).b
    have js : gJ V1 m 71 = s := by rw [hV1]; exact hs
    by_cases h5 : 1 ≤ k ∧ k ≤ 20
    · rw [if_pos h5] at ei
      refine ⟨V1, E_gd hk (E_y ei (E_bd et ?_)), kb, js, w1⟩
      rw [h0]
      exact E_gd ⟨by omega, by omega⟩ (E_if (fun q => absurd ⟨h5, q⟩ c) (fun _ => j11))
    · rw [if_neg h5] at ei
      exact ⟨V1, E_gd hk (E_n ei j11), kb, js, w1⟩
  rw [if_pos c, if_pos c]
  rw [if_pos c.1] at ei
  obtain ⟨V1, g1, k1, kj, w1⟩ := r_keepZ (G := G) ho hv
  have o1 : okZ (Z.1, Z.2.1, (Z.2.1 :: Z.2.2.1).take 20, Z.2.2.2) := okZ_new ho ho.2.1
  have main : Wp (lp (fun (y : Int) V => B_X10_bells_49 G m k y V) FU 0 V1) (fun V' q => rGb m V1 V' ∧ gJ V' m 71 = (bellsM Z.1 k.toNat (Z.2.1, s)).2 ∧ rZ V' m (Z.1, (bellsM Z.1 k.toNat (Z.2.1, s)).1, (Z.2.1 :: Z.2.2.1).take 20, Z.2.2.2)) := by
    refine W_lp (fun w (y : Int) U => ∃ (j : Nat) (t : mMo × Int), y = (j : Int) ∧ j + w = k.toNat ∧ rGb m V1 U ∧ gJ U m 71 = t.2 ∧ (0 ≤ t.2 ∧ t.2 < 2147483648) ∧ rZ U m (Z.1, t.1, (Z.2.1 :: Z.2.2.1).take 20, Z.2.2.2) ∧ okZ (Z.1, t.1, (Z.2.1 :: Z.2.2.1).take 20, Z.2.2.2) ∧ bellsM Z.1 w t = bellsM Z.1 k.toNat (Z.2.1, s) ∧ mh t.1 + till (mh t.1) + 24 * (w : Int) - 12 ≤ 9999) ?_ FU k.toNat _ V1 ⟨0, (Z.2.1, s), rfl, by omega, rGb_refl, by rw [kj]; exact hs, hsr, w1, o1, rfl, by show mh Z.2.1 + till (mh Z.2.1) + _ - 12 ≤ 9999; omega⟩ (by unfold FU; omega)
    rintro w y U ⟨j, t, rfl, hw, hf, hj, hjr, hvU, hoU, hb, hB⟩
    unfold B_X10_bells_49
    refine W_gd ⟨by omega, by omega⟩ (W_gd hk (W_if (fun q => W_so (Or.inr ⟨Nat.one_ne_zero, ?_⟩)) (fun q => ?_)))
    · have e : w = 0 := by omega
      subst e
      have e2 : t = bellsM Z.1 k.toNat (Z.2.1, s) := hb
      rw [← e2]
      exact ⟨hf, hj, hvU⟩
    · obtain ⟨w, rfl⟩ : ∃ i, w = i + 1 := ⟨w - 1, by omega⟩
      have ht2 := till_rg (mh t.1)
      have hU0' : 0 ≤ mh t.1 ∧ mh t.1 ≤ 9999 := hoU.2.1.1
      obtain ⟨U3, U1, U2, g2, g3, g4, kk, sj, wv, ow⟩ := r_dayZ (G := G) hoU hvU (s := t.2) hj hjr (by show mh t.1 + till (mh t.1) + 12 ≤ 9999; omega)
      have et2 := tn hvU.2.1 hoU.2.1.1
      refine W_be et2 (W_be g2 (W_be g3 (W_be g4 (W_lt (W_so (Or.inl ⟨rfl, w, by omega, j + 1, bellM Z.1 t, rfl, by omega, hf.trans kk, sj, bell_s hjr, wv, ow, hb, ?_⟩))))))
      rw [bell_mh]
      have : till (mh t.1 + till (mh t.1) + 12) = 12 := by unfold till; omega
      rw [this]; omega
  obtain ⟨V', q, e2, e3, e4, e5⟩ := main
  refine ⟨V', E_gd hk (E_y ei (E_bd et ?_)), k1.b.trans e3, e4, e5⟩
  rw [h0]
  exact E_gd ⟨by omega, by omega⟩ (E_if (fun _ => E_bd g1 (E_bd e2 (E_so rfl e5.2.1.1))) (fun q => by omega))
end

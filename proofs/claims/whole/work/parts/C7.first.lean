/-! what fails first: both -/
noncomputable def frsS (C : mCy) : Nat → mSt → mSt
  | 0, S => S
  | f + 1, S => if 9999 ≤ mh S.1 then S else if (hourS C (S.1, S.2.1, S.2.2.1, fun _ => 0)).2.2.1.2.1 = -1 then frsS C f (hourS C (S.1, S.2.1, S.2.2.1, fun _ => 0)) else hourS C (S.1, S.2.1, S.2.2.1, fun _ => 0)
def frsA (S : mSt) (w : Int) : Int := if S.2.2.1.2.1 = -1 then -1 else if w = 0 then S.2.2.1.1 else if w = 1 then S.2.2.1.2.1 else S.2.2.1.2.2
noncomputable def aFirst (Z : mZ) (w : Int) : Int := if 0 ≤ w ∧ w ≤ 2 then frsA (frsS Z.1 72 (s0 Z.2.1)) w else -1
/-- the first failure's hour is this one -/
def fstP (S : mSt) : Prop := S.2.2.1.2.1 = -1 ∨ S.2.2.1.1 = mh S.1
theorem fst_fail {S : mSt} {w l p : Int} (h : fstP S) : fstP (failX S w l p) := by
  unfold fstP failX at *
  by_cases e : S.2.2.1.2.1 = -1
  · right; show (if S.2.2.1.2.1 = -1 then (mh S.1, w, l) else S.2.2.1).1 = _
    rw [if_pos e]; rfl
  · right; show (if S.2.2.1.2.1 = -1 then (mh S.1, w, l) else S.2.2.1).1 = _
    rw [if_neg e]
    rcases h with q | q
    · exact absurd q e
    · exact q
theorem fst_duty {C : mCy} {clock day l task : Int} {S : mSt} (h : fstP S) : fstP (dutyS C clock day S l task) := by
  have hm := mh_duty (C := C) (clock := clock) (day := day) (l := l) (task := task) (S := S)
  unfold dutyS at hm ⊢
  simp only at hm ⊢
  generalize fi (ml S.1) l 0 (cn C).toNat = who at hm ⊢
  by_cases a : who = -1
  · rw [if_pos a]; exact fst_fail h
  rw [if_neg a] at hm ⊢
  by_cases b : able C (mp S.1 who l) (if who = l then 1 else 0) task clock day = 0
  · rw [if_pos b]; exact fst_fail (S := dry S who) h
  rw [if_neg b] at hm ⊢
  by_cases c : who = l
  · rw [if_pos c]; exact h
  rw [if_neg c] at hm ⊢
  rcases h with q | q
  · exact Or.inl q
  · exact Or.inr (q.trans hm.symm)
theorem fst_stD {C : mCy} {clock day : Int} : ∀ (D : List (Int × Int × Int)) (S : mSt), fstP S → fstP (D.foldl (stD C clock day) S)
  | [], _, h => h
  | d :: D, S, h => by
    refine fst_stD D _ ?_
    unfold stD
    split
    · exact fst_duty h
    · exact h
theorem fst_hour {C : mCy} {S : mSt} (h : S.2.2.1.2.1 = -1) : fstP (hourS C S) := by
  have key : ∀ (M : mMo) (t : (Int × Int) × (Int × Int × Int) × (Int → Int)), fstP ((srt (cn C).toNat (cd C)).foldl (stD C ((mh S.1 + 1) % 24) ((mh S.1 + 1) / 24)) (M, S.2)) := fun M t => fst_stD _ _ (Or.inl h)
  unfold hourS
  simp only
  split
  · rcases key (nightM C (mh S.1 + 1, ml S.1, mw S.1, mp S.1, me S.1) ((mh S.1 + 1) / 24)) S.2 with q | q
    · exact Or.inl q
    · refine Or.inr (q.trans ?_)
      exact (mh_wat _ _ _).symm
  · rcases key (mh S.1 + 1, ml S.1, mw S.1, mp S.1, me S.1) S.2 with q | q
    · exact Or.inl q
    · refine Or.inr (q.trans ?_)
      exact (mh_wat _ _ _).symm
section
variable {G : mG} {V V1 : mV} {cr c mo x m : Nat} {C : mCy} {M : mMo} {B : Int} {n : Int} {Z : mZ}
theorem c_fstZ (hG : is9 G x) (ho : okZ Z) (hv : vZ G V x Z) {k : Int} (hk : rg k) :
    ∃ V', F_X9_first G x k V = some (V', aFirst Z k) ∧ fr (zE G x) V V' ∧ vZ G V' x Z := by
  have hn := ho.1.1
  have hh0 := ho.2.1.1
  unfold F_X9_first aFirst
  by_cases h : 0 ≤ k ∧ k ≤ 2
  rotate_left
  · rw [if_neg h]
    exact ⟨V, E_gd hk (E_if (fun _ => rfl) (fun q => E_if (fun q2 => absurd ⟨by omega, q2⟩ h) (fun _ => rfl))), fr_refl, hv⟩
  rw [if_pos h]
  obtain ⟨a, b, c, d, ⟨e0, f⟩, g, i, j⟩ := hv
  have hG5 := s9_5s hG
  obtain ⟨V1, e1, k1, w1⟩ := m_copy (V := V) (a := x + 227) (b := x + 236) (s9_8s hG) (s9_9s hG) (by omega) hn c
  obtain ⟨V2, e2, k2, w2, z2⟩ := c_forget (V := V1) (cr := x + 27) (M := Z.2.1) (n := cn Z.1) hG5 hn.2 ⟨e0, f.fr k1 (fun j p q => by omega)⟩
  have k12 : fr (fun i => (x + 236 ≤ i ∧ i ≤ x + 244) ∨ (x + 32 ≤ i ∧ i ≤ x + 37)) V V2 := (k1.mono (fun i q => by omega)).trans (k2.mono (fun i q => by omega))
  have main : Wp (lp (fun (y : Int) V => B_X9_first_31 G x k y V) FU 1 V2) (fun V' q => fr (sH (x + 27) (gR G x 10) (x + 236)) V2 V' ∧ vC V' (gR G x 10) Z.1 ∧ kC V' (x + 27) ∧ kS0 V' (x + 27) (frsS Z.1 72 (s0 Z.2.1)) ∧ ((q.1 = 1 ∧ (frsS Z.1 72 (s0 Z.2.1)).2.2.1.2.1 ≠ -1) ∨ (q.1 = 2 ∧ (frsS Z.1 72 (s0 Z.2.1)).2.2.1.2.1 = -1))) := by
    refine W_lp (fun w (y : Int) U => ∃ (q : Nat) (S : mSt), y = (q : Int) ∧ q + w = 73 ∧ fr (sH (x + 27) (gR G x 10) (x + 236)) V2 U ∧ vC U (gR G x 10) Z.1 ∧ kC U (x + 27) ∧ kS0 U (x + 27) S ∧ vM U (x + 236) (cn Z.1) S.1 (240 * mh S.1) ∧ okM (cn Z.1) S.1 ∧ S.2.2.1.2.1 = -1 ∧ frsS Z.1 w S = frsS Z.1 72 (s0 Z.2.1)) ?_ FU 72 _ V2 ⟨1, s0 Z.2.1, rfl, rfl, fr_refl, b.fr k12 (fun j p q _ => by omega), d.fr k12 (by omega) (by omega), w2.to0, w1.fr k2 (fun i p q => by omega), ho.2.1, rfl, rfl⟩ (by unfold FU; omega)
    rintro w y U ⟨q, S, rfl, hw, hf, hvC, hkC, hS, hM, hoM, hf1, hfr⟩
    unfold B_X9_first_31
    refine W_gd ⟨by omega, by omega⟩ (W_if (fun z => W_so (Or.inr ⟨(by decide : (2 : Nat) ≠ 0), ?_⟩)) (fun z => ?_))
    · have e : w = 0 := by omega
      subst e
      have e2 : S = frsS Z.1 72 (s0 Z.2.1) := hfr
      rw [← e2]
      exact ⟨hf, hvC, hkC, hS, Or.inr ⟨rfl, hf1⟩⟩
    · obtain ⟨w, rfl⟩ : ∃ i, w = i + 1 := ⟨w - 1, by omega⟩
      rw [hM.1]
      have hb := hoM.1
      unfold frsS at hfr
      refine W_gd ⟨by omega, by omega⟩ (W_if (fun z2 => W_so (Or.inr ⟨(by decide : (2 : Nat) ≠ 0), ?_⟩)) (fun z2 => ?_))
      · rw [if_pos z2] at hfr
        rw [show frsS Z.1 72 (s0 Z.2.1) = S from hfr.symm]
        exact ⟨hf, hvC, hkC, hS, Or.inr ⟨rfl, hf1⟩⟩
      · rw [if_neg z2] at hfr
        obtain ⟨U1, g1, f1, v1, kk1, m1, o1, s1⟩ := c_comes hG5 (s9_10s hG) (s9_9s hG) ho.1 hvC hkC (by omega) (by omega) hM (by omega) hoM (by omega) hS
        have hmh : mh (hourS Z.1 (S.1, S.2.1, S.2.2.1, fun _ => 0)).1 = mh S.1 + 1 := mh_hour
        refine W_be g1 (W_be p7_size ?_)
        rcases s1.2.1 with ⟨y1, y2⟩ | ⟨y1, y2⟩
        · rw [show gI U1 (x + 34) 1 = 0 from y2]
          rw [if_pos y1] at hfr
          refine W_gd (by decide) (W_if (fun _ => W_lt (W_so (Or.inl ⟨rfl, w, by omega, q + 1, hourS Z.1 (S.1, S.2.1, S.2.2.1, fun _ => 0), rfl, by omega, hf.trans f1, v1, kk1, s1.to0, m1.more (by rw [hmh]; omega), o1, y1, hfr⟩))) (fun q => absurd rfl q))
        · rw [show gI U1 (x + 34) 1 = 3 from y2.1]
          rw [if_neg y1] at hfr
          refine W_gd (by decide) (W_if (fun q => absurd q (by decide)) (fun _ => W_so (Or.inr ⟨Nat.one_ne_zero, ?_⟩)))
          rw [show frsS Z.1 72 (s0 Z.2.1) = _ from hfr.symm]
          exact ⟨hf.trans f1, v1, kk1, s1.to0, Or.inl ⟨rfl, y1⟩⟩
  obtain ⟨V3, q, e3, k3, v3, kc3, s3, r3⟩ := main
  have kk : fr (fun i => (x + 236 ≤ i ∧ i ≤ x + 244) ∨ (x + 32 ≤ i ∧ i ≤ x + 37) ∨ i = x + 29 ∨ isSk (gR G x 10) i) V V3 := (k12.mono (fun i q => by simp only [isSk]; omega)).trans (k3.mono (fun i q => by simp only [sH, isSk] at q ⊢; omega))
  refine ⟨V3, E_gd hk (E_if (fun q => by omega) (fun _ => E_if (fun _ => E_bd e1 (E_bd e2 (E_bd e3 ?_))) (fun q => absurd h.2 q))), kk.mono (fun i q => by simp only [isSk] at q; simp only [zE]; omega), a, v3, c.fr kk (fun i p q => by simp only [isSk]; omega), kc3, ⟨_, s3⟩, ?_, i.fr kk (fun i p q => by simp only [isSk]; omega), j.fr kk (by simp only [isSk]; omega) (by simp only [isSk]; omega)⟩
  · unfold frsA
    rcases r3 with ⟨r1, r2⟩ | ⟨r1, r2⟩
    · rw [if_pos r1, if_neg r2]
      rcases s3.2 with ⟨y1, y2⟩ | ⟨y1, y2⟩
      · exact absurd y1 r2
      · exact E_bd (rw_get (s2_4s hG5) (s2_4c hG5) y2 (by decide) ⟨h.1, by omega⟩) rfl
    · rw [if_neg (by omega), if_pos r2]
  · rw [kk.I (by simp only [isSk]; omega)]; exact g
theorem r_fstZ (ho : okZ Z) (hv : rZ V m Z) {k : Int} (hk : rg k) :
    ∃ V', F_X10_first G m k V = some (V', aFirst Z k) ∧ rQ m V V' ∧ rZ V' m Z := by
  have hn := ho.1.1
  have hh0 := ho.2.1.1
  have ei := r_isIn (G := G) (V := V) (x := k) (a := 0) (b := 2) ⟨by omega, by omega⟩ ⟨by decide, by decide⟩ ⟨by decide, by decide⟩
  unfold F_X10_first aFirst
  by_cases h : 0 ≤ k ∧ k ≤ 2
  rotate_left
  · rw [if_neg h] at ei
    rw [if_neg h]
    exact ⟨V, E_gd hk (E_n ei rfl), rQ_refl, hv⟩
  rw [if_pos h] at ei
  rw [if_pos h]
  obtain ⟨V1, hV1⟩ : ∃ V1, V1 = sF V (m + 38) (up 282 (gA V (m + 37)) (gA V (m + 38))) := ⟨_, rfl⟩
  have e1 := r_puts (G := G) (V := V) (m := m)
  rw [← hV1] at e1
  have k1 : rQ m V V1 := by rw [hV1]; exact rQ_sF ⟨by omega, by omega⟩
  have a37 : gA V1 (m + 37) = gA V (m + 37) := by rw [hV1, gA_sFo (by omega)]
  have a38 : gA V1 (m + 38) 0 = mh Z.2.1 := by
    rw [hV1, gA_sFe]; unfold up; rw [if_pos (by decide)]; exact hv.2.1.1
  obtain ⟨V2, e2, k2, a2, -, -, -, s2⟩ := r_clears (G := G) (V := V1) (m := m)
  have hvC2 := (hv.1.fr k1.cs).fr k2.cs
  have main : Wp (lp (fun (_ : Unit) V => B_X10_first_22 G m k V) FU () V2) (fun V' _ => rH m V2 V' ∧ rM (gA V' (m + 37)) (cn Z.1) (frsS Z.1 72 (s0 Z.2.1)).1 ∧ (∃ S, eq3 S (frsS Z.1 72 (s0 Z.2.1)) ∧ rS V' m S) ∧ fstP (frsS Z.1 72 (s0 Z.2.1)) ∧ rg (mh (frsS Z.1 72 (s0 Z.2.1)).1)) := by
    refine W_lp (fun w (_ : Unit) U => ∃ (j : Nat) (S S' : mSt), ((j + w = 73 ∧ 1 ≤ w ∧ mh S.1 = mh Z.2.1 + j ∧ S.2.2.1.2.1 = -1 ∧ frsS Z.1 (w - 1) S = frsS Z.1 72 (s0 Z.2.1)) ∨ (w = 0 ∧ S.2.2.1.2.1 ≠ -1 ∧ S = frsS Z.1 72 (s0 Z.2.1))) ∧ rH m V2 U ∧ rM (gA U (m + 37)) (cn Z.1) S.1 ∧ okM (cn Z.1) S.1 ∧ eq3 S' S ∧ rS U m S' ∧ fstP S) ?_ FU 73 () V2 ⟨0, s0 Z.2.1, s0 Z.2.1, Or.inl ⟨rfl, by decide, by show mh Z.2.1 = mh Z.2.1 + ((0 : Nat) : Int); omega, rfl, rfl⟩, rH_refl, by rw [a2, a37]; exact hv.2.1, ho.2.1, eq3_rfl, s2 _, Or.inl rfl⟩ (by unfold FU; omega)
    rintro w y U ⟨j, S, S', hc, hf, hM, hoM, h3, hS, hP⟩
    have h61 : gI U m 61 = S.2.2.1.2.1 := by rw [hS.2.2.2.1, h3.2.2]
    have hb := hoM.1
    have hrg : S.2.2.1.2.1 = -1 ∨ S.2.2.1.2.1 = 0 ∨ S.2.2.1.2.1 = 1 := by rw [← h3.2.2]; exact hS.2.2.2.2.1
    unfold B_X10_first_22
    rw [h61]
    refine W_gd ⟨by omega, by omega⟩ (W_if (fun z => ?_) (fun z => W_so (Or.inr ⟨Nat.one_ne_zero, ?_⟩)))
    · rcases hc with ⟨c1, cw, cm, c2, c3⟩ | ⟨c1, c2, c3⟩
      rotate_left
      · exact absurd z c2
      rw [hM.1]
      refine W_gd ⟨by omega, by omega⟩ ?_
      by_cases z2 : 9999 ≤ mh S.1
      · refine W_if (fun _ => W_so (Or.inr ⟨Nat.one_ne_zero, ?_⟩)) (fun q => absurd z2 q)
        have e : S = frsS Z.1 72 (s0 Z.2.1) := by
          rw [← c3]
          cases w - 1 with
          | zero => rfl
          | succ i => unfold frsS; rw [if_pos z2]
        rw [← e]
        exact ⟨hf, hM, ⟨S', h3, hS⟩, hP, ⟨by omega, by omega⟩⟩
      · have h38 : gA U (m + 38) 0 = mh Z.2.1 := by rw [hf.1 _ (by omega) (by omega) (by omega) (by omega), k2.1 _ (by omega) (by omega) (by omega) (by omega)]; exact a38
        rw [h38]
        refine W_if (fun q => absurd q z2) (fun _ => W_gd ⟨by omega, by omega⟩ ?_)
        by_cases z3 : 72 ≤ mh S.1 - mh Z.2.1
        · refine W_if (fun _ => W_so (Or.inr ⟨Nat.one_ne_zero, ?_⟩)) (fun q => absurd z3 q)
          have e : S = frsS Z.1 72 (s0 Z.2.1) := by
            rw [← c3, show w - 1 = 0 by omega]; rfl
          rw [← e]
          exact ⟨hf, hM, ⟨S', h3, hS⟩, hP, ⟨by omega, by omega⟩⟩
        · refine W_if (fun q => absurd q z3) (fun _ => ?_)
          obtain ⟨w', rfl⟩ : ∃ i, w = i + 2 := ⟨w - 2, by omega⟩
          obtain ⟨U1, g1, f1, m1, s1⟩ := r_hour (G := G) (S := S') ho.1 ((hvC2.fr hf.cs)) (by rw [h3.1]; exact hM) (by rw [h3.1]; exact hoM) (by rw [h3.1]; omega) hS
          have q3 : eq3 (hourS Z.1 S') (hourS Z.1 (S.1, S.2.1, S.2.2.1, fun _ => 0)) := eq3_hour ⟨h3.1, h3.2.1, h3.2.2⟩
          have hmh : mh (hourS Z.1 (S.1, S.2.1, S.2.2.1, fun _ => 0)).1 = mh S.1 + 1 := mh_hour
          have okh : okM (cn Z.1) (hourS Z.1 (S.1, S.2.1, S.2.2.1, fun _ => 0)).1 := okM_hour ho.1 hoM (by show mh S.1 ≤ 9998; omega)
          have hPh : fstP (hourS Z.1 (S.1, S.2.1, S.2.2.1, fun _ => 0)) := fst_hour z
          rw [show w' + 2 - 1 = w' + 1 by omega] at c3
          unfold frsS at c3
          rw [if_neg z2] at c3
          by_cases z4 : (hourS Z.1 (S.1, S.2.1, S.2.2.1, fun _ => 0)).2.2.1.2.1 = -1
          · rw [if_pos z4] at c3
            exact W_be g1 (W_so (Or.inl ⟨rfl, w' + 1, by omega, j + 1, _, _, Or.inl ⟨by omega, by omega, by rw [hmh]; omega, z4, c3⟩, hf.trans f1, by rw [← q3.1]; exact m1, okh, q3, s1, hPh⟩))
          · rw [if_neg z4] at c3
            exact W_be g1 (W_so (Or.inl ⟨rfl, 0, by omega, j + 1, _, _, Or.inr ⟨rfl, z4, c3⟩, hf.trans f1, by rw [← q3.1]; exact m1, okh, q3, s1, hPh⟩))
    · rcases hc with ⟨c1, cw, cm, c2, c3⟩ | ⟨c1, c2, c3⟩
      · exact absurd c2 z
      · rw [← c3]
        exact ⟨hf, hM, ⟨S', h3, hS⟩, hP, ⟨by omega, by omega⟩⟩
  obtain ⟨V3, q, e3, k3, w3, ⟨S', h3, s3⟩, hP, hr⟩ := main
  have e4 := r_takes (G := G) (V := V3) (m := m)
  have back := aside_back (V := V) (V1 := V1) (V2 := V3) hV1 ((k3.1 _ (by omega) (by omega) (by omega) (by omega)).trans (k2.1 _ (by omega) (by omega) (by omega) (by omega)))
  have k4 : rQ m V (sF V3 (m + 37) (up 282 (gA V3 (m + 38)) (gA V3 (m + 37)))) := ((k1.trans k2.Q).trans k3.Q).trans (rQ_sF ⟨by omega, by omega⟩)
  have h61 : gI V3 m 61 = (frsS Z.1 72 (s0 Z.2.1)).2.2.1.2.1 := by rw [s3.2.2.2.1, h3.2.2]
  have hrg : (frsS Z.1 72 (s0 Z.2.1)).2.2.1.2.1 = -1 ∨ (frsS Z.1 72 (s0 Z.2.1)).2.2.1.2.1 = 0 ∨ (frsS Z.1 72 (s0 Z.2.1)).2.2.1.2.1 = 1 := by rw [← h3.2.2]; exact s3.2.2.2.2.1
  refine ⟨_, E_gd hk (E_y ei (E_bd e1 (E_bd e2 (E_bd e3 ?_)))), k4, rZ_ask ho hv k4 back (by show gI V3 m 61 = -1 ∨ gI V3 m 61 = 0 ∨ gI V3 m 61 = 1; rw [h61]; exact hrg)⟩
  unfold F_X10_first_J67
  refine E_lt (E_bd e4 ?_)
  show gd (rg (gI V3 m 61)) (if gI V3 m 61 = -1 then _ else gd (rg k) (if k = 0 then some (_, gA V3 (m + 37) 0) else if k = 1 then some (_, gI V3 m 61) else some (_, gI V3 m 62))) = _
  rw [h61, w3.1]
  unfold frsA
  refine E_gd ⟨by omega, by omega⟩ (E_if (fun z => E_so rfl (by rw [if_pos z])) (fun z => E_gd hk ?_))
  rw [if_neg z]
  refine E_if (fun z2 => E_so rfl ?_) (fun z2 => E_if (fun z3 => E_so rfl ?_) (fun z3 => E_so rfl ?_))
  · rw [if_pos z2]
    rcases hP with q | q
    · exact absurd q z
    · exact q.symm
  · rw [if_neg z2, if_pos z3]
  · rw [if_neg z2, if_neg z3]
    have := s3.2.2.2.2.2 (by rw [h3.2.2]; exact z)
    rw [this, h3.2.2]
end

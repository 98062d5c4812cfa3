/-! hours asked (class): what is told, the tally, the loop -/
def vTl (V : mV) (r : Nat) (t : mTl) : Prop := gI V r 0 = t.1 ∧ gI V r 1 = t.2.1 ∧ gI V r 2 = t.2.2.1 ∧ gI V r 3 = t.2.2.2.1 ∧ gJ V r 4 = t.2.2.2.2.1 ∧ gI V r 5 = t.2.2.2.2.2.1 ∧ gI V r 6 = t.2.2.2.2.2.2
/-- cells of S alone, and long ones of r -/
def frt (r : Nat) (S : Nat → Prop) (V V' : mV) : Prop := (∀ i, i ≠ r → gJ V' i = gJ V i) ∧ gL V' = gL V ∧ ∀ i, ¬ S i → gI V' i = gI V i ∧ gA V' i = gA V i
theorem frt_refl {r : Nat} {S : Nat → Prop} {V : mV} : frt r S V V := ⟨fun _ _ => rfl, rfl, fun _ _ => ⟨rfl, rfl⟩⟩
theorem frt.trans {r : Nat} {S : Nat → Prop} {V V1 V2 : mV} (h : frt r S V V1) (k : frt r S V1 V2) : frt r S V V2 := ⟨fun i q => (k.1 i q).trans (h.1 i q), k.2.1.trans h.2.1, fun i hi => ⟨((k.2.2 i hi).1).trans (h.2.2 i hi).1, ((k.2.2 i hi).2).trans (h.2.2 i hi).2⟩⟩
theorem frt.mono {r : Nat} {S S' : Nat → Prop} {V V1 : mV} (h : frt r S V V1) (k : ∀ i, S i → S' i) : frt r S' V V1 := ⟨h.1, h.2.1, fun i hi => h.2.2 i (fun q => hi (k i q))⟩
theorem fr.t {r : Nat} {S : Nat → Prop} {V V' : mV} (h : fr S V V') : frt r S V V' := ⟨fun _ _ => by rw [h.1], h.2.1, h.2.2⟩
theorem frt.to {r : Nat} {S : Nat → Prop} {V V' : mV} (h : frt r S V V') : fr S V (V'.1, V.2.1, V'.2.2) := ⟨rfl, h.2.1, fun i hi => h.2.2 i hi⟩
section
variable {G : mG} {V : mV} {r k : Nat} {t : mTl} {h v : Int}
theorem c_cnt1 (ht : vTl V r t) (hb : tlB k t) (hv : -1000000 ≤ v ∧ v ≤ 1000000) :
    ∃ V1, F_X8_count G r h v V = F_X8_count_J32 G r h v V1 ∧ fr (fun i => i = r) V V1 ∧ gI V1 r 0 = t.1 ∧ gI V1 r 1 = (tlS t h v).2.1 ∧ gI V1 r 2 = (tlS t h v).2.2.1 ∧ gI V1 r 3 = (tlS t h v).2.2.2.1 ∧ gI V1 r 5 = t.2.2.2.2.2.1 ∧ gI V1 r 6 = t.2.2.2.2.2.2 := by
  obtain ⟨t0, t1, t2, t3, t4, t5, t6⟩ := ht
  have rv : rg v := ⟨by omega, by omega⟩
  have b1 := hb.2.1
  have rf : rg (gI V r 1) := by rw [t1]; exact ⟨by omega, by omega⟩
  by_cases c : v = 0
  · refine ⟨V, ?_, fr_refl, t0, ?_, ?_, ?_, t5, t6⟩
    · unfold F_X8_count
      exact E_gd rv (E_if (fun _ => rfl) (fun q => absurd c q))
    · rw [t1]; simp [tlS, c]
    · rw [t2]; simp [tlS, c]
    · rw [t3]; simp [tlS, c]
  · by_cases d : t.2.1 = -1
    · obtain ⟨V1, hV1⟩ : ∃ V1, V1 = sI (sI (sI V r 1 h) r 2 h) r 3 (gI (sI (sI V r 1 h) r 2 h) r 3 + 1) := ⟨_, rfl⟩
      have k3 : gI (sI (sI V r 1 h) r 2 h) r 3 = t.2.2.2.1 := by rw [gI_sI, if_neg (by omega), gI_sI, if_neg (by omega)]; exact t3
      refine ⟨V1, ?_, by rw [hV1]; exact ((fr_sI (S := fun i => i = r) rfl).trans (fr_sI rfl)).trans (fr_sI rfl), ?_, ?_, ?_, ?_, ?_, ?_⟩
      · unfold F_X8_count
        refine E_gd rv (E_if (fun q => absurd q c) (fun _ => E_gd rf (E_if (fun _ => E_lt ?_) (fun q => absurd (t1.trans d) q))))
        unfold F_X8_count_J17
        refine E_lt (E_lt ?_)
        rw [← hV1]
      · rw [hV1, gI_sI, if_neg (by omega), gI_sI, if_neg (by omega), gI_sI, if_neg (by omega)]; exact t0
      · rw [hV1, gI_sI, if_neg (by omega), gI_sI, if_neg (by omega), gI_sI, if_pos ⟨rfl, rfl⟩]; simp [tlS, c, d]
      · rw [hV1, gI_sI, if_neg (by omega), gI_sI, if_pos ⟨rfl, rfl⟩]; simp [tlS, c]
      · rw [hV1, gI_sI, if_pos ⟨rfl, rfl⟩, k3]; simp [tlS, c]
      · rw [hV1, gI_sI, if_neg (by omega), gI_sI, if_neg (by omega), gI_sI, if_neg (by omega)]; exact t5
      · rw [hV1, gI_sI, if_neg (by omega), gI_sI, if_neg (by omega), gI_sI, if_neg (by omega)]; exact t6
    · obtain ⟨V1, hV1⟩ : ∃ V1, V1 = sI (sI V r 2 h) r 3 (gI (sI V r 2 h) r 3 + 1) := ⟨_, rfl⟩
      have k3 : gI (sI V r 2 h) r 3 = t.2.2.2.1 := by rw [gI_sI, if_neg (by omega)]; exact t3
      refine ⟨V1, ?_, by rw [hV1]; exact (fr_sI (S := fun i => i = r) rfl).trans (fr_sI rfl), ?_, ?_, ?_, ?_, ?_, ?_⟩
      · unfold F_X8_count
        refine E_gd rv (E_if (fun q => absurd q c) (fun _ => E_gd rf (E_if (fun q => absurd (t1.symm.trans q) d) (fun _ => ?_))))
        unfold F_X8_count_J17
        refine E_lt (E_lt ?_)
        rw [← hV1]
      · rw [hV1, gI_sI, if_neg (by omega), gI_sI, if_neg (by omega)]; exact t0
      · rw [hV1, gI_sI, if_neg (by omega), gI_sI, if_neg (by omega), t1]; simp [tlS, c, d]
      · rw [hV1, gI_sI, if_neg (by omega), gI_sI, if_pos ⟨rfl, rfl⟩]; simp [tlS, c]
      · rw [hV1, gI_sI, if_pos ⟨rfl, rfl⟩, k3]; simp [tlS, c]
      · rw [hV1, gI_sI, if_neg (by omega), gI_sI, if_neg (by omega)]; exact t5
      · rw [hV1, gI_sI, if_neg (by omega), gI_sI, if_neg (by omega)]; exact t6
theorem c_tally (ht : vTl V r t) (hb : tlB k t) (hk : k ≤ 100) (hv : -1000000 ≤ v ∧ v ≤ 1000000) : ∃ V', F_X8_count G r h v V = some (V', 0) ∧ frt r (fun i => i = r) V V' ∧ vTl V' r (tlS t h v) := by
  obtain ⟨V1, e1, k1, a0, a1, a2, a3, a5, a6⟩ := c_cnt1 (G := G) (h := h) ht hb hv
  have rv : rg v := ⟨by omega, by omega⟩
  have b0 := hb.1
  have b5 := hb.2.2.2.2.2
  have r0 : rg (gI V1 r 0) := by rw [a0]; exact ⟨by omega, by omega⟩
  have r5 : rg (gI V1 r 5) := by rw [a5]; exact ⟨by omega, by omega⟩
  have r6 : rg (gI V1 r 6) := by rw [a6]; exact ⟨by omega, by omega⟩
  have j4 : gJ V1 r 4 = t.2.2.2.2.1 := by rw [k1.1]; exact ht.2.2.2.2.1
  obtain ⟨x, hx⟩ : ∃ x, x = (tlS t h v).2.2.2.2.2.1 := ⟨_, rfl⟩
  obtain ⟨y, hy⟩ : ∃ y, y = (tlS t h v).2.2.2.2.2.2 := ⟨_, rfl⟩
  obtain ⟨V2, hV2⟩ : ∃ V2, V2 = sJ V1 r 4 (gJ V1 r 4 + v) := ⟨_, rfl⟩
  obtain ⟨V3, hV3⟩ : ∃ V3, V3 = sI V2 r 5 x := ⟨_, rfl⟩
  obtain ⟨V4, hV4⟩ : ∃ V4, V4 = sI V3 r 6 y := ⟨_, rfl⟩
  obtain ⟨V5, hV5⟩ : ∃ V5, V5 = sI V4 r 0 (gI V4 r 0 + 1) := ⟨_, rfl⟩
  have i2 : gI V2 = gI V1 := by rw [hV2]; rfl
  have i3 : ∀ q, q ≠ 5 → gI V3 r q = gI V1 r q := fun q hq => by rw [hV3, gI_sI, if_neg (by omega), i2]
  have i4 : ∀ q, q ≠ 6 → gI V4 r q = gI V3 r q := fun q hq => by rw [hV4, gI_sI, if_neg (by omega)]
  have i5 : ∀ q, q ≠ 0 → gI V5 r q = gI V4 r q := fun q hq => by rw [hV5, gI_sI, if_neg (by omega)]
  have j86 : F_X8_count_J86 G r h v y V3 = some (V5, 0) := by
    unfold F_X8_count_J86
    refine E_lt (E_lt ?_)
    rw [← hV4, ← hV5]
  have j63 : F_X8_count_J63 G r h v x V2 = some (V5, 0) := by
    unfold F_X8_count_J63
    refine E_lt ?_
    rw [← hV3, i3 0 (by decide), i3 6 (by decide)]
    refine E_gd r0 (E_if (fun q => ?_) (fun q => E_gd r6 (E_gd rv ?_)))
    · have ev : v = y := by rw [hy]; show v = if t.1 = 0 then v else _; rw [if_pos (a0.symm.trans q)]
      rw [← ev] at j86
      exact j86
    · have ev : min (gI V1 r 6) v = y := by rw [hy, a6]; show _ = if t.1 = 0 then v else _; rw [if_neg (fun z => q (a0.trans z))]
      rw [ev]; exact j86
  refine ⟨V5, e1.trans ?_, ?_, ?_, ?_, ?_, ?_, ?_, ?_, ?_⟩
  · unfold F_X8_count_J32
    refine E_gd rv (E_lt ?_)
    rw [← hV2, i2]
    refine E_gd r0 (E_if (fun q => ?_) (fun q => E_gd r5 ?_))
    · have ev : v = x := by rw [hx]; show v = if t.1 = 0 then v else _; rw [if_pos (a0.symm.trans q)]
      rw [← ev] at j63
      exact j63
    · have ev : max (gI V1 r 5) v = x := by rw [hx, a5]; show _ = if t.1 = 0 then v else _; rw [if_neg (fun z => q (a0.trans z))]
      rw [ev]; exact j63
  · have k2 : frt r (fun i => i = r) V1 V2 := by
      rw [hV2]
      refine ⟨fun i hi => ?_, rfl, fun _ _ => ⟨rfl, rfl⟩⟩
      funext q
      show u2 (gJ V1) r 4 _ i q = _
      unfold u2
      rw [if_neg (fun w => hi w.1)]
    have k3 : fr (fun i => i = r) V2 V5 := by
      rw [hV5, hV4, hV3]
      exact ((fr_sI (S := fun i => i = r) rfl).trans (fr_sI rfl)).trans (fr_sI rfl)
    exact (k1.t.trans k2).trans k3.t
  · rw [hV5, gI_sI, if_pos ⟨rfl, rfl⟩, i4 0 (by decide), i3 0 (by decide), a0]; rfl
  · rw [i5 1 (by decide), i4 1 (by decide), i3 1 (by decide)]; exact a1
  · rw [i5 2 (by decide), i4 2 (by decide), i3 2 (by decide)]; exact a2
  · rw [i5 3 (by decide), i4 3 (by decide), i3 3 (by decide)]; exact a3
  · have e5 : gJ V5 = gJ V2 := by rw [hV5, hV4, hV3]; rfl
    rw [e5, hV2]
    show u2 (gJ V1) r 4 _ r 4 = _
    unfold u2
    rw [if_pos ⟨rfl, rfl⟩, j4]; rfl
  · rw [i5 5 (by decide), i4 5 (by decide), hV3, gI_sI, if_pos ⟨rfl, rfl⟩, hx]
  · rw [i5 6 (by decide), hV4, gI_sI, if_pos ⟨rfl, rfl⟩, hy]
end
section
variable {G : mG} {V : mV} {cr c mo : Nat} {C : mCy} {B : Int} {M : mMo}
/-- the facts of a question -/
theorem c_askF (hG : is2 G cr) (hc : is1 G c) (hm : is4 G mo) (ho : okC C) (hv : vC V c C) (hk : kC V cr) (hmo : cr + 10 < mo) (hd : mo + 8 < c) (hM : vM V mo (cn C) M B) (hoM : okM (cn C) M) {d : Int → Int} (hD : rw' V (cr + 9) 10 d) (hdb : ∀ p, 0 ≤ d p ∧ d p ≤ 24) {p : Int} (hp : 0 ≤ p ∧ p < cn C) :
    ∃ V', F_X2_setAskFacts G cr c mo p V = some (V', 0) ∧ fr (fun i => i = cr + 2) V V' ∧ kC V' cr ∧ (∀ k ∈ alS 3, rc V' (cr + 1) (wrd k) = qF M d p k) ∧ ∀ a, 0 ≤ a → a < 10 → rc V' (cr + 1) (33 + a) = qK C M p a := by
  have hn := ho.1
  have hh := hoM.1
  have hl := hoM.2.1 p hp.1 hp.2
  have dp := hdb p
  have gh : gI V mo 0 = mh M := hM.1
  have hcn : gI V (c + 1) 1 = cn C := hv.2.1.1.1
  have ht : (mh M).tmod 24 = mh M % 24 := Int.tmod_eq_emod_of_nonneg hh.1
  have htd : (mh M).tdiv 24 = mh M / 24 := Int.tdiv_eq_ediv_of_nonneg hh.1
  have e1 := rw_get (G := G) (k := p) (s4_1s hm) (s4_1c hm) hM.2.1 hn.2 hp
  obtain ⟨V1, g1, q1, k1, t1⟩ := c_time (V := V) hG hk (a := mh M % 24) (b := mh M / 24) ⟨by omega, by omega⟩ ⟨by omega, by omega⟩
  obtain ⟨V2, g2, q2, k2, o2⟩ := k_put (k := 30) (v := mh M) hG q1 ⟨by decide, by decide⟩ ⟨by omega, by omega⟩
  obtain ⟨lv, hlv⟩ : ∃ lv, lv = (if ml M p = -1 then (99 : Int) else ml M p) := ⟨_, rfl⟩
  have lvb : -1000000 ≤ lv ∧ lv ≤ 1000000 := by rw [hlv]; split <;> omega
  obtain ⟨V3, g3, q3, k3, o3⟩ := k_put (k := 31) (v := lv) hG q2 ⟨by decide, by decide⟩ lvb
  have k13 : fr (fun i => i = cr + 2) V V3 := (k1.trans k2).trans k3
  have e3 := rw_get (G := G) (k := p) (s2_5s hG) (s2_5c hG) (hD.fr k13 (by omega) (by omega)) (by decide) ⟨hp.1, by omega⟩
  obtain ⟨V4, g4, q4, k4, o4⟩ := k_put (k := 32) (v := d p) hG q3 ⟨by decide, by decide⟩ ⟨by omega, by omega⟩
  have k14 : fr (fun i => i = cr + 2) V V4 := k13.trans k4
  have main : Wp (lp (fun (s : Int) V => B_X2_setAskFacts_92 G cr c mo p (cn C) s V) FU 0 V4) (fun U _ => fr (fun i => i = cr + 2) V4 U ∧ kC U cr ∧ (∀ j, 0 ≤ j → j < 33 → rc U (cr + 1) j = rc V4 (cr + 1) j) ∧ ∀ a, 0 ≤ a → a < 10 → rc U (cr + 1) (33 + a) = qK C M p a) := by
    refine W_lp (fun w (y : Int) U => (0 ≤ y ∧ y + w = 10) ∧ fr (fun i => i = cr + 2) V4 U ∧ kC U cr ∧ (∀ j, 0 ≤ j → j < 33 → rc U (cr + 1) j = rc V4 (cr + 1) j) ∧ ∀ a, 0 ≤ a → a < y → rc U (cr + 1) (33 + a) = qK C M p a) ?_ FU 10 _ V4 ⟨⟨by decide, by decide⟩, fr_refl, q4, fun _ _ _ => rfl, fun a h0 h1 => by omega⟩ (by unfold FU; decide)
    rintro w y U ⟨⟨y0, yw⟩, f1, f2, f3, f4⟩
    unfold B_X2_setAskFacts_92
    refine W_gd ⟨by omega, by omega⟩ (W_if (fun z => W_so (Or.inr ⟨Nat.one_ne_zero, f1, f2, f3, fun a h0 h1 => f4 a h0 (by omega)⟩)) (fun z => W_gd ⟨by omega, by omega⟩ ?_))
    have go : ∀ x, -1000000 ≤ x ∧ x ≤ 1000000 → x = qK C M p y → ∃ U1, F_X7_put G (cr + 1) (33 + y) x U = some (U1, 0) ∧ fr (fun i => i = cr + 2) V4 U1 ∧ kC U1 cr ∧ (∀ j, 0 ≤ j → j < 33 → rc U1 (cr + 1) j = rc V4 (cr + 1) j) ∧ ∀ a, 0 ≤ a → a < y + 1 → rc U1 (cr + 1) (33 + a) = qK C M p a := by
      intro x hx ex
      obtain ⟨U1, h1, h2, h3, h4⟩ := k_put (k := 33 + y) (v := x) hG f2 ⟨by omega, by omega⟩ hx
      refine ⟨U1, h1, f1.trans h3, h2, fun j j0 j1 => ?_, fun a a0 a1 => ?_⟩
      · rw [h4 j j0, if_neg (by omega)]; exact f3 j j0 j1
      · rw [h4 (33 + a) (by omega)]
        by_cases e : a = y
        · rw [if_pos (by omega), e]; exact ex
        · rw [if_neg (by omega)]; exact f4 a a0 (by omega)
    by_cases z2 : cn C ≤ y
    · obtain ⟨U1, h1, h2, h3, h4, h5⟩ := go 0 ⟨by decide, by decide⟩ (by unfold qK; rw [if_neg (by omega)])
      exact W_if (fun _ => W_be h1 (W_lt (W_so (Or.inl ⟨rfl, w - 1, by omega, ⟨by show 0 ≤ y + 1; omega, by show y + 1 + ((w - 1 : Nat) : Int) = 10; omega⟩, h2, h3, h4, h5⟩)))) (fun q => absurd z2 q)
    · have hm4 : vM U mo (cn C) M B := hM.fr (k14.trans f1) (fun i h0 h1 => by omega)
      have ep := m_points (G := G) hm hn.2 hm4 hp (l := y) ⟨y0, by omega⟩
      have bp := hoM.2.2.2.2.1 p y hp.1 hp.2 y0 (by omega)
      obtain ⟨U1, h1, h2, h3, h4, h5⟩ := go (mp M p y) ⟨by omega, by omega⟩ (by unfold qK; rw [if_pos ⟨y0, by omega⟩])
      exact W_if (fun q => absurd q z2) (fun _ => W_be ep (W_be h1 (W_lt (W_so (Or.inl ⟨rfl, w - 1, by omega, ⟨by show 0 ≤ y + 1; omega, by show y + 1 + ((w - 1 : Nat) : Int) = 10; omega⟩, h2, h3, h4, h5⟩)))))
  obtain ⟨V5, u5, e5, k5, q5, o5, a5⟩ := main
  have gm1 : gI V1 mo 0 = mh M := by rw [k1.I (by omega)]; exact gh
  refine ⟨V5, ?_, k14.trans k5, q5, fun k hkS => ?_, a5⟩
  · unfold F_X2_setAskFacts
    refine E_bd p7_size ?_
    rw [hcn]
    refine E_bd e1 ?_
    rw [gh, ht, htd]
    refine E_gd ⟨by omega, by omega⟩ (E_bd g1 ?_)
    rw [gm1]
    have j69 : F_X2_setAskFacts_J69 G cr c mo p (cn C) 31 lv V2 = some (V5, 0) := by
      unfold F_X2_setAskFacts_J69
      exact E_bd g3 (E_bd e3 (E_bd g4 (E_bd e5 rfl)))
    refine E_bd g2 (E_gd ⟨by omega, by omega⟩ (E_if (fun q => ?_) (fun q => ?_)))
    · rw [hlv, if_pos q] at j69; exact j69
    · rw [hlv, if_neg q] at j69; exact j69
  · have hS : k = 0 ∨ k = 1 ∨ k = 7 ∨ k = 8 ∨ k = 9 := by
      have : k ∈ ([0, 1, 7, 8, 9] : List Int) := hkS
      simpa using this
    rcases hS with rfl | rfl | rfl | rfl | rfl
    · show rc V5 (cr + 1) 12 = mh M % 24
      rw [o5 12 (by decide) (by decide), o4 12 (by decide), if_neg (by decide), o3 12 (by decide), if_neg (by decide), o2 12 (by decide), if_neg (by decide)]; exact t1.1
    · show rc V5 (cr + 1) 13 = mh M / 24
      rw [o5 13 (by decide) (by decide), o4 13 (by decide), if_neg (by decide), o3 13 (by decide), if_neg (by decide), o2 13 (by decide), if_neg (by decide)]; exact t1.2
    · show rc V5 (cr + 1) 30 = mh M
      rw [o5 30 (by decide) (by decide), o4 30 (by decide), if_neg (by decide), o3 30 (by decide), if_neg (by decide), o2 30 (by decide), if_pos rfl]
    · show rc V5 (cr + 1) 31 = if ml M p = -1 then 99 else ml M p
      rw [o5 31 (by decide) (by decide), o4 31 (by decide), if_neg (by decide), o3 31 (by decide), if_pos rfl, hlv]
    · show rc V5 (cr + 1) 32 = d p
      rw [o5 32 (by decide) (by decide), o4 32 (by decide), if_pos rfl]
/-- what a question tells of the hour -/
theorem c_qval1 {f : Nat} {cs : List Int} {d : Int → Int} {p : Int} {b : Bool} (hG : is2 G cr) (hF : is3 G f) (hv : vF V f cs) (hk : kC V cr) (hne : cr + 2 ≠ f + 4) (hpk : pkS (alS 3) (3 = 3) cs) (h1 : ∀ k ∈ alS 3, rc V (cr + 1) (wrd k) = qF M d p k) (h2 : ∀ a, 0 ≤ a → a < 10 → rc V (cr + 1) (33 + a) = qK C M p a) (ho : okC C) (hM : okM (cn C) M) (hp : 0 ≤ p ∧ p < cn C) (hd : 0 ≤ d p ∧ d p ≤ 24) (hc : okc b 40 cs) :
    ∃ g : Nat → Int, F_X3_value G f (cr + 1) V = some (sF V (f + 4) g, qV C (M, d) p cs) := by
  have hn := ho.1
  obtain ⟨e, -, -⟩ := qV_ok ho hM hp ⟨hd.1, by omega⟩ hc
  have kn : (fun a => if 0 ≤ a ∧ a < 10 then rc V (cr + 1) (33 + a) else 0) = qK C M p := by
    funext a
    by_cases z : 0 ≤ a ∧ a < 10
    · rw [if_pos z]; exact h2 a z.1 z.2
    · rw [if_neg z]; unfold qK; rw [if_neg (by omega)]
  have e' : evs (fun k => rc V (cr + 1) (wrd k)) (fun a => if 0 ≤ a ∧ a < 10 then rc V (cr + 1) (33 + a) else 0) cs [] = some [qV C (M, d) p cs] := by
    rw [kn, evs_cq (fb := qF M d p) h1 hpk]; exact e
  exact p3_value hF hv.2.2.2 (fun j => by have := hk.2 j; exact ⟨by omega, by omega⟩) (s2_0s hG) hk.1 (s2_0c hG) hne hv.1 hv.2.1 hv.2.2.1 e'
end

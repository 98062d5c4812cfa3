/-! a moment copied, a moment begun -/
theorem rw_copy {G : mG} {V : mV} {r p cap : Nat} (hr : is7 G r) (hp : is7 G p) (hq : qG G (r + 1) = cap) (hq2 : qG G (p + 1) = cap) (hne : p ≠ r) (hz : 0 ≤ gI V p 1 ∧ gI V p 1 ≤ (cap : Int)) :
    ∃ V', F_X7_copy G r p V = some (V', 0) ∧ fr (fun i => i = r ∨ i = r + 1) V V' ∧ gI V' r 1 = gI V p 1 ∧ ∀ j, 0 ≤ j → j < gI V p 1 → rc V' r j = rc V p j := by
  have hc := s7_c hr
  refine ⟨_, p7_copy hr hp hne (by omega) ⟨hz.1, by rw [hq2]; exact hz.2⟩, fr_rcopy (Or.inr rfl) (Or.inl rfl), ?_, fun j h0 h1 => ?_⟩
  · rw [hq]
    show gI (sI V r 1 (min (gI V p 1) (cap : Int))) r 1 = _
    rw [gI_sI, if_pos ⟨rfl, rfl⟩]; omega
  · show gA (rcopy V r (qG G (r + 1)) p) (r + 1) j.toNat = gA V (p + 1) j.toNat
    unfold rcopy rset
    rw [gA_sF, if_pos rfl, hq, if_pos (by omega)]
theorem rw_copy' {G : mG} {V : mV} {r p cap : Nat} {n : Int} {f : Int → Int} (hr : is7 G r) (hp : is7 G p) (hq : qG G (r + 1) = cap) (hq2 : qG G (p + 1) = cap) (hne : p ≠ r) (hn : 0 ≤ n ∧ n ≤ (cap : Int)) (h : rw' V p n f) :
    ∃ V', F_X7_copy G r p V = some (V', 0) ∧ fr (fun i => i = r ∨ i = r + 1) V V' ∧ rw' V' r n f := by
  obtain ⟨V', e, k, a, b⟩ := rw_copy hr hp hq hq2 hne (by rw [h.1]; exact hn)
  exact ⟨V', e, k, a.trans h.1, fun j h0 h1 => (b j h0 (by rw [h.1]; exact h1)).trans (h.2 j h0 h1)⟩
theorem m_copy {G : mG} {V : mV} {a b : Nat} {n B : Int} {M : mMo} (ha : is4 G a) (hb : is4 G b) (hd : a + 8 < b ∨ b + 8 < a) (hn : 0 ≤ n ∧ n ≤ 10) (h : vM V a n M B) :
    ∃ V', F_X4_copy G b a V = some (V', 0) ∧ fr (fun i => b ≤ i ∧ i ≤ b + 8) V V' ∧ vM V' b n M B := by
  obtain ⟨h1, h2, h3, h4, h5, h6⟩ := h
  have k0 : fr (fun i => i = b) V (sI V b 0 (gI V a 0)) := fr_sI rfl
  obtain ⟨V1, e1, k1, w1⟩ := rw_copy' (V := sI V b 0 (gI V a 0)) (s4_1s hb) (s4_1s ha) (s4_1c hb) (s4_1c ha) (by omega) hn (h2.fr k0 (by omega) (by omega))
  have k01 : fr (fun i => i = b ∨ i = b + 1 ∨ i = b + 2) V V1 := (k0.mono (fun i q => by omega)).trans (k1.mono (fun i q => by omega))
  obtain ⟨V2, e2, k2, w2⟩ := rw_copy' (V := V1) (s4_2s hb) (s4_2s ha) (s4_2c hb) (s4_2c ha) (by omega) hn (h3.fr k01 (by omega) (by omega))
  have k02 : fr (fun i => i = b ∨ (b + 1 ≤ i ∧ i ≤ b + 4)) V V2 := (k01.mono (fun i q => by omega)).trans (k2.mono (fun i q => by omega))
  have h4' : vP V2 (a + 5) n (mp M) := h4.fr k02 (by omega) (by omega)
  obtain ⟨V3, e3, k3, s3, w3⟩ := rw_copy (V := V2) (s4_3s hb) (s4_3s ha) (s4_3c hb) (s4_3c ha) (by omega) (by rw [h4'.1]; decide)
  have k03 : fr (fun i => i = b ∨ (b + 1 ≤ i ∧ i ≤ b + 6)) V V3 := (k02.mono (fun i q => by omega)).trans (k3.mono (fun i q => by omega))
  have h6' : vK V3 a (gI V a 5) (me M) := h6.fr k03 (by omega) (by omega)
  obtain ⟨V4, e4, k4, s4, w4⟩ := rw_copy (V := V3) (s4_4s hb) (s4_4s ha) (s4_4c hb) (s4_4c ha) (by omega) (by rw [h6'.1]; decide)
  have k04 : fr (fun i => b ≤ i ∧ i ≤ b + 8) V V4 := (k03.mono (fun i q => by omega)).trans (k4.mono (fun i q => by omega))
  have ea : gI V4 a 5 = gI V a 5 := k04.I (by omega) 5
  have k5 : fr (fun i => i = b) V4 (sI V4 b 5 (gI V4 a 5)) := fr_sI rfl
  have k14 : fr (fun i => i = b + 3 ∨ i = b + 4 ∨ i = b + 5 ∨ i = b + 6 ∨ i = b + 7 ∨ i = b + 8 ∨ i = b) V1 (sI V4 b 5 (gI V4 a 5)) := (((k2.mono (fun i q => by omega)).trans (k3.mono (fun i q => by omega))).trans (k4.mono (fun i q => by omega))).trans (k5.mono (fun i q => by omega))
  have k24 : fr (fun i => i = b + 5 ∨ i = b + 6 ∨ i = b + 7 ∨ i = b + 8 ∨ i = b) V2 (sI V4 b 5 (gI V4 a 5)) := ((k3.mono (fun i q => by omega)).trans (k4.mono (fun i q => by omega))).trans (k5.mono (fun i q => by omega))
  have k34 : fr (fun i => i = b + 7 ∨ i = b + 8 ∨ i = b) V3 (sI V4 b 5 (gI V4 a 5)) := (k4.mono (fun i q => by omega)).trans (k5.mono (fun i q => by omega))
  have e0 : gI (sI V4 b 5 (gI V4 a 5)) b 0 = mh M := by
    rw [gI_sI, if_neg (by rintro ⟨-, q⟩; cases q), k4.I (by omega), k3.I (by omega), k2.I (by omega), k1.I (by omega), gI_sI, if_pos ⟨rfl, rfl⟩]; exact h1
  have e5 : gI (sI V4 b 5 (gI V4 a 5)) b 5 = gI V a 5 := by rw [gI_sI, if_pos ⟨rfl, rfl⟩, ea]
  refine ⟨sI V4 b 5 (gI V4 a 5), ?_, k04.trans (k5.mono (fun i q => by omega)), e0, w1.fr k14 (by omega) (by omega), w2.fr k24 (by omega) (by omega), ?_, ?_, ?_⟩
  · unfold F_X4_copy
    exact E_lt (E_bd e1 (E_bd e2 (E_bd e3 (E_bd e4 (E_lt rfl)))))
  · refine vP.fr (V := V3) ⟨s3.trans h4'.1, fun x y x1 x2 y1 y2 => ?_⟩ k34 (by omega) (by omega)
    rw [w3 _ (by omega) (by rw [h4'.1]; omega)]
    exact h4'.2 x y x1 x2 y1 y2
  · rw [e5]; exact h5
  · rw [e5]
    have h46 : vK V4 b (gI V a 5) (me M) := by
      refine ⟨s4.trans h6'.1, h6'.2.1, fun i hi => ?_⟩
      have q := h6'.2.2 i hi
      rw [w4 _ (by omega) (by rw [h6'.1]; omega), w4 _ (by omega) (by rw [h6'.1]; omega), w4 _ (by omega) (by rw [h6'.1]; omega), w4 _ (by omega) (by rw [h6'.1]; omega)]
      exact q
    exact h46.fr k5 (by omega) (by omega)
def M0 (C : mCy) : mMo := (0, fun p => p, fun _ => -1, ck C, [])
theorem m_begin {G : mG} {V : mV} {mo c : Nat} {C : mCy} (hm : is4 G mo) (hc : is1 G c) (hd : mo + 8 < c ∨ c + 41 < mo) (ho : okC C) (hv : vC V c C) :
    ∃ V', F_X4_begin G mo c V = some (V', 0) ∧ fr (fun i => mo ≤ i ∧ i ≤ mo + 8) V V' ∧ vM V' mo (cn C) (M0 C) 0 := by
  have hn := ho.1
  have k0 : fr (fun i => i = mo) V (sI V mo 0 0) := fr_sI rfl
  obtain ⟨V1, e1, k1, w1⟩ := m_home (V := sI V mo 0 0) hm hn
  obtain ⟨V2, e2, k2, w2⟩ := rw_fill (V := V1) (v := -1) (s4_2s hm) (s4_2c hm) hn
  have k02 : fr (fun i => mo ≤ i ∧ i ≤ mo + 4) V V2 := ((k0.mono (fun i q => by omega)).trans (k1.mono (fun i q => by omega))).trans (k2.mono (fun i q => by omega))
  have hP : vP V2 (c + 9) (cn C) (ck C) := hv.2.1.2.2.2.2.fr k02 (by omega) (by omega)
  obtain ⟨V3, e3, k3, s3, w3⟩ := rw_copy (V := V2) (s4_3s hm) (s1_4s hc) (s4_3c hm) (s1_4c hc) (by omega) (by rw [hP.1]; decide)
  obtain ⟨V4, e4, k4, w4⟩ := rw_fill (V := V3) (n := 160) (v := -1) (s4_4s hm) (s4_4c hm) (by decide)
  have k5 : fr (fun i => i = mo) V4 (sI V4 mo 5 0) := fr_sI rfl
  have k14 : fr (fun i => i = mo + 3 ∨ i = mo + 4 ∨ i = mo + 5 ∨ i = mo + 6 ∨ i = mo + 7 ∨ i = mo + 8 ∨ i = mo) V1 (sI V4 mo 5 0) := (((k2.mono (fun i q => by omega)).trans (k3.mono (fun i q => by omega))).trans (k4.mono (fun i q => by omega))).trans (k5.mono (fun i q => by omega))
  have k24 : fr (fun i => i = mo + 5 ∨ i = mo + 6 ∨ i = mo + 7 ∨ i = mo + 8 ∨ i = mo) V2 (sI V4 mo 5 0) := ((k3.mono (fun i q => by omega)).trans (k4.mono (fun i q => by omega))).trans (k5.mono (fun i q => by omega))
  have k34 : fr (fun i => i = mo + 7 ∨ i = mo + 8 ∨ i = mo) V3 (sI V4 mo 5 0) := (k4.mono (fun i q => by omega)).trans (k5.mono (fun i q => by omega))
  refine ⟨sI V4 mo 5 0, ?_, ?_, ?_, w1.fr k14 (by omega) (by omega), w2.fr k24 (by omega) (by omega), ?_, ?_, ?_⟩
  · unfold F_X4_begin
    have hsz : gI V (c + 1) 1 = cn C := hv.2.1.1.1
    refine E_bd p7_size (E_lt ?_)
    rw [hsz]
    exact E_bd e1 (E_bd e2 (E_bd e3 (E_bd e4 (E_lt rfl))))
  · exact ((k02.mono (fun i q => by omega)).trans (k3.mono (fun i q => by omega))).trans ((k4.mono (fun i q => by omega)).trans (k5.mono (fun i q => by omega)))
  · rw [gI_sI, if_neg (by rintro ⟨-, q⟩; cases q), k4.I (by omega), k3.I (by omega), k2.I (by omega), k1.I (by omega), gI_sI, if_pos ⟨rfl, rfl⟩]; rfl
  · refine vP.fr (V := V3) ⟨s3.trans hP.1, fun x y x1 x2 y1 y2 => ?_⟩ k34 (by omega) (by omega)
    rw [w3 _ (by omega) (by rw [hP.1]; omega)]
    exact hP.2 x y x1 x2 y1 y2
  · rw [gI_sI, if_pos ⟨rfl, rfl⟩]; exact ⟨by omega, by omega⟩
  · rw [gI_sI, if_pos ⟨rfl, rfl⟩]
    refine ⟨(w4.fr k5 (by omega) (by omega)).1, rfl, fun i hi => ?_⟩
    exact absurd hi (Nat.not_lt_zero _)

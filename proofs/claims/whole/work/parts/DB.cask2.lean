/-! a question asked (class), the whole of it -/
section
variable {G : mG} {V : mV} {x m n z N : Nat} {Y : mY} {p : Int}
theorem x8_ans {G : mG} {V : mV} {r : Nat} {t : mTl} {k : Nat} {a : Int} (ht : vTl V r t) (hb : tlB k t) (hk : k ≤ 100) (ha : 0 ≤ a ∧ a ≤ 5) : F_X8_answer G r (a + 24) V = some (V, tlA t a) := by
  obtain ⟨t0, t1, t2, t3, t4, t5, t6⟩ := ht
  obtain ⟨b0, b1, b2, b3, b4, b5, b6⟩ := hb
  unfold F_X8_answer tlA
  rw [t1, t2, t3, t4, t5, t6]
  refine E_gd ⟨by omega, by omega⟩ ?_
  have : a = 0 ∨ a = 1 ∨ a = 2 ∨ a = 3 ∨ a = 4 ∨ a = 5 := by omega
  rcases this with rfl | rfl | rfl | rfl | rfl | rfl
  · rw [if_pos (by decide), if_pos rfl]; exact E_gd ⟨by omega, by omega⟩ rfl
  · rw [if_neg (by decide), if_pos (by decide), if_neg (by decide), if_pos rfl]; exact E_gd ⟨by omega, by omega⟩ rfl
  · rw [if_neg (by decide), if_neg (by decide), if_pos (by decide), if_neg (by decide), if_neg (by decide), if_pos rfl]; exact E_gd ⟨by omega, by omega⟩ rfl
  · rw [if_neg (by decide), if_neg (by decide), if_neg (by decide), if_pos (by decide), if_neg (by decide), if_neg (by decide), if_neg (by decide), if_pos rfl]
  · rw [if_neg (by decide), if_neg (by decide), if_neg (by decide), if_neg (by decide), if_pos (by decide), if_neg (by decide), if_neg (by decide), if_neg (by decide), if_neg (by decide), if_pos rfl]; exact E_gd ⟨by omega, by omega⟩ rfl
  · rw [if_neg (by decide), if_neg (by decide), if_neg (by decide), if_neg (by decide), if_neg (by decide), if_pos (by decide), if_neg (by decide), if_neg (by decide), if_neg (by decide), if_neg (by decide), if_neg (by decide)]; exact E_gd ⟨by omega, by omega⟩ rfl
theorem c_answer (hG : is9 G x) (h7 : gR G (x + 9) 7 = x + 22) (hG10 : is10 G m) (hm : m = x + 327) (hn : m + 72 ≤ n) (h : okA N Y) (hv : vY G V x Y) (hp : 0 ≤ p ∧ p < cn (yZ Y).1) {y : Int × List Int} (hq : okQu (yT Y) (.inr y)) (vf : vF V (x + 22) y.2) (h10 : gI V (x + 9) 10 = y.1 + 24) :
    ∃ G' V', F_X9_answer x p (n, z, G, V) = some ((n + 1, z + a_nf 8, G', V'), tlA (askT (yZ Y).1 (yZ Y).2.1 p y.2 (askK (yZ Y).2.1)) y.1) ∧ is9 G' x ∧ is10 G' m ∧ (∀ i, m ≤ i → i < m + 72 → gI V' i = gI V i ∧ gA V' i = gA V i ∧ gJ V' i = gJ V i ∧ gL V' i = gL V i) ∧ vY G' V' x Y := by
  obtain ⟨qk, qc, qp, ql⟩ := hq
  have ho := h.1.1.1
  have hoM := h.1.1.2.1
  have hh := hoM.1
  have hcn := ho.1
  obtain ⟨c, ec⟩ : ∃ c, gR G x 10 = c := ⟨_, rfl⟩
  obtain ⟨G2, hG2⟩ : ∃ G2, G2 = zR (nw G n (.inl 8)) n := ⟨_, rfl⟩
  obtain ⟨V3, hV3⟩ : ∃ V3, V3 = z0 V n := ⟨_, rfl⟩
  have g2 : gb n G G2 := by rw [hG2]; exact gb_new
  obtain ⟨h92, e10, e11⟩ := is9_up hG h7 g2 (by omega) hv.2.1.1
  have h102 : is10 G2 m := is10_up hG10 g2 hn
  have c8 : G2.1 n = .inl 8 := by rw [hG2]; exact if_pos rfl
  have h8 : is8 G2 n := ⟨c8, trivial⟩
  have ec2 : gR G2 x 10 = c := e10.trans ec
  have lo3 : ∀ a, a ≠ n → gI V3 a = gI V a ∧ gJ V3 a = gJ V a ∧ gA V3 a = gA V a ∧ gL V3 a = gL V a := fun a ha => by rw [hV3]; exact z0_lo ha
  have hv3 : vY G2 V3 x Y := vY_up hv hm (fun a ha => lo3 a (by omega)) (g2.mono (by omega))
  obtain ⟨V6, hV6⟩ : ∃ V6, V6 = sI (sI V3 n 1 (-1)) n 2 (-1) := ⟨_, rfl⟩
  have k6 : fr (fun i => i = n) V3 V6 := by rw [hV6]; exact (fr_sI (S := fun i => i = n) rfl).trans (fr_sI rfl)
  have vt6 : vTl V6 n tl0 := by
    have z := z0_at (V := V) (n := n)
    rw [← hV3] at z
    have o : ∀ k, k ≠ 1 → k ≠ 2 → gI V6 n k = 0 := fun k h1 h2 => by rw [hV6, gI_sI, if_neg (by omega), gI_sI, if_neg (by omega)]; exact z.1 k
    refine ⟨o 0 (by decide) (by decide), ?_, ?_, o 3 (by decide) (by decide), by rw [k6.1]; exact z.2 4, o 5 (by decide) (by decide), o 6 (by decide) (by decide)⟩
    · rw [hV6, gI_sI, if_neg (by omega), gI_sI, if_pos ⟨rfl, rfl⟩]; rfl
    · rw [hV6, gI_sI, if_pos ⟨rfl, rfl⟩]; rfl
  have hv3' := hv3
  obtain ⟨⟨p1, p2, p3, p4, ⟨s0', p5⟩, p6, p7, p8⟩, -⟩ := hv3'
  rw [ec2] at p1 p2
  have vf3 : vF V3 (x + 22) y.2 := by
    obtain ⟨f1, f2, f3, f4⟩ := vf
    exact ⟨by rw [(lo3 _ (by omega)).1]; exact f1, f2, by rw [(lo3 _ (by omega)).2.2.1]; exact f3, by rw [(lo3 _ (by omega)).1]; exact f4⟩
  have nsk : ∀ i, isSk c i → i < x + 327 := fun i q => by unfold isSk at q; omega
  obtain ⟨V7, e7, k7, m7⟩ := m_copy (V := V6) (a := x + 227) (b := x + 236) (s9_8s h92) (s9_9s h92) (by omega) hcn (p3.fr k6 (fun i q0 q1 => by omega))
  obtain ⟨V8, e8, k8, s8, -⟩ := c_forget (V := V7) (cr := x + 27) (M := (yZ Y).2.1) (n := cn (yZ Y).1) (s9_5s h92) hcn.2 ⟨s0', (p5.fr k6 (fun i q0 q1 => by omega)).fr k7 (fun i q0 q1 => by omega)⟩
  have k38 : fr (fun i => i = n ∨ (x + 236 ≤ i ∧ i ≤ x + 244) ∨ (x + 32 ≤ i ∧ i ≤ x + 37)) V3 V8 := ((k6.mono (fun i q => by omega)).trans (k7.mono (fun i q => by omega))).trans (k8.mono (fun i q => by omega))
  have k68 : fr (fun i => (x + 236 ≤ i ∧ i ≤ x + 244) ∨ (x + 32 ≤ i ∧ i ≤ x + 37)) V6 V8 := (k7.mono (fun i q => by omega)).trans (k8.mono (fun i q => by omega))
  have vt8 : vTl V8 n tl0 := by
    obtain ⟨t0, t1, t2, t3, t4, t5, t6⟩ := vt6
    have o : gI V8 n = gI V6 n := by funext q; exact k68.I (by omega) q
    exact ⟨by rw [o]; exact t0, by rw [o]; exact t1, by rw [o]; exact t2, by rw [o]; exact t3, by rw [k68.1]; exact t4, by rw [o]; exact t5, by rw [o]; exact t6⟩
  have m8 : vM V8 (x + 236) (cn (yZ Y).1) (yZ Y).2.1 (240 * mh (yZ Y).2.1) := m7.fr k8 (fun i q0 q1 => by omega)
  obtain ⟨Zf, u, eL, U, rfl, fU, vcU, kcU, ⟨sU, ksU⟩, vtU⟩ := c_askL (V := V8) (n1 := n + 1) (z1 := z + a_nf 8) (B := 240 * mh (yZ Y).2.1) h92 h8 (by omega) ec2 ⟨by omega, by omega⟩ ho hoM hp qc qp (p2.fr k38 (fun i q0 q1 _ => by omega)) (p4.fr k38 (by omega) (by omega)) m8 (by omega) s8 (vf3.fr k38 (by omega) (by omega) (by omega)) vt8
  have kU : fr (fun i => i = n ∨ (x + 236 ≤ i ∧ i ≤ x + 244) ∨ (x + 32 ≤ i ∧ i ≤ x + 37) ∨ sAk x c n i) V3 (U.1, V3.2.1, U.2.2) := by
    have f1 : fr (sAk x c n) V8 (U.1, V8.2.1, U.2.2) := fU.to
    have f2 : fr (fun i => i = n ∨ (x + 236 ≤ i ∧ i ≤ x + 244) ∨ (x + 32 ≤ i ∧ i ≤ x + 37) ∨ sAk x c n i) V3 (U.1, V8.2.1, U.2.2) := (k38.mono (fun i q => by
      rcases q with q | q | q
      · exact Or.inl q
      · exact Or.inr (Or.inl q)
      · exact Or.inr (Or.inr (Or.inl q)))).trans (f1.mono (fun i q => Or.inr (Or.inr (Or.inr q))))
    exact ⟨rfl, f2.2.1, f2.2.2⟩
  have nS : ∀ i, i ≠ n → ¬ (x + 26 ≤ i ∧ i ≤ x + 37) → ¬ (x + 236 ≤ i ∧ i ≤ x + 244) → ¬ isSk c i → ¬ (i = n ∨ (x + 236 ≤ i ∧ i ≤ x + 244) ∨ (x + 32 ≤ i ∧ i ≤ x + 37) ∨ sAk x c n i) := by
    intro i a1 a2 a3 a4 q
    unfold sAk at q
    rcases q with q | q | q | q | q | q | q | q | q
    · exact a1 q
    · exact a3 q
    · omega
    · omega
    · omega
    · omega
    · exact a3 q
    · exact a4 q
    · exact a1 q
  have nk : ∀ i, i < x + 245 ∨ x + 327 ≤ i → ¬ isSk c i := fun i q w => by unfold isSk at w; omega
  have vYU : vY G2 U x Y := by
    refine vY_ofa hv3 rfl rfl rfl rfl ?_ (fun i hi => ?_) ?_
    · rw [fU.1 x (by omega), k38.1]; exact hv3.2.2.2.2.2.2.1
    · have hi' : ¬ (i = x + 6 ∨ (x + 26 ≤ i ∧ i ≤ x + 37) ∨ (x + 45 ≤ i ∧ i < x + 245) ∨ (c ≤ i ∧ i ≤ c + 40) ∨ x + 327 ≤ i) := by
        rw [← ec2]; exact hi
      exact kU.2.2 i (nS i (by omega) (by omega) (by omega) (fun w => by unfold isSk at w; omega))
    · refine ⟨by rw [ec2]; exact p1, by rw [ec2]; exact vcU, ?_, kcU, ⟨sU, ksU⟩, ?_, ?_, ?_⟩
      · exact p3.fr (V1 := (U.1, V3.2.1, U.2.2)) kU (fun i q0 q1 => nS i (by omega) (by omega) (by omega) (nk i (by omega)))
      · rw [show gI U (x + 30) 1 = gI V3 (x + 30) 1 from kU.I (i := x + 30) (fun w => by unfold sAk isSk at w; omega) 1]; exact p6
      · exact p7.fr (V1 := (U.1, V3.2.1, U.2.2)) kU (fun i q0 q1 => by
          refine nS i (by omega) (by omega) (by omega) (nk i (by omega)))
      · exact p8.fr (V1 := (U.1, V3.2.1, U.2.2)) kU (nS _ (by omega) (by omega) (by omega) (nk _ (by omega))) (nS _ (by omega) (by omega) (by omega) (nk _ (by omega)))
  refine ⟨G2, U, ?_, h92, h102, fun i h1 h2 => ?_, vYU⟩
  · have tb := askT_ok ho hoM hp qc (askK (yZ Y).2.1) (by unfold askK; omega)
    have h10U : gI U (x + 9) 10 = y.1 + 24 := by
      rw [show gI U (x + 9) 10 = gI V3 (x + 9) 10 from kU.I (i := x + 9) (nS _ (by omega) (by omega) (by omega) (nk _ (by omega))) 10, (lo3 _ (by omega)).1]; exact h10
    have j128 : F_X9_answer_J128 x n p (n + 1, z + a_nf 8, G2, U) = some ((n + 1, z + a_nf 8, G2, U), tlA (askT (yZ Y).1 (yZ Y).2.1 p y.2 (askK (yZ Y).2.1)) y.1) := by
      unfold F_X9_answer_J128
      refine E_gd ⟨h92, h8⟩ ?_
      show bd (F_X8_answer G2 n (gI U (x + 9) 10) U) _ = _
      rw [h10U]
      exact E_bd (x8_ans vtU tb (by unfold askK; omega) qk) rfl
    unfold F_X9_answer
    refine E_gd hG (E_lt (E_lt ?_))
    rw [← hG2, ← hV3]
    refine E_gd ⟨h92, c8⟩ (E_gd h8 (E_bd (V1 := V6) (v1 := 0) (by unfold F_X8_init; exact E_lt (E_lt (by rw [← hV6]))) (E_bd e7 (E_bd e8 (E_bd eL ?_)))))
    exact E_if (fun _ => E_gd ⟨h92, h8⟩ j128) (fun _ => E_gd ⟨h92, h8⟩ j128)
  · have w := kU.2.2 i (nS i (by omega) (by omega) (by omega) (nk i (by omega)))
    have w3 := lo3 i (by omega)
    refine ⟨w.1.trans w3.1, w.2.trans w3.2.2.1, ?_, ?_⟩
    · rw [fU.1 i (by omega), k38.1]; exact w3.2.1
    · rw [fU.2.1, k38.2.1]; exact w3.2.2.2
theorem c_ask (hG : is9 G x) (hG10 : is10 G m) (hm : m = x + 327) (hn : m + 72 ≤ n) (h : okA N Y) (hv : vY G V x Y) (hp : rg p) :
    ∃ n' z' G' V', F_X9_ask x p (n, z, G, V) = some ((n', z', G', V'), aAsk Y p) ∧ (n ≤ n' ∧ n' ≤ n + 1 ∧ z ≤ z' ∧ z' ≤ z + a_nf 8) ∧ is9 G' x ∧ is10 G' m ∧ (∀ i, m ≤ i → i < m + 72 → gI V' i = gI V i ∧ gA V' i = gA V i ∧ gJ V' i = gJ V i ∧ gL V' i = gL V i) ∧ vY G' V' x (yAsk Y p) := by
  have hT := h.1.2.2.1
  have hT1 := hT.1
  have ei := c_isP (G := G) h.1.1 hv.1 hp
  have cut : ∀ {U : mV}, gI U (x + 1) 1 = ((yT Y).2 : Int) → ∃ U', F_X7_cut G (x + 1) 0 U = some (U', 0) ∧ fr (fun i => i = x + 1) U U' ∧ rw' U' (x + 1) 0 (fun k => (yT Y).1 k.toNat) := by
    intro U hU
    exact rw_cut0 (s9_0s hG) (rw_rz (n := ((yT Y).2 : Int)) (s9_0c hG) hU ⟨by omega, by omega⟩)
  unfold aAsk
  by_cases c : 0 ≤ p ∧ p < cn (yZ Y).1
  rotate_left
  · rw [if_neg c] at ei
    rw [if_neg c]
    obtain ⟨V8, e8, k8, t8⟩ := cut hv.2.2.1.1
    refine ⟨n, z, G, V8, ?_, ⟨Nat.le_refl _, by omega, Nat.le_refl _, by omega⟩, hG, hG10, fun i h1 h2 => ?_, ?_⟩
    · have j21 : F_X9_ask_J21 x p 0 (n, z, G, V) = some ((n, z, G, V8), -1000000000000000) := by
        unfold F_X9_ask_J21
        exact E_gd hG (E_bd e8 (E_gd (⟨by decide, by decide⟩ : rg (0 : Int)) (E_if (fun _ => rfl) (fun q => absurd rfl q))))
      unfold F_X9_ask
      exact E_gd hG (E_bd ei (E_gd (⟨by decide, by decide⟩ : rg (0 : Int)) (E_if (fun _ => j21) (fun q => absurd rfl q))))
    · obtain ⟨w1, w2⟩ := k8.2.2 i (by omega)
      exact ⟨w1, w2, by rw [k8.1], by rw [k8.2.1]⟩
    · unfold yAsk
      rw [if_neg c]
      exact vY_tp hv (k8.mono (fun i q => Or.inl q)) t8
  rw [if_pos c] at ei
  rw [if_pos c]
  obtain ⟨c0, e0⟩ : ∃ c0, gR G x 10 = c0 := ⟨_, rfl⟩
  obtain ⟨c1, e1⟩ : ∃ c1, gR G x 11 = c1 := ⟨_, rfl⟩
  have b := hv.2.1.1
  rw [e0, e1] at b
  have hc0 : is1 G c0 := by rw [← e0]; exact s9_10s hG
  have hc1 : is1 G c1 := by rw [← e1]; exact s9_11s hG
  have r10 : G.2.1 x 10 = .ref c0 := by rw [← e0]; exact s9_10r hG
  have r11 : G.2.1 x 11 = .ref c1 := by rw [← e1]; exact s9_11r hG
  have hvx : vTx V (x + 1) (yT Y) := ⟨hv.2.2.1.1, hT.1, fun j hj => by have := hv.2.2.1.2 (j : Int) (by omega) (by omega); exact this, hT.2⟩
  obtain ⟨V1, g1, k1, a1, b1, d1, -⟩ := p6_start (s9_4s hG) (s9_0s hG) (s9_0c hG) (by omega) hvx hv.2.2.2.2.2.2.2.2.1 hv.2.2.2.2.2.2.2.2.2.1
  obtain ⟨V2, g2, k2, t2⟩ := cut (U := V1) (by rw [k1.I (by omega)]; exact hv.2.2.1.1)
  have b2 : gI V2 (x + 9) 11 = 0 := by rw [k2.I (by omega)]; exact b1
  have d2 : gI V2 (x + 9) 12 = -1 := by rw [k2.I (by omega)]; exact d1
  have s2 : rs6 V2 (x + 9) (yT Y) (.inr (bsk (yT Y) 0)) := by
    obtain ⟨cnt, i, w1, w2, w3, w4, w5, w6⟩ := a1
    exact ⟨⟨cnt, i, w1.fr k2 (fun j q0 q1 => by omega), w2, w3, by rw [k2.I (by omega)]; exact w4, w5, w6⟩, b2⟩
  have k12 : fr (fun i => (x + 9 ≤ i ∧ i ≤ x + 19) ∨ i = x + 1) V V2 := (k1.mono (fun i q => by omega)).trans (k2.mono (fun i q => by omega))
  have j3 := hv.2.2.2.2.2.2.2.2.2.2.1
  have j4 := hv.2.2.2.2.2.2.2.2.2.2.2
  have rz2 : rz G V2 (x + 9 + 14) := by
    unfold rz at j3 ⊢
    rw [k12.I (by omega)]; exact j3
  obtain ⟨G3, V3, g3, hG3, h63, k3, O3⟩ := c_quest (n := n) (z := z) (s9_4s hG) hT rz2 (by rw [k12.I (by omega)]; exact j4) s2
  have E3 : gE (x + 9) (x + 10) G G3 := by rw [hG3]; exact gE_7
  have I3 : Ik (x + 9) 11 V3 := pk_F_X6_readQuestion (hW := show Ik (x + 9) 11 (n, z, G, V2).2.2.2 from fun _ => d2) _ _ g3
  have q10 : G3.2.1 x 10 = .ref c0 := by rw [E3.2.2 x 10 (fun q => by omega) (fun q => by omega)]; exact r10
  have q11 : G3.2.1 x 11 = .ref c1 := by rw [E3.2.2 x 11 (fun q => by omega) (fun q => by omega)]; exact r11
  have f0 : gR G3 x 10 = c0 := by unfold gR; rw [q10]
  have f1 : gR G3 x 11 = c1 := by unfold gR; rw [q11]
  have hc03 : is1 G3 c0 := E3.k1 hc0 (by omega) (by omega)
  have hc13 : is1 G3 c1 := E3.k1 hc1 (by omega) (by omega)
  have hG93 : is9 G3 x := E3.k9 hG h63 q10 hc03 q11 hc13
  have hG103 : is10 G3 m := E3.k10 hG10 (by omega) (by omega)
  have h73 : gR G3 (x + 9) 7 = x + 22 := by rw [hG3]; exact gR_7
  have K : fr (sCq x) V (V3.1, V.2.1, V3.2.2) := by
    have kk : fr (sCq x) V V2 := k12.mono (fun i q => by unfold sCq; omega)
    have k3' : frj (x + 9) (sCq x) V2 V3 := k3.mono (fun i q => by unfold sCq; omega)
    have k4 := k3'.to
    refine ⟨rfl, k4.2.1.trans kk.2.1, fun i hi => ⟨(k4.2.2 i hi).1.trans (kk.2.2 i hi).1, (k4.2.2 i hi).2.trans (kk.2.2 i hi).2⟩⟩
  have J3 : ∀ i k, ¬ (i = x + 9 ∧ k = 8) → gJ V3 i k = gJ V i k := fun i k q => by rw [k3.1 i k q, k2.1, k1.1]
  have hi3 : ∀ i, m ≤ i → gI V3 i = gI V i ∧ gA V3 i = gA V i ∧ gJ V3 i = gJ V i ∧ gL V3 i = gL V i := by
    intro i hi
    obtain ⟨y1, y2⟩ := K.2.2 i (by unfold sCq; omega)
    exact ⟨y1, y2, by funext k; exact J3 i k (by omega), congrFun K.2.1 i⟩
  have t3 : rw' V3 (x + 1) 0 (fun k => (yT Y).1 k.toNat) := t2.fr (V1 := (V3.1, V2.2.1, V3.2.2)) k3.to (by omega) (by omega)
  have z1 : zC G3 V3 c1 := by
    have := hv.2.1.2
    rw [e1] at this
    have z0 : zC G V3 c1 := this.fr (fun i q0 q1 => (K.2.2 i (by unfold sCq; omega)).1)
    have rzq : ∀ {r : Nat}, rz G V3 r → rz G3 V3 r := fun h => by unfold rz at h ⊢; rw [E3.q]; exact h
    obtain ⟨⟨a1, a2, a3, a4, a5, a6, a7, a8, a9⟩, ⟨b1, b2, b3, b4⟩, d1, d2, d3, d4⟩ := z0
    exact ⟨⟨rzq a1, rzq a2, rzq a3, rzq a4, rzq a5, rzq a6, rzq a7, rzq a8, rzq a9⟩, ⟨rzq b1, rzq b2, rzq b3, rzq b4⟩, d1, d2, d3, d4⟩
  have v3 : ∀ {F : Int × Int}, zRd G3 V3 (x + 9) → rz G3 V3 (x + 23) → (gI V3 (x + 9) 11 = F.1 ∧ gI V3 (x + 9) 12 = F.2) → vY G3 V3 x (yZ Y, ((yT Y).1, 0), F, yI Y, yS Y, yE Y) := by
    intro F hr h23 hF
    exact vY_J (vY_cq (U := (V3.1, V.2.1, V3.2.2)) hv e0 e1 f0 f1 E3.q K z1 hr t3 h23 hF) (J3 x 13 (by omega))
  have top : ∀ {R : Option (mW × Int)}, (gd (rg (gI V3 (x + 9) 11)) <|
  if (gI V3 (x + 9) 11) = 0 then (bd (F_X9_answer x p (n, z, G3, V3)) fun W19 v20 =>
  gd (is9 W19.2.2.1 x) <|
  some ((W19.1, W19.2.1, W19.2.2.1, W19.2.2.2), v20)) else (some ((n, z, G3, V3), (-1000000000000000)))) = R → F_X9_ask x p (n, z, G, V) = R := by
    intro R hR
    have j21 : F_X9_ask_J21 x p 1 (n, z, G, V1) = R := by
      unfold F_X9_ask_J21
      exact E_gd hG (E_bd g2 (E_gd (⟨by decide, by decide⟩ : rg (1 : Int)) (E_if (fun q => absurd q (by decide)) (fun _ => E_bd g3 (E_gd hG93 hR)))))
    unfold F_X9_ask
    exact E_gd hG (E_bd ei (E_gd (⟨by decide, by decide⟩ : rg (1 : Int)) (E_if (fun q => absurd q (by decide)) (fun _ => E_bd g1 j21))))
  have okq := aQu_ok hT
  unfold yAsk
  rw [if_pos c]
  cases hA : aQu (yT Y) with
  | inl e =>
    rw [hA] at O3
    obtain ⟨s3, zz⟩ := O3
    have s3' := s3
    obtain ⟨⟨pp, hpp⟩, w1, w2, w3, w4⟩ := s3'
    exact ⟨n, z, G3, V3, top (E_gd (by rw [w1]; exact w3) (E_if (fun q => absurd (w1 ▸ q) w4) (fun _ => rfl))), ⟨Nat.le_refl _, by omega, Nat.le_refl _, by omega⟩, hG93, hG103, fun i h1 h2 => hi3 i h1, v3 (cA_z h63 hpp) zz ⟨w1, w2⟩⟩
  | inr y =>
    rw [hA] at O3 okq
    obtain ⟨w1, ⟨pp, hpp⟩, vf, w10⟩ := O3
    have w2 : gI V3 (x + 9) 12 = -1 := I3 w1
    have z23 : rz G3 V3 (x + 23) := rw_rz (s3_0c (s6_9s h63)) vf.1 ⟨by omega, by have := vf.2.1; omega⟩
    have hv3 := v3 (F := (0, -1)) (cA_z h63 hpp) z23 ⟨w1, w2⟩
    have hA3 : okA N (yZ Y, ((yT Y).1, 0), (0, -1), yI Y, yS Y, yE Y) := by
      obtain ⟨⟨a1, a2, a3, a4, a5, a6, a7⟩, b, c, d⟩ := h
      exact ⟨⟨a1, a2, ⟨Nat.zero_le _, fun j hj => by have hj' : j < 0 := hj; omega⟩, ⟨(⟨by decide, by decide⟩ : rg 0), (⟨by decide, by decide⟩ : rg (-1))⟩, a5, a6, a7⟩, b, c, d⟩
    obtain ⟨G4, V4, e4, h94, h104, k4, v4⟩ := c_answer (n := n) (z := z) (N := N) hG93 h73 hG103 hm hn hA3 hv3 c okq vf w10
    refine ⟨n + 1, z + a_nf 8, G4, V4, top (E_gd (by rw [w1]; exact (⟨by decide, by decide⟩ : rg 0)) (E_if (fun _ => E_bd e4 (E_gd h94 rfl)) (fun q => absurd w1 q))), ⟨by omega, Nat.le_refl _, by omega, Nat.le_refl _⟩, h94, h104, fun i h1 h2 => ?_, v4⟩
    obtain ⟨y1, y2, y3, y4⟩ := k4 i h1 h2
    obtain ⟨u1, u2, u3, u4⟩ := hi3 i h1
    exact ⟨y1.trans u1, y2.trans u2, y3.trans u3, y4.trans u4⟩
end

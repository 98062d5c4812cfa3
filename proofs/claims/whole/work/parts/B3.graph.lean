/-! where references may change: the reader's place to write, the city and its spare -/
def gE (r x : Nat) (G G' : mG) : Prop := G'.1 = G.1 ∧ G'.2.2 = G.2.2 ∧ ∀ i j, ¬ (i = r ∧ j = 7) → ¬ (i = x ∧ (j = 10 ∨ j = 11)) → G'.2.1 i j = G.2.1 i j
theorem gE_refl {r x : Nat} {G : mG} : gE r x G G := ⟨rfl, rfl, fun _ _ _ _ => rfl⟩
theorem gE.trans {r x : Nat} {G G1 G2 : mG} (h : gE r x G G1) (k : gE r x G1 G2) : gE r x G G2 := ⟨k.1.trans h.1, k.2.1.trans h.2.1, fun i j a b => (k.2.2 i j a b).trans (h.2.2 i j a b)⟩
theorem gE_7 {r x : Nat} {G : mG} {v : Value} : gE r x G (sR G r 7 v) := ⟨rfl, rfl, fun i j a _ => by
  show u2 G.2.1 r 7 v i j = _
  unfold u2; rw [if_neg a]⟩
section
variable {r x : Nat} {G G' : mG} {i c m : Nat}
theorem gE.q (h : gE r x G G') (a : Nat) : qG G' a = qG G a := by unfold qG; rw [h.1]
theorem gE.lo (h : gE r x G G') (i j : Nat) (hj : j ≤ 6) : G'.2.1 i j = G.2.1 i j := h.2.2 i j (by omega) (by omega)
theorem gE.k7 (h : gE r x G G') (k : is7 G i) : is7 G' i := by
  unfold is7 at k ⊢
  rw [h.1, h.lo i 0 (by decide), h.q]; exact k
theorem gE.k3 (h : gE r x G G') (k : is3 G i) : is3 G' i := by
  obtain ⟨a, b, c, d, e, f, g⟩ := k
  exact ⟨by rw [h.1]; exact a, by rw [h.lo i 0 (by decide)]; exact b, h.k7 c, by rw [h.q]; exact d, by rw [h.lo i 1 (by decide)]; exact e, h.k7 f, by rw [h.q]; exact g⟩
theorem gE.k1 (h : gE r x G G') (k : is1 G c) (hr : c ≠ r) (hx : c ≠ x) : is1 G' c := by
  have o : ∀ j, G'.2.1 c j = G.2.1 c j := fun j => h.2.2 c j (fun q => hr q.1) (fun q => hx q.1)
  obtain ⟨a, a0, b0, c0, a1, b1, c1, a2, b2, c2, a3, b3, c3, a4, b4, c4, a5, b5, c5, a6, b6, c6, a7, b7, c7, a8, b8, c8, a9, b9, c9, d0, e0, d1, e1, d2, e2, d3, e3⟩ := k
  exact ⟨by rw [h.1]; exact a, (o _).trans a0, h.k7 b0, (h.q _).trans c0, (o _).trans a1, h.k7 b1, (h.q _).trans c1, (o _).trans a2, h.k7 b2, (h.q _).trans c2, (o _).trans a3, h.k7 b3, (h.q _).trans c3, (o _).trans a4, h.k7 b4, (h.q _).trans c4, (o _).trans a5, h.k7 b5, (h.q _).trans c5, (o _).trans a6, h.k7 b6, (h.q _).trans c6, (o _).trans a7, h.k7 b7, (h.q _).trans c7, (o _).trans a8, h.k7 b8, (h.q _).trans c8, (o _).trans a9, h.k7 b9, (h.q _).trans c9, (o _).trans d0, h.k3 e0, (o _).trans d1, h.k3 e1, (o _).trans d2, h.k3 e2, (o _).trans d3, h.k3 e3⟩
theorem gR_7 {f : Nat} : gR (sR G r 7 (.ref f)) r 7 = f := by
  show (match (u2 G.2.1 r 7 (.ref f)) r 7 with | .ref i => i | _ => 0) = f
  unfold u2
  rw [if_pos ⟨rfl, rfl⟩]
theorem gE.k6 (h : gE r x G G') (k : is6 G i) (hx : i ≠ x) {f : Nat} (h7 : G'.2.1 i 7 = .ref f) (hf : is3 G f) : is6 G' i := by
  have o : ∀ j, j ≠ 7 → G'.2.1 i j = G.2.1 i j := fun j hj => h.2.2 i j (fun q => hj q.2) (fun q => hx q.1)
  obtain ⟨a, a0, b0, c0, a1, b1, c1, a2, b2, c2, a3, b3, c3, a4, b4, c4, a5, b5, c5, d0, e0, d1, e1⟩ := k
  have e7 : gR G' i 7 = f := by unfold gR; rw [h7]
  exact ⟨by rw [h.1]; exact a, (o _ (by decide)).trans a0, h.k7 b0, (h.q _).trans c0, (o _ (by decide)).trans a1, h.k7 b1, (h.q _).trans c1, (o _ (by decide)).trans a2, h.k7 b2, (h.q _).trans c2, (o _ (by decide)).trans a3, h.k7 b3, (h.q _).trans c3, (o _ (by decide)).trans a4, h.k7 b4, (h.q _).trans c4, (o _ (by decide)).trans a5, h.k7 b5, (h.q _).trans c5, by rw [e7]; exact h7, by rw [e7]; exact h.k3 hf, (o _ (by decide)).trans d1, h.k3 e1⟩
theorem is1_ne6 (k : is1 G c) (k6 : is6 G r) : c ≠ r := by
  intro e
  subst e
  have a := k.1
  rw [k6.1] at a
  cases a
theorem is6_7 (k6 : is6 G r) {f : Nat} (hf : is3 G f) (hx : r ≠ x) : is6 (sR G r 7 (.ref f)) r := by
  refine gE.k6 (x := x) gE_7 k6 hx (f := f) ?_ hf
  show u2 G.2.1 r 7 (.ref f) r 7 = _
  unfold u2
  rw [if_pos ⟨rfl, rfl⟩]
theorem is1_7 (k : is1 G c) (k6 : is6 G r) {v : Value} : is1 (sR G r 7 v) c := (gE_7 (x := r)).k1 k (is1_ne6 k k6) (is1_ne6 k k6)
end
/-- a frame that lets the reader's list of what may be asked change -/
def frj (r : Nat) (S : Nat → Prop) (V V' : mV) : Prop := (∀ i k, ¬ (i = r ∧ k = 8) → gJ V' i k = gJ V i k) ∧ gL V' = gL V ∧ ∀ i, ¬ S i → gI V' i = gI V i ∧ gA V' i = gA V i
theorem fr.j {r : Nat} {S : Nat → Prop} {V V' : mV} (h : fr S V V') : frj r S V V' := ⟨fun _ _ _ => by rw [h.1], h.2.1, h.2.2⟩
theorem frj_refl {r : Nat} {S : Nat → Prop} {V : mV} : frj r S V V := ⟨fun _ _ _ => rfl, rfl, fun _ _ => ⟨rfl, rfl⟩⟩
theorem frj_sJ {r : Nat} {S : Nat → Prop} {V : mV} {v : Int} : frj r S V (sJ V r 8 v) := ⟨fun i k h => by
  show u2 (gJ V) r 8 v i k = _
  unfold u2; rw [if_neg h], rfl, fun _ _ => ⟨rfl, rfl⟩⟩
theorem frj.trans {r : Nat} {S : Nat → Prop} {V V1 V2 : mV} (h : frj r S V V1) (k : frj r S V1 V2) : frj r S V V2 := ⟨fun i j q => (k.1 i j q).trans (h.1 i j q), k.2.1.trans h.2.1, fun i hi => ⟨((k.2.2 i hi).1).trans (h.2.2 i hi).1, ((k.2.2 i hi).2).trans (h.2.2 i hi).2⟩⟩
theorem frj.mono {r : Nat} {S S' : Nat → Prop} {V V1 : mV} (h : frj r S V V1) (k : ∀ i, S i → S' i) : frj r S' V V1 := ⟨h.1, h.2.1, fun i hi => h.2.2 i (fun q => hi (k i q))⟩
/-- a city in any state: its rows within bounds -/
def zC (G : mG) (V : mV) (c : Nat) : Prop := (rz G V (c + 1) ∧ rz G V (c + 3) ∧ rz G V (c + 5) ∧ rz G V (c + 7) ∧ rz G V (c + 11) ∧ rz G V (c + 13) ∧ rz G V (c + 15) ∧ rz G V (c + 17) ∧ rz G V (c + 19)) ∧ (rz G V (c + 22) ∧ rz G V (c + 27) ∧ rz G V (c + 32) ∧ rz G V (c + 37)) ∧ (gI V (c + 24) 1 = 64 ∧ gI V (c + 29) 1 = 64 ∧ gI V (c + 34) 1 = 64 ∧ gI V (c + 39) 1 = 64)
section
variable {G G' : mG} {V V' : mV} {c r x : Nat} {C : mCy} {S : Nat → Prop}
theorem zC.fr (h : zC G V c) (k : ∀ i, c ≤ i → i ≤ c + 40 → gI V' i = gI V i) : zC G V' c := by
  obtain ⟨⟨a1, a2, a3, a4, a5, a6, a7, a8, a9⟩, ⟨b1, b2, b3, b4⟩, d1, d2, d3, d4⟩ := h
  unfold rz at a1 a2 a3 a4 a5 a6 a7 a8 a9 b1 b2 b3 b4
  unfold zC rz
  rw [k (c + 1) (by omega) (by omega), k (c + 3) (by omega) (by omega), k (c + 5) (by omega) (by omega), k (c + 7) (by omega) (by omega), k (c + 11) (by omega) (by omega), k (c + 13) (by omega) (by omega), k (c + 15) (by omega) (by omega), k (c + 17) (by omega) (by omega), k (c + 19) (by omega) (by omega), k (c + 22) (by omega) (by omega), k (c + 27) (by omega) (by omega), k (c + 32) (by omega) (by omega), k (c + 37) (by omega) (by omega), k (c + 24) (by omega) (by omega), k (c + 29) (by omega) (by omega), k (c + 34) (by omega) (by omega), k (c + 39) (by omega) (by omega)]
  exact ⟨⟨a1, a2, a3, a4, a5, a6, a7, a8, a9⟩, ⟨b1, b2, b3, b4⟩, d1, d2, d3, d4⟩
theorem zC.g (h : zC G V c) (k : gE r x G G') : zC G' V c := by
  unfold zC rz at h ⊢
  rw [k.q, k.q, k.q, k.q, k.q, k.q, k.q, k.q, k.q, k.q, k.q, k.q, k.q]
  exact h
theorem bC.z (hc : is1 G c) (h : bC V c C) : zC G V c := by
  obtain ⟨ho, -, ⟨⟨f1, f2, f3, f4⟩, ⟨n1, n2, n3, n4, n5⟩, hT, hD, hU⟩, hz⟩ := h
  have hn := ho.1
  have ht := ho.2.1
  have hl := Nat.le_trans (srt_len (cn C).toNat (cd C)) ho.2.2.1.1
  exact ⟨⟨rw_rz (s1_0c hc) n1.1 hn, rw_rz (s1_1c hc) n2.1 hn, rw_rz (s1_2c hc) n3.1 hn, rw_rz (s1_3c hc) n4.1 hn, rw_rz (s1_5c hc) hT.1.1 ht, rw_rz (s1_6c hc) hT.2.1 ht, rw_rz (s1_7c hc) hD.1.1 ⟨by omega, by omega⟩, rw_rz (s1_8c hc) hD.2.1.1 ⟨by omega, by omega⟩, rw_rz (s1_9c hc) hD.2.2.1 ⟨by omega, by omega⟩⟩,
    ⟨rw_rz (s3_0c (s1_10s hc)) f1.1 ⟨by omega, by have := f1.2.1; omega⟩, rw_rz (s3_0c (s1_11s hc)) f2.1 ⟨by omega, by have := f2.2.1; omega⟩, rw_rz (s3_0c (s1_12s hc)) f3.1 ⟨by omega, by have := f3.2.1; omega⟩, rw_rz (s3_0c (s1_13s hc)) f4.1 ⟨by omega, by have := f4.2.1; omega⟩⟩, f1.2.2.2, f2.2.2.2, f3.2.2.2, f4.2.2.2⟩
def C00 : mCy := ((0, 0, 0), (fun _ => 0, fun _ => 0, fun _ => 0, fun _ => 0), (fun _ _ => 0), [], (fun _ => []), (fun _ => []), (fun _ => []))
theorem okC_00 : okC C00 := by
  refine ⟨⟨Int.le_refl _, by decide⟩, ⟨Int.le_refl _, by decide⟩, ⟨Nat.zero_le _, fun d hd => by cases hd⟩, fun p a b => ?_, fun p a b => ?_, fun p a b => ?_, fun a b x0 x1 _ _ => ?_, fun a b x0 x1 _ _ => ?_, fun a x0 x1 => ?_, Or.inl rfl, Or.inl rfl, Or.inl rfl, Or.inl rfl⟩
  · have : p < 0 := b; omega
  · have : p < 0 := b; omega
  · have : p < 0 := b; omega
  · have : a < 0 := x1; omega
  · have : a < 0 := x1; omega
  · have : a < 0 := x1; omega
theorem rw_cutA {row : Nat} {f : Int → Int} (hr : is7 G row) (hz : rz G V row) : ∃ V', F_X7_cut G row 0 V = some (V', 0) ∧ fr (fun i => i = row) V V' ∧ rw' V' row 0 f := by
  refine ⟨rcut V row 0, p7_cut hr hz (by decide), fr_rcut rfl, ?_, fun j a b => by omega⟩
  unfold rcut
  by_cases c : (0 : Int) ≤ 0 ∧ 0 < gI V row 1
  · rw [if_pos c, gI_sI, if_pos ⟨rfl, rfl⟩]
  · rw [if_neg c]; have := hz.1; omega
theorem c_clear (hc : is1 G c) (h : zC G V c) : ∃ V', F_X1_clear G c V = some (V', 0) ∧ fr (fun i => c ≤ i ∧ i ≤ c + 37) V V' ∧ bC V' c C00 := by
  obtain ⟨⟨a1, a2, a3, a4, a5, a6, a7, a8, a9⟩, ⟨b1, b2, b3, b4⟩, d1, d2, d3, d4⟩ := h
  obtain ⟨V1, e1, k1, w1⟩ := rw_cutA (f := fun p => nm5 (cp C00 p)) (s1_0s hc) a1
  obtain ⟨V2, e2, k2, w2⟩ := rw_cutA (f := cw C00) (s1_1s hc) (a2.fr k1 (by omega))
  have k2' : fr (fun i => c + 1 ≤ i ∧ i ≤ c + 3) V V2 := (k1.mono (fun i q => by omega)).trans (k2.mono (fun i q => by omega))
  obtain ⟨V3, e3, k3, w3⟩ := rw_cutA (f := cc C00) (s1_2s hc) (a3.fr k2' (by omega))
  have k3' : fr (fun i => c + 1 ≤ i ∧ i ≤ c + 5) V V3 := (k2'.mono (fun i q => by omega)).trans (k3.mono (fun i q => by omega))
  obtain ⟨V4, e4, k4, w4⟩ := rw_cutA (f := cb C00) (s1_3s hc) (a4.fr k3' (by omega))
  have k4' : fr (fun i => c + 1 ≤ i ∧ i ≤ c + 7) V V4 := (k3'.mono (fun i q => by omega)).trans (k4.mono (fun i q => by omega))
  have e5 := p7_fill (V := V4) (k := 100) (v := 0) (s1_4s hc) (by decide)
  have k5 : fr (fun i => i = c + 9 ∨ i = c + 10) V4 (rfill V4 (c + 9) (qG G (c + 9 + 1)) 100 0) := fr_rfill (Or.inr rfl) (Or.inl rfl)
  obtain ⟨V5, hV5⟩ : ∃ U, U = rfill V4 (c + 9) (qG G (c + 9 + 1)) 100 0 := ⟨_, rfl⟩
  have c5 : gI V5 (c + 9) 1 = 100 ∧ ∀ k : Int, 0 ≤ k → k < 100 → rc V5 (c + 9) k = 0 := by
    rw [hV5, s1_4c hc]
    unfold rfill
    refine ⟨?_, fun k p0 p1 => ?_⟩
    · show gI (sF _ _ _) (c + 9) 1 = 100
      show gI (sI V4 (c + 9) 1 _) (c + 9) 1 = 100
      rw [gI_sI, if_pos ⟨rfl, rfl⟩]
      decide
    · unfold rset rc
      rw [gA_sF, if_pos rfl]
      simp only []
      rw [if_pos (by omega)]
  rw [← hV5] at e5 k5
  have k5' : fr (fun i => c + 1 ≤ i ∧ i ≤ c + 10) V V5 := (k4'.mono (fun i q => by omega)).trans (k5.mono (fun i q => by omega))
  obtain ⟨V6, e6, k6, w6⟩ := rw_cutA (f := fun p => nm5 (cq C00 p)) (s1_5s hc) (a5.fr k5' (by omega))
  have k6' : fr (fun i => c + 1 ≤ i ∧ i ≤ c + 11) V V6 := (k5'.mono (fun i q => by omega)).trans (k6.mono (fun i q => by omega))
  obtain ⟨V7, e7, k7, w7⟩ := rw_cutA (f := ch C00) (s1_6s hc) (a6.fr k6' (by omega))
  have k7' : fr (fun i => c + 1 ≤ i ∧ i ≤ c + 13) V V7 := (k6'.mono (fun i q => by omega)).trans (k7.mono (fun i q => by omega))
  obtain ⟨V8, e8, k8, w8⟩ := rw_cutA (f := fun k => (([] : List (Int × Int × Int)).getD k.toNat d0).1) (s1_7s hc) (a7.fr k7' (by omega))
  have k8' : fr (fun i => c + 1 ≤ i ∧ i ≤ c + 15) V V8 := (k7'.mono (fun i q => by omega)).trans (k8.mono (fun i q => by omega))
  obtain ⟨V9, e9, k9, w9⟩ := rw_cutA (f := fun k => (([] : List (Int × Int × Int)).getD k.toNat d0).2.1) (s1_8s hc) (a8.fr k8' (by omega))
  have k9' : fr (fun i => c + 1 ≤ i ∧ i ≤ c + 17) V V9 := (k8'.mono (fun i q => by omega)).trans (k9.mono (fun i q => by omega))
  obtain ⟨V10, e10, k10, w10⟩ := rw_cutA (f := fun k => (([] : List (Int × Int × Int)).getD k.toNat d0).2.2) (s1_9s hc) (a9.fr k9' (by omega))
  have k10' : fr (fun i => c + 1 ≤ i ∧ i ≤ c + 19) V V10 := (k9'.mono (fun i q => by omega)).trans (k10.mono (fun i q => by omega))
  obtain ⟨V11, e11, k11, w11⟩ := rw_cutA (f := fun _ => 0) (s3_0s (s1_10s hc)) (b1.fr k10' (by omega))
  have k11' : fr (fun i => c + 1 ≤ i ∧ i ≤ c + 22) V V11 := (k10'.mono (fun i q => by omega)).trans (k11.mono (fun i q => by omega))
  obtain ⟨V12, e12, k12, w12⟩ := rw_cutA (f := fun _ => 0) (s3_0s (s1_11s hc)) (b2.fr k11' (by omega))
  have k12' : fr (fun i => c + 1 ≤ i ∧ i ≤ c + 37 ∧ i ≠ c + 24 ∧ i ≠ c + 29 ∧ i ≠ c + 34) V V12 := (k11'.mono (fun i q => by omega)).trans (k12.mono (fun i q => by omega))
  obtain ⟨V13, e13, k13, w13⟩ := rw_cutA (f := fun _ => 0) (s3_0s (s1_12s hc)) ((b3.fr k11' (by omega)).fr k12 (by omega))
  have k13' : fr (fun i => c + 1 ≤ i ∧ i ≤ c + 37 ∧ i ≠ c + 24 ∧ i ≠ c + 29 ∧ i ≠ c + 34) V V13 := (k12'.mono (fun i q => by omega)).trans (k13.mono (fun i q => by omega))
  obtain ⟨V14, e14, k14, w14⟩ := rw_cutA (f := fun _ => 0) (s3_0s (s1_13s hc)) (((b4.fr k11' (by omega)).fr k12 (by omega)).fr k13 (by omega))
  have k14' : fr (fun i => c + 1 ≤ i ∧ i ≤ c + 37 ∧ i ≠ c + 24 ∧ i ≠ c + 29 ∧ i ≠ c + 34) V V14 := (k13'.mono (fun i q => by omega)).trans (k14.mono (fun i q => by omega))
  have k15 : fr (fun i => i = c) V14 (sI V14 c 14 0) := fr_sI rfl
  have kk : fr (fun i => c ≤ i ∧ i ≤ c + 37 ∧ i ≠ c + 24 ∧ i ≠ c + 29 ∧ i ≠ c + 34) V (sI V14 c 14 0) := (k14'.mono (fun i q => by omega)).trans (k15.mono (fun i q => by omega))
  have t14 : fr (fun i => c + 36 ≤ i) V14 (sI V14 c 14 0) ∨ True := Or.inr trivial
  have z14 : fr (fun i => i = c ∨ i = c + 37) V13 (sI V14 c 14 0) := (k14.mono (fun i q => Or.inr q)).trans (k15.mono (fun i q => Or.inl q))
  have z13 : fr (fun i => i = c ∨ i = c + 37 ∨ i = c + 32) V12 (sI V14 c 14 0) := (k13.mono (fun i q => by omega)).trans (z14.mono (fun i q => by omega))
  have z12 : fr (fun i => i = c ∨ c + 27 ≤ i) V11 (sI V14 c 14 0) := (k12.mono (fun i q => by omega)).trans (z13.mono (fun i q => by omega))
  have z11 : fr (fun i => i = c ∨ c + 22 ≤ i) V10 (sI V14 c 14 0) := (k11.mono (fun i q => by omega)).trans (z12.mono (fun i q => by omega))
  have z10 : fr (fun i => i = c ∨ c + 19 ≤ i) V9 (sI V14 c 14 0) := (k10.mono (fun i q => by omega)).trans (z11.mono (fun i q => by omega))
  have z9 : fr (fun i => i = c ∨ c + 17 ≤ i) V8 (sI V14 c 14 0) := (k9.mono (fun i q => by omega)).trans (z10.mono (fun i q => by omega))
  have z8 : fr (fun i => i = c ∨ c + 15 ≤ i) V7 (sI V14 c 14 0) := (k8.mono (fun i q => by omega)).trans (z9.mono (fun i q => by omega))
  have z7 : fr (fun i => i = c ∨ c + 13 ≤ i) V6 (sI V14 c 14 0) := (k7.mono (fun i q => by omega)).trans (z8.mono (fun i q => by omega))
  have z6 : fr (fun i => i = c ∨ c + 11 ≤ i) V5 (sI V14 c 14 0) := (k6.mono (fun i q => by omega)).trans (z7.mono (fun i q => by omega))
  have z5 : fr (fun i => i = c ∨ c + 9 ≤ i) V4 (sI V14 c 14 0) := (k5.mono (fun i q => by omega)).trans (z6.mono (fun i q => by omega))
  have z4 : fr (fun i => i = c ∨ c + 7 ≤ i) V3 (sI V14 c 14 0) := (k4.mono (fun i q => by omega)).trans (z5.mono (fun i q => by omega))
  have z3 : fr (fun i => i = c ∨ c + 5 ≤ i) V2 (sI V14 c 14 0) := (k3.mono (fun i q => by omega)).trans (z4.mono (fun i q => by omega))
  have z2 : fr (fun i => i = c ∨ c + 3 ≤ i) V1 (sI V14 c 14 0) := (k2.mono (fun i q => by omega)).trans (z3.mono (fun i q => by omega))
  have vf0 : ∀ (W : mV) (f : Nat), gI W (f + 1) 1 = 0 → gI W (f + 3) 1 = 64 → vF W f [] := fun W f a b => ⟨a, by simp, trivial, b⟩
  refine ⟨sI V14 c 14 0, ?_, kk.mono (fun i q => ⟨q.1, q.2.1⟩), okC_00, ⟨fun j a b => ?_, fun j a b => ?_⟩, ⟨⟨vf0 _ _ ?_ ?_, vf0 _ _ ?_ ?_, vf0 _ _ ?_ ?_, vf0 _ _ ?_ ?_⟩, ⟨w1.fr z2 (by omega) (by omega), w2.fr z3 (by omega) (by omega), w3.fr z4 (by omega) (by omega), w4.fr z5 (by omega) (by omega), ⟨?_, fun a b x0 x1 y0 y1 => ?_⟩⟩, ⟨w6.fr z7 (by omega) (by omega), w7.fr z8 (by omega) (by omega)⟩, ⟨w8.fr z9 (by omega) (by omega), w9.fr z10 (by omega) (by omega), w10.fr z11 (by omega) (by omega)⟩, ?_⟩, fun a b x0 x1 y0 y1 _ => ?_⟩
  · unfold F_X1_clear
    refine E_bd e1 (E_bd e2 (E_bd e3 (E_bd e4 (E_bd e5 (E_bd e6 (E_bd e7 (E_bd e8 (E_bd e9 (E_bd e10 (E_bd (v1 := 0) (V1 := V11) ?_ (E_bd (v1 := 0) (V1 := V12) ?_ (E_bd (v1 := 0) (V1 := V13) ?_ (E_bd (v1 := 0) (V1 := V14) ?_ (E_lt rfl))))))))))))))
    · unfold F_X3_clear; exact E_bd e11 rfl
    · unfold F_X3_clear; exact E_bd e12 rfl
    · unfold F_X3_clear; exact E_bd e13 rfl
    · unfold F_X3_clear; exact E_bd e14 rfl
  · have : j < 0 := b; omega
  · have : j < 0 := b; omega
  · rw [z12.I (by omega)]; exact w11.1
  · rw [kk.I (by omega)]; exact d1
  · rw [z13.I (by omega)]; exact w12.1
  · rw [kk.I (by omega)]; exact d2
  · rw [z14.I (by omega)]; exact w13.1
  · rw [kk.I (by omega)]; exact d3
  · rw [k15.I (by omega)]; exact w14.1
  · rw [kk.I (by omega)]; exact d4
  · rw [z6.I (by omega)]; exact c5.1
  · have : a < 0 := x1; omega
  · rw [gI_sI, if_pos ⟨rfl, rfl⟩]; rfl
  · rw [rc_fr z6 (by omega)]; exact c5.2 _ (by omega) (by omega)
end

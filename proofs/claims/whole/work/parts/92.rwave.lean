/-! waves asked (reference); what would fail today, both -/
/-- a question of the reference leaves all else -/
def rQ (m : Nat) (V V' : mV) : Prop := (∀ i, i < m + 37 ∨ m + 43 < i → gA V' i = gA V i) ∧ (∀ i k, (i ≠ m ∨ (k ≠ 104 ∧ k ≠ 61 ∧ k ≠ 62 ∧ k ≠ 64 ∧ k ≠ 65)) → gI V' i k = gI V i k) ∧ (∀ i k, (i ≠ m ∨ k < 51 ∨ 57 < k) → gJ V' i k = gJ V i k) ∧ (∀ i, i ≠ m + 70 → gL V' i = gL V i)
theorem rQ_refl {m : Nat} {V : mV} : rQ m V V := ⟨fun _ _ => rfl, fun _ _ _ => rfl, fun _ _ _ => rfl, fun _ _ => rfl⟩
theorem rQ.trans {m : Nat} {V V1 V2 : mV} (h : rQ m V V1) (k : rQ m V1 V2) : rQ m V V2 :=
  ⟨fun i a => (k.1 i a).trans (h.1 i a), fun i j q => (k.2.1 i j q).trans (h.2.1 i j q), fun i j q => (k.2.2.1 i j q).trans (h.2.2.1 i j q), fun i q => (k.2.2.2 i q).trans (h.2.2.2 i q)⟩
theorem rH.Q {m : Nat} {V V1 : mV} (h : rH m V V1) : rQ m V V1 := ⟨fun i a => h.1 i (by omega) (by omega) (by omega) (by omega), h.2.1, h.2.2.1, h.2.2.2⟩
theorem rQ_sF {m a : Nat} {V : mV} {g : Nat → Int} (ha : m + 37 ≤ a ∧ a ≤ m + 43) : rQ m V (sF V a g) :=
  ⟨fun i q => by rw [gA_sFo (by omega)], fun _ _ _ => rfl, fun _ _ _ => rfl, fun _ _ => rfl⟩
theorem rQ.cs {m : Nat} {V V' : mV} (h : rQ m V V') : rCs m V V' := ⟨fun i _ _ => h.1 i (by omega), h.2.2.2 _ (by omega)⟩
theorem rZ_ask {m : Nat} {V V' : mV} {Z : mZ} (ho : okZ Z) (h : rZ V m Z) (k : rQ m V V') (e : ∀ j, j < 282 → gA V' (m + 37) j = gA V (m + 37) j) (e61 : gI V' m 61 = -1 ∨ gI V' m 61 = 0 ∨ gI V' m 61 = 1) : rZ V' m Z := by
  obtain ⟨a, b, ⟨c1, c2, c3, c4⟩, d, -⟩ := h
  refine ⟨a.fr k.cs, rM_cgs ho.1.1.2 ho.2.1.2.2.2.2.2.2 e b, ⟨by rw [k.2.1 m 69 (by omega)]; exact c1, c2, by rw [k.2.1 m 70 (by omega)]; exact c3, fun i hi => ?_⟩, fun j p q => by rw [k.1 _ (by omega)]; exact d j p q, e61⟩
  rw [k.2.1 m 70 (by omega), k.1 _ (by omega)]; exact c4 i hi
section
variable {G : mG} {V : mV} {x m : Nat} {Z : mZ}
/-- aside and back -/
theorem aside_back {V1 V2 : mV} (h1 : V1 = sF V (m + 38) (up 282 (gA V (m + 37)) (gA V (m + 38)))) (h2 : gA V2 (m + 38) = gA V1 (m + 38)) : ∀ j, j < 282 → gA (sF V2 (m + 37) (up 282 (gA V2 (m + 38)) (gA V2 (m + 37)))) (m + 37) j = gA V (m + 37) j := by
  intro j hj
  rw [gA_sFe]
  unfold up
  rw [if_pos hj, h2, h1, gA_sFe]
  unfold up
  rw [if_pos hj]
theorem r_wave (ho : okZ Z) (hv : rZ V m Z) {p k : Int} (hp : rg p) (hk : rg k) :
    ∃ V', F_X10_wave G m p k V = some (V', aWave Z.1 Z.2.1 p k) ∧ rQ m V V' ∧ rZ V' m Z := by
  have hn := ho.1.1
  have e := r_here (G := G) ho hv hp
  by_cases h : here Z.1 Z.2.1 p
  · rw [if_pos h] at e
    obtain ⟨V1, hV1⟩ : ∃ V1, V1 = sF V (m + 38) (up 282 (gA V (m + 37)) (gA V (m + 38))) := ⟨_, rfl⟩
    have e1 := r_puts (G := G) (V := V) (m := m)
    rw [← hV1] at e1
    have k1 : rQ m V V1 := by rw [hV1]; exact rQ_sF ⟨by omega, by omega⟩
    have a37 : gA V1 (m + 37) = gA V (m + 37) := by rw [hV1, gA_sFo (by omega)]
    obtain ⟨V2, v2, e2, k2, w2, l2, n2, m2, q61⟩ := r_called (G := G) (V := V1) ho.1 (hv.1.fr k1.cs) (by rw [a37]; exact hv.2.1) ho.2.1 h.1 h.2
    have e3 := r_takes (G := G) (V := V2) (m := m)
    have back := aside_back (V := V) (V1 := V1) (V2 := V2) hV1 (k2.1 _ (by omega) (by omega) (by omega) (by omega))
    have k3 : rQ m V (sF V2 (m + 37) (up 282 (gA V2 (m + 38)) (gA V2 (m + 37)))) := (k1.trans k2.Q).trans (rQ_sF ⟨by omega, by omega⟩)
    have hl : (sendA Z.1 (ml Z.2.1) p).2.2.length ≤ 10 := wav_len (C := Z.1) 10 (lv := uf (ml Z.2.1) p (-1)) (left := ml Z.2.1 p) (mv := [])
    refine ⟨_, ?_, k3, rZ_ask ho hv k3 back (by show gI V2 m 61 = -1 ∨ gI V2 m 61 = 0 ∨ gI V2 m 61 = 1; rw [q61, hV1]; exact hv.2.2.2.2)⟩
    unfold F_X10_wave aWave
    rw [if_pos h]
    have i64 : gI (sF V2 (m + 37) (up 282 (gA V2 (m + 38)) (gA V2 (m + 37)))) m 64 = ((sendA Z.1 (ml Z.2.1) p).2.2.length : Int) := n2
    have i65 : gI (sF V2 (m + 37) (up 282 (gA V2 (m + 38)) (gA V2 (m + 37)))) m 65 = (sendA Z.1 (ml Z.2.1) p).2.1 := l2
    refine E_bd e (E_gd (by decide) (E_if (fun q => absurd q (by decide)) (fun _ => E_bd e1 (E_bd e2 (E_bd e3 (E_gd hk (E_if (fun q => ?_) (fun q => E_if (fun q2 => ?_) (fun q2 => ?_)))))))))
    · refine E_so rfl ?_
      rw [if_pos q]; exact i64
    · refine E_so rfl ?_
      rw [if_neg q, if_pos q2]; exact i65
    · rw [i64, if_neg q, if_neg q2]
      refine E_gd ⟨by omega, by omega⟩ (E_bd (r_isIn ⟨by omega, by omega⟩ ⟨by decide, by decide⟩ ⟨by omega, by omega⟩) ?_)
      by_cases q3 : 0 ≤ k ∧ k < ((sendA Z.1 (ml Z.2.1) p).2.2.length : Int)
      · rw [if_pos (show 0 ≤ k ∧ k ≤ ((sendA Z.1 (ml Z.2.1) p).2.2.length : Int) - 1 by omega), if_pos q3]
        refine E_gd (by decide) (E_if (fun q => absurd q (by decide)) (fun _ => E_gd ⟨by omega, by omega, by omega⟩ (E_so rfl ?_)))
        rw [gA_sFo (show m + 41 ≠ m + 37 by omega)]
        exact m2 _ (by omega)
      · rw [if_neg (show ¬ (0 ≤ k ∧ k ≤ ((sendA Z.1 (ml Z.2.1) p).2.2.length : Int) - 1) by omega), if_neg q3]
        exact E_gd (by decide) (E_if (fun _ => rfl) (fun q => absurd rfl q))
  · rw [if_neg h] at e
    refine ⟨V, ?_, rQ_refl, hv⟩
    unfold F_X10_wave aWave
    rw [if_neg h]
    exact E_bd e (E_gd (by decide) (E_if (fun _ => rfl) (fun q => absurd rfl q)))
end

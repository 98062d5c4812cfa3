/-! somebody is called away, something is refused: both -/
def refZ (Z : mZ) (k : Int) : mZ := (Z.1, Z.2.1, Z.2.2.1, uf Z.2.2.2 k (Z.2.2.2 k + 1))
def callZ (Z : mZ) (p : Int) : mZ := if here Z.1 Z.2.1 p then (Z.1, calM Z.1 Z.2.1 p, (Z.2.1 :: Z.2.2.1).take 20, Z.2.2.2) else refZ Z 2
def aCall (Z : mZ) (p : Int) : Int := if here Z.1 Z.2.1 p then ((sendA Z.1 (ml Z.2.1) p).2.2.length : Int) else -1
theorem okZ_ref {Z : mZ} {k : Int} (h : okZ Z) : okZ (refZ Z k) := h
theorem okZ_call {Z : mZ} {p : Int} (h : okZ Z) : okZ (callZ Z p) := by
  unfold callZ
  by_cases c : here Z.1 Z.2.1 p
  · rw [if_pos c]
    refine ⟨h.1, okM_cal h.1 h.2.1 c.1 c.2, fun Q hQ => ?_⟩
    rcases List.mem_cons.mp (List.mem_of_mem_take hQ) with q | q
    · rw [q]; exact h.2.1
    · exact h.2.2 Q q
  · rw [if_neg c]; exact h
section
variable {G : mG} {V : mV} {x m : Nat} {Z : mZ}
theorem c_refuse (hG : is9 G x) (hv : vZ G V x Z) {k : Int} (hk : 0 ≤ k ∧ k < 6) :
    ∃ V', F_X9_refuse G x k V = some (V', -1) ∧ fr (fun i => i = x + 6 ∨ (x + 27 ≤ i ∧ i ≤ x + 37) ∨ (x + 45 ≤ i ∧ i < x + 245) ∨ (gR G x 10 ≤ i ∧ i ≤ gR G x 10 + 40)) V V' ∧ vZ G V' x (refZ Z k) := by
  obtain ⟨a, b, c, d, ⟨e0, f⟩, g, i, j⟩ := hv
  obtain ⟨e1, w1⟩ := rw_put (v := Z.2.2.2 k + 1) (s9_2s hG) (s9_2c hG) j (by decide) hk
  have kk : fr (fun i => i = x + 6) V (sA V (x + 5 + 1) k.toNat (Z.2.2.2 k + 1)) := fr_sA rfl
  refine ⟨_, ?_, kk.mono (fun i q => by omega), a, b.fr kk (fun j p q _ => by omega), c.fr kk (fun j p q => by omega), d.fr kk (by omega) (by omega), ⟨e0, f.fr kk (fun j p q => by omega)⟩, ?_, i.fr kk (fun j p q => by omega), w1⟩
  · unfold F_X9_refuse
    exact E_bd (rw_get (s9_2s hG) (s9_2c hG) j (by decide) hk) (E_bd e1 rfl)
  · exact g
theorem r_refuse (hv : rZ V m Z) {k : Int} (hk : 0 ≤ k ∧ k < 6) :
    ∃ V', F_X10_refuses G m k V = some (V', -1) ∧ (V' = sA V (m + 2) k.toNat (Z.2.2.2 k + 1)) ∧ rZ V' m (refZ Z k) := by
  obtain ⟨a, b, ⟨c1, c2, c3, c4⟩, d, d5⟩ := hv
  refine ⟨sA V (m + 2) k.toNat (Z.2.2.2 k + 1), ?_, rfl, a.fr ⟨fun i p q => gA_sAo (by omega), rfl⟩, by rw [gA_sAo (show m + 37 ≠ m + 2 by omega)]; exact b, ⟨c1, c2, c3, fun i hi => ?_⟩, fun j p q => ?_, d5⟩
  · unfold F_X10_refuses
    rw [d k hk.1 hk.2]
    exact E_gd ⟨by omega, by omega, by omega⟩ (E_lt rfl)
  · rw [gA_sAo (show m + 44 ≠ m + 2 by omega)]; exact c4 i hi
  · rw [gA_sA]
    show _ = uf Z.2.2.2 k (Z.2.2.2 k + 1) j
    unfold uf
    by_cases e : j = k
    · rw [if_pos ⟨rfl, by rw [e]⟩, if_pos e]
    · rw [if_neg (by omega), if_neg e]; exact d j p q
theorem c_call (hG : is9 G x) (ho : okZ Z) (hv : vZ G V x Z) {p : Int} (hp : rg p) :
    ∃ V', F_X9_call G x p V = some (V', aCall Z p) ∧ fr (fun i => i = x + 6 ∨ (x + 27 ≤ i ∧ i ≤ x + 37) ∨ (x + 45 ≤ i ∧ i < x + 245) ∨ (gR G x 10 ≤ i ∧ i ≤ gR G x 10 + 40)) V V' ∧ vZ G V' x (callZ Z p) := by
  have hn := ho.1.1
  have e := c_here hG ho hv hp
  by_cases h : here Z.1 Z.2.1 p
  · rw [if_pos h] at e
    obtain ⟨a, b, c, d, ⟨e0, f⟩, g, i, j⟩ := hv
    have hG5 := s9_5s hG
    obtain ⟨V1, e1, k1, w1⟩ := c_remember (V := V) (y := x + 45) (mo := x + 227) (s9_7s hG) (s9_8s hG) (by omega) hn c i
    obtain ⟨V2, v2, e2, k2, w2, l2, m2⟩ := c_away (V := V1) (cr := x + 27) (c := gR G x 10) (mo := x + 227) hG5 (s9_10s hG) (s9_8s hG) ho.1 (b.fr k1 (fun j p q _ => by omega)) (by omega) (by omega) (c.fr k1 (fun i p q => by omega)) ho.2.1 (by rw [k1.I (by omega)]; exact g) h.1 h.2
    have k12 : fr (fun i => (x + 45 ≤ i ∧ i ≤ x + 226) ∨ i = x + 229 ∨ i = x + 27 ∨ i = x + 30 ∨ i = x + 31) V V2 := (k1.mono (fun i q => by omega)).trans (k2.mono (fun i q => by simp only [sA'] at q; omega))
    have hl : (sendA Z.1 (ml Z.2.1) p).2.2.length ≤ 10 := wav_len (C := Z.1) 10 (lv := uf (ml Z.2.1) p (-1)) (left := ml Z.2.1 p) (mv := [])
    have m21 : gI V2 (x + 30) 1 = ((sendA Z.1 (ml Z.2.1) p).2.2.length : Int) := m2.1
    refine ⟨V2, ?_, k12.mono (fun i q => by omega), ?_⟩
    · unfold F_X9_call aCall
      rw [if_pos h]
      exact E_bd e (E_gd (by decide) (E_if (fun q => absurd q (by decide)) (fun _ => E_bd e1 (E_bd e2 (E_bd p7_size (E_so rfl m21))))))
    · unfold callZ
      rw [if_pos h]
      exact ⟨a, b.fr k12 (fun j p q _ => by omega), w2, d.fr k12 (by omega) (by omega), ⟨e0, f.fr k12 (fun j p q => by omega)⟩, by rw [m21]; omega, w1.fr k2 (fun j p q w => by simp only [sA'] at w; omega), j.fr k12 (by omega) (by omega)⟩
  · rw [if_neg h] at e
    obtain ⟨V1, e1, k1, w1⟩ := c_refuse hG hv (k := 2) (by decide)
    refine ⟨V1, ?_, k1, by unfold callZ; rw [if_neg h]; exact w1⟩
    unfold F_X9_call aCall
    rw [if_neg h]
    exact E_bd e (E_gd (by decide) (E_if (fun _ => E_bd e1 rfl) (fun q => absurd rfl q)))
/-- what a call of the reference leaves alone -/
def rG (m : Nat) (V V' : mV) : Prop := (∀ i, i ≠ m + 2 → (i < m + 37 ∨ m + 44 < i) → gA V' i = gA V i) ∧ (∀ i k, (i ≠ m ∨ (k ≠ 104 ∧ k ≠ 61 ∧ k ≠ 62 ∧ k ≠ 64 ∧ k ≠ 65 ∧ k ≠ 69 ∧ k ≠ 70)) → gI V' i k = gI V i k) ∧ (∀ i k, (i ≠ m ∨ k < 51 ∨ 57 < k) → gJ V' i k = gJ V i k) ∧ (∀ i, i ≠ m + 70 → gL V' i = gL V i)
theorem rQ.out {m : Nat} {V V' : mV} (h : rQ m V V') : rG m V V' := ⟨fun i _ q => h.1 i (by omega), fun i k q => h.2.1 i k (by omega), h.2.2.1, h.2.2.2⟩
theorem rK.out {m : Nat} {V V' : mV} (h : rK m V V') : rG m V V' := ⟨fun i _ q => h.1 i (by omega), fun i k q => h.2.1 i k (by omega), fun i k _ => by rw [h.2.2.1], fun i _ => by rw [h.2.2.2]⟩
theorem rG_refl {m : Nat} {V : mV} : rG m V V := ⟨fun _ _ _ => rfl, fun _ _ _ => rfl, fun _ _ _ => rfl, fun _ _ => rfl⟩
theorem rG.trans {m : Nat} {V V1 V2 : mV} (h : rG m V V1) (k : rG m V1 V2) : rG m V V2 :=
  ⟨fun i a q => (k.1 i a q).trans (h.1 i a q), fun i j q => (k.2.1 i j q).trans (h.2.1 i j q), fun i j q => (k.2.2.1 i j q).trans (h.2.2.1 i j q), fun i q => (k.2.2.2 i q).trans (h.2.2.2 i q)⟩
theorem rG.lo {m : Nat} {V V' : mV} (h : rG m V V') : ∀ i, i < m → gI V' i = gI V i ∧ gA V' i = gA V i ∧ gJ V' i = gJ V i ∧ gL V' i = gL V i := fun i hi => ⟨by funext k; exact h.2.1 i k (by omega), h.1 i (by omega) (by omega), by funext k; exact h.2.2.1 i k (by omega), h.2.2.2 i (by omega)⟩
theorem rG_sA {m a k : Nat} {V : mV} {v : Int} (h : a = m + 2) : rG m V (sA V a k v) := ⟨fun i p _ => gA_sAo (by omega), fun _ _ _ => rfl, fun _ _ _ => rfl, fun _ _ => rfl⟩
theorem r_call (ho : okZ Z) (hv : rZ V m Z) {p : Int} (hp : rg p) :
    ∃ V', F_X10_call G m p V = some (V', aCall Z p) ∧ rG m V V' ∧ rZ V' m (callZ Z p) := by
  have hn := ho.1.1
  have e := r_here (G := G) ho hv hp
  by_cases h : here Z.1 Z.2.1 p
  · rw [if_pos h] at e
    obtain ⟨a, b, c, d, d5⟩ := hv
    obtain ⟨V1, e1, k1, w1⟩ := r_keeps (G := G) hn.2 b ho.2.1.2.2.2.2.2.2 c (fun Q hQ => (ho.2.2 Q hQ).2.2.2.2.2.2)
    have kc : rCs m V V1 := ⟨fun i p q => k1.1 i (by omega), by rw [k1.2.2.2]⟩
    obtain ⟨V2, v2, e2, k2, w2, l2, n2, m2, q61⟩ := r_called (G := G) (V := V1) ho.1 (a.fr kc) (by rw [k1.1 _ (by omega)]; exact b) ho.2.1 h.1 h.2
    refine ⟨V2, ?_, k1.out.trans k2.Q.out, ?_⟩
    · unfold F_X10_call aCall
      rw [if_pos h]
      exact E_bd e (E_gd (by decide) (E_if (fun q => absurd q (by decide)) (fun _ => E_bd e1 (E_bd e2 (E_so rfl n2)))))
    · unfold callZ
      rw [if_pos h]
      obtain ⟨p1, p2, p3, p4⟩ := w1
      refine ⟨(a.fr kc).fr k2.cs, w2, ⟨by rw [k2.2.1 m 69 (by omega)]; exact p1, p2, by rw [k2.2.1 m 70 (by omega)]; exact p3, fun i hi => ?_⟩, fun j p q => ?_, by rw [q61, k1.2.1 m 61 (by omega)]; exact d5⟩
      · rw [k2.2.1 m 70 (by omega), k2.1 _ (by omega) (by omega) (by omega) (by omega)]; exact p4 i hi
      · rw [k2.1 _ (by omega) (by omega) (by omega) (by omega), k1.1 _ (by omega)]; exact d j p q
  · rw [if_neg h] at e
    obtain ⟨V1, e1, hV1, w1⟩ := r_refuse (G := G) hv (k := 2) (by decide)
    refine ⟨V1, ?_, by rw [hV1]; exact rG_sA (by omega), by unfold callZ; rw [if_neg h]; exact w1⟩
    unfold F_X10_call aCall
    rw [if_neg h]
    exact E_bd e (E_gd (by decide) (E_if (fun _ => E_bd e1 rfl) (fun q => absurd rfl q)))
end

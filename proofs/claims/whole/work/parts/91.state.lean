/-! a city that goes: one state, two pictures; waves asked -/
/-- city, now, past (the newest first), refused -/
abbrev mZ : Type := mCy × mMo × List mMo × (Int → Int)
def okZ (Z : mZ) : Prop := okC Z.1 ∧ okM (cn Z.1) Z.2.1 ∧ ∀ Q ∈ Z.2.2.1, okM (cn Z.1) Q
def vZ (G : mG) (V : mV) (x : Nat) (Z : mZ) : Prop := (x + 245 ≤ gR G x 10 ∧ gR G x 10 + 40 < x + 327) ∧ vC V (gR G x 10) Z.1 ∧ vM V (x + 227) (cn Z.1) Z.2.1 (240 * mh Z.2.1) ∧ kC V (x + 27) ∧ (∃ S, kS0 V (x + 27) S) ∧ (0 ≤ gI V (x + 30) 1 ∧ gI V (x + 30) 1 ≤ 10) ∧ vPa V (x + 45) (cn Z.1) Z.2.2.1 ∧ rw' V (x + 5) 6 Z.2.2.2
def rZ (V : mV) (m : Nat) (Z : mZ) : Prop := rC V m Z.1 ∧ rM (gA V (m + 37)) (cn Z.1) Z.2.1 ∧ rPa V m (cn Z.1) Z.2.2.1 ∧ (∀ k, 0 ≤ k → k < 6 → gA V (m + 2) k.toNat = Z.2.2.2 k) ∧ (gI V m 61 = -1 ∨ gI V m 61 = 0 ∨ gI V m 61 = 1)
theorem vPa.fr {S : Nat → Prop} {V V1 : mV} {y : Nat} {n : Int} {P : List mMo} (h : vPa V y n P) (k : fr S V V1) (hS : ∀ i, y ≤ i → i ≤ y + 181 → ¬ S i) : vPa V1 y n P := by
  obtain ⟨a, b, c, d⟩ := h
  have hy := hS y (by omega) (by omega)
  refine ⟨by rw [k.I hy]; exact a, b, by rw [k.I hy]; exact c, fun i hi => ?_⟩
  rw [k.I hy]
  have l : ((gI V y 2 - 1 - (i : Int)) % 20).toNat < 20 := by omega
  exact (d i hi).fr k (fun j p q => hS j (by omega) (by omega))
theorem vZ.fr {S : Nat → Prop} {G : mG} {V V1 : mV} {x : Nat} {Z : mZ} (h : vZ G V x Z) (k : fr S V V1) (hS : ∀ i, i < x + 327 → ¬ S i) : vZ G V1 x Z := by
  obtain ⟨a, b, c, d, ⟨e0, e⟩, f, g, i⟩ := h
  refine ⟨a, b.fr k (fun j p q _ => hS j (by omega)), c.fr k (fun j p q => hS j (by omega)), d.fr k (hS _ (by omega)) (hS _ (by omega)), ⟨e0, e.fr k (fun j p q => hS j (by omega))⟩, ?_, g.fr k (fun j p q => hS j (by omega)), i.fr k (hS _ (by omega)) (hS _ (by omega))⟩
  rw [k.I (hS _ (by omega))]; exact f
/-- what the reference does leaves the class's picture -/
theorem vZ_rf {G : mG} {V V1 : mV} {x : Nat} {Z : mZ} (h : vZ G V x Z) (k : ∀ i, i < x + 327 → gI V1 i = gI V i ∧ gA V1 i = gA V i) : vZ G V1 x Z := by
  have e : fr (fun i => x + 327 ≤ i) V (V1.1, V.2.1, V1.2.2.1, V.2.2.2) := ⟨rfl, rfl, fun i hi => k i (by omega)⟩
  exact vZ.fr (V1 := (V1.1, V.2.1, V1.2.2.1, V.2.2.2)) h e (fun i hi => by omega)
/-- what the class does leaves the reference's -/
theorem rZ.cl {V V1 : mV} {m : Nat} {Z : mZ} (h : rZ V m Z) (k : fr (fun i => i < m) V V1) : rZ V1 m Z := by
  obtain ⟨a, b, ⟨c1, c2, c3, c4⟩, d, d5⟩ := h
  have hA : ∀ j, m ≤ j → gA V1 j = gA V j := fun j hj => (k.2.2 j (by omega)).2
  refine ⟨a.fr ⟨fun i p q => hA i (by omega), by rw [k.2.1]⟩, by rw [hA _ (by omega)]; exact b, ⟨by rw [k.I (by omega)]; exact c1, c2, by rw [k.I (by omega)]; exact c3, fun i hi => ?_⟩, fun j p q => by rw [hA _ (by omega)]; exact d j p q, by rw [k.I (by omega)]; exact d5⟩
  rw [k.I (by omega), hA _ (by omega)]; exact c4 i hi
theorem wav_len {C : mCy} : ∀ (f : Nat) {lv : Int → Int} {left : Int} {mv : List Int}, (wav C f lv left mv).2.2.length ≤ mv.length + f
  | 0, _, _, _ => Nat.le_refl _
  | f + 1, lv, left, mv => by
    unfold wav
    split
    · show mv.length ≤ _; omega
    · have := wav_len (C := C) f (lv := uf lv (cb C left) left) (left := cb C left) (mv := mv ++ [cb C left])
      rw [List.length_append] at this
      have h1 : ([cb C left] : List Int).length = 1 := rfl
      omega
abbrev here (C : mCy) (M : mMo) (p : Int) : Prop := (0 ≤ p ∧ p < cn C) ∧ ml M p ≠ -1
def aWave (C : mCy) (M : mMo) (p k : Int) : Int := if here C M p then (if k = -1 then ((sendA C (ml M) p).2.2.length : Int) else if k = 20 then (sendA C (ml M) p).2.1 else if 0 ≤ k ∧ k < ((sendA C (ml M) p).2.2.length : Int) then (sendA C (ml M) p).2.2.getD k.toNat 0 else -1) else -1
section
variable {G : mG} {V : mV} {x m : Nat} {Z : mZ}
theorem c_isP (ho : okZ Z) (hv : vZ G V x Z) {p : Int} (hp : rg p) : F_X9_isPerson G x p V = some (V, if 0 ≤ p ∧ p < cn Z.1 then 1 else 0) := by
  have hn := ho.1.1
  have hsz : gI V (gR G x 10 + 1) 1 = cn Z.1 := hv.2.1.2.1.1.1
  unfold F_X9_isPerson
  refine E_gd hp (E_if (fun q => E_so rfl (by rw [if_neg (by omega)])) (fun q => E_bd p7_size ?_))
  rw [hsz]
  exact E_gd ⟨by omega, by omega⟩ (E_if (fun w => E_so rfl (by rw [if_neg (by omega)])) (fun w => E_so rfl (by rw [if_pos (by omega)])))
theorem c_here (hG : is9 G x) (ho : okZ Z) (hv : vZ G V x Z) {p : Int} (hp : rg p) : F_X9_isHere G x p V = some (V, if here Z.1 Z.2.1 p then 1 else 0) := by
  have hn := ho.1.1
  have e := c_isP ho hv hp
  unfold F_X9_isHere
  by_cases h : 0 ≤ p ∧ p < cn Z.1
  · rw [if_pos h] at e
    have hl := ho.2.1.2.1 p h.1 h.2
    refine E_bd e (E_gd (by decide) (E_if (fun q => absurd q (by decide)) (fun _ => E_bd (rw_get (s4_1s (s9_8s hG)) (s4_1c (s9_8s hG)) hv.2.2.1.2.1 hn.2 h) (E_gd ⟨by omega, by omega⟩ (E_if (fun q => E_so rfl (by rw [if_neg (fun w => w.2 q)])) (fun q => E_so rfl (by rw [if_pos ⟨h, q⟩])))))))
  · rw [if_neg h] at e
    exact E_bd e (E_gd (by decide) (E_if (fun q => E_so rfl (by rw [if_neg (fun w => h w.1)])) (fun q => absurd rfl q)))
theorem r_here (ho : okZ Z) (hv : rZ V m Z) {p : Int} (hp : rg p) : F_X10_isHere0 G m p V = some (V, if here Z.1 Z.2.1 p then 1 else 0) := by
  have hn := ho.1.1
  have e := r_isP (G := G) ho.1 hv.1 hp
  unfold F_X10_isHere0
  by_cases h : 0 ≤ p ∧ p < cn Z.1
  · rw [if_pos h] at e
    have hl := ho.2.1.2.1 p h.1 h.2
    refine E_bd e (E_gd (by decide) (E_if (fun q => absurd q (by decide)) (fun _ => E_bd (r_lives hv.2.1 hn.2 h) (E_gd ⟨by omega, by omega⟩ (E_if (fun q => E_so rfl (by rw [if_neg (fun w => w.2 q)])) (fun q => E_so rfl (by rw [if_pos ⟨h, q⟩])))))))
  · rw [if_neg h] at e
    exact E_bd e (E_gd (by decide) (E_if (fun q => E_so rfl (by rw [if_neg (fun w => h w.1)])) (fun q => absurd rfl q)))
/-- the class's wave -/
theorem c_wave (hG : is9 G x) (ho : okZ Z) (hv : vZ G V x Z) {p k : Int} (hp : rg p) (hk : rg k) :
    ∃ V', F_X9_wave G x p k V = some (V', aWave Z.1 Z.2.1 p k) ∧ fr (fun i => i = x + 6 ∨ (x + 27 ≤ i ∧ i ≤ x + 37) ∨ (x + 45 ≤ i ∧ i < x + 245) ∨ (gR G x 10 ≤ i ∧ i ≤ gR G x 10 + 40)) V V' ∧ vZ G V' x Z := by
  have hn := ho.1.1
  have e := c_here hG ho hv hp
  by_cases h : here Z.1 Z.2.1 p
  · rw [if_pos h] at e
    obtain ⟨a, b, c, d, ⟨e0, f⟩, g, i, j⟩ := hv
    obtain ⟨V1, e1, k1, w1⟩ := m_copy (V := V) (a := x + 227) (b := x + 236) (s9_8s hG) (s9_9s hG) (by omega) hn c
    obtain ⟨V2, v2, e2, k2, w2, l2, m2⟩ := c_away (V := V1) (cr := x + 27) (c := gR G x 10) (mo := x + 236) (s9_5s hG) (s9_10s hG) (s9_9s hG) ho.1 (b.fr k1 (fun j p q _ => by omega)) (by omega) (by omega) w1 ho.2.1 (by rw [k1.I (by omega)]; exact g) h.1 h.2
    have hl : (sendA Z.1 (ml Z.2.1) p).2.2.length ≤ 10 := by
      have := wav_len (C := Z.1) 10 (lv := uf (ml Z.2.1) p (-1)) (left := ml Z.2.1 p) (mv := [])
      exact this
    have k12 : fr (fun i => (x + 236 ≤ i ∧ i ≤ x + 244) ∨ i = x + 27 ∨ i = x + 30 ∨ i = x + 31) V V2 := (k1.mono (fun i q => by omega)).trans (k2.mono (fun i q => by simp only [sA'] at q; omega))
    refine ⟨V2, ?_, k12.mono (fun i q => by omega), a, b.fr k12 (fun j p q _ => by omega), c.fr k12 (fun j p q => by omega), d.fr k12 (by omega) (by omega), ⟨e0, f.fr k12 (fun j p q => by omega)⟩, ?_, i.fr k12 (fun j p q => by omega), j.fr k12 (by omega) (by omega)⟩
    · unfold F_X9_wave aWave
      rw [if_pos h]
      have m21 : gI V2 (x + 30) 1 = ((sendA Z.1 (ml Z.2.1) p).2.2.length : Int) := m2.1
      refine E_bd e (E_gd (by decide) (E_if (fun q => absurd q (by decide)) (fun _ => E_bd e1 (E_bd e2 (E_gd hk (E_if (fun q => ?_) (fun q => E_if (fun q2 => ?_) (fun q2 => ?_))))))))
      · refine E_bd p7_size (E_so rfl ?_)
        rw [if_pos q]; exact m21
      · refine E_so rfl ?_
        rw [if_neg q, if_pos q2]; exact l2
      · refine E_bd (p7_get (s2_1s (s9_5s hG)) (rw_rz (s2_1c (s9_5s hG)) m21 ⟨by omega, by omega⟩) hk) (E_so rfl ?_)
        rw [if_neg q, if_neg q2]
        by_cases q3 : 0 ≤ k ∧ k < ((sendA Z.1 (ml Z.2.1) p).2.2.length : Int)
        · rw [if_pos q3, rget_in q3.1 (by show k < gI V2 (x + 30) 1; rw [m21]; exact q3.2)]
          have := m2.2 k.toNat (by omega)
          rw [Int.toNat_of_nonneg q3.1] at this
          exact this
        · rw [if_neg q3, rget_out (by show k < 0 ∨ gI V2 (x + 30) 1 ≤ k; rw [m21]; omega)]
    · have m21 : gI V2 (x + 30) 1 = ((sendA Z.1 (ml Z.2.1) p).2.2.length : Int) := m2.1
      rw [m21]; omega
  · rw [if_neg h] at e
    refine ⟨V, ?_, fr_refl, hv⟩
    unfold F_X9_wave aWave
    rw [if_neg h]
    exact E_bd e (E_gd (by decide) (E_if (fun _ => rfl) (fun q => absurd rfl q)))
end

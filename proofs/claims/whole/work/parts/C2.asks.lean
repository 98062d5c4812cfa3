/-! could, kept, has (reference), best: both -/
section
variable {σ β : Type} {r : Option β} {V1 : σ}
theorem E_y {e : Option (σ × Int)} {A B : σ → Option β} (h : e = some (V1, 1)) (k : B V1 = r) : bd e (fun V v => gd (rg v) (if v = 0 then A V else B V)) = r :=
  E_bd h (E_gd (by decide) (E_if (fun q => absurd q (by decide)) (fun _ => k)))
theorem E_n {e : Option (σ × Int)} {A B : σ → Option β} (h : e = some (V1, 0)) (k : A V1 = r) : bd e (fun V v => gd (rg v) (if v = 0 then A V else B V)) = r :=
  E_bd h (E_gd (by decide) (E_if (fun _ => k) (fun q => absurd rfl q)))
end
section
variable {G : mG} {V V1 : mV} {cr c mo x m : Nat} {C : mCy} {M : mMo} {B : Int} {n : Int} {Z : mZ}
def aCould (Z : mZ) (p l t c : Int) : Int := if ((0 ≤ p ∧ p < cn Z.1) ∧ (0 ≤ l ∧ l < cn Z.1)) ∧ (0 ≤ t ∧ t < ct Z.1) ∧ (0 ≤ c ∧ c < 24) then canD Z.1 Z.2.1 p l t c else -1
theorem c_isT (ho : okZ Z) (hv : vZ G V x Z) {t : Int} (ht : rg t) : F_X9_isTask G x t V = some (V, if 0 ≤ t ∧ t < ct Z.1 then 1 else 0) := by
  have hn := ho.1.2.1
  have hsz : gI V (gR G x 10 + 11) 1 = ct Z.1 := hv.2.1.2.2.1.1.1
  unfold F_X9_isTask
  refine E_gd ht (E_if (fun q => E_so rfl (by rw [if_neg (by omega)])) (fun q => E_bd p7_size ?_))
  rw [hsz]
  exact E_gd ⟨by omega, by omega⟩ (E_if (fun w => E_so rfl (by rw [if_neg (by omega)])) (fun w => E_so rfl (by rw [if_pos (by omega)])))
theorem c_isK {t : Int} (ht : rg t) : F_X9_isClock G x t V = some (V, if 0 ≤ t ∧ t < 24 then 1 else 0) := by
  unfold F_X9_isClock
  exact E_gd ht (E_if (fun q => E_so rfl (by rw [if_neg (by omega)])) (fun q => E_if (fun w => E_so rfl (by rw [if_neg (by omega)])) (fun w => E_so rfl (by rw [if_pos (by omega)]))))
theorem r_isT (ho : okC C) (hv : rC V m C) {t : Int} (ht : rg t) : F_X10_isTask G m t V = some (V, if 0 ≤ t ∧ t < ct C then 1 else 0) := by
  have hn := ho.2.1
  have e := r_isIn (G := G) (V := V) (x := t) (a := 0) (b := ct C - 1) ⟨by omega, by omega⟩ ⟨by decide, by decide⟩ ⟨by omega, by omega⟩
  unfold F_X10_isTask
  rw [hv.1.2.1]
  refine E_gd ht (E_gd ⟨by omega, by omega⟩ (E_bd e (E_gd (by split <;> simp) (E_so rfl ?_))))
  by_cases h : 0 ≤ t ∧ t < ct C
  · rw [if_pos h, if_pos (by omega)]
  · rw [if_neg h, if_neg (by omega)]
theorem c_could (hG : is9 G x) (ho : okZ Z) (hv : vZ G V x Z) {p l t c : Int} (hp : rg p) (hl : rg l) (ht : rg t) (hc : rg c) :
    ∃ V', F_X9_could G x p l t c V = some (V', aCould Z p l t c) ∧ fr (zE G x) V V' ∧ vZ G V' x Z := by
  have e1 := c_isP ho hv hp
  have e2 := c_isP ho hv hl
  have e3 := c_isT ho hv ht
  have e4 := c_isK (G := G) (V := V) (x := x) hc
  unfold F_X9_could aCould
  by_cases h1 : 0 ≤ p ∧ p < cn Z.1
  rotate_left
  · rw [if_neg h1] at e1; rw [if_neg (fun q => h1 q.1.1)]; exact ⟨V, E_n e1 rfl, fr_refl, hv⟩
  rw [if_pos h1] at e1
  by_cases h2 : 0 ≤ l ∧ l < cn Z.1
  rotate_left
  · rw [if_neg h2] at e2; rw [if_neg (fun q => h2 q.1.2)]; exact ⟨V, E_y e1 (E_n e2 rfl), fr_refl, hv⟩
  rw [if_pos h2] at e2
  by_cases h3 : 0 ≤ t ∧ t < ct Z.1
  rotate_left
  · rw [if_neg h3] at e3; rw [if_neg (fun q => h3 q.2.1)]; exact ⟨V, E_y e1 (E_y e2 (E_n e3 rfl)), fr_refl, hv⟩
  rw [if_pos h3] at e3
  by_cases h4 : 0 ≤ c ∧ c < 24
  rotate_left
  · rw [if_neg h4] at e4; rw [if_neg (fun q => h4 q.2.2)]; exact ⟨V, E_y e1 (E_y e2 (E_y e3 (E_n e4 rfl))), fr_refl, hv⟩
  rw [if_pos h4] at e4
  obtain ⟨V', g1, kk, f1, o1⟩ := c_ableNow (s9_5s hG) (s9_10s hG) (s9_8s hG) ho.1 hv.2.1 hv.2.2.2.1 (by omega) (by have := hv.1; omega) hv.2.2.1 ho.2.1 h1 h2 h3 h4
  rw [if_pos ⟨⟨h1, h2⟩, h3, h4⟩]
  refine ⟨V', E_y e1 (E_y e2 (E_y e3 (E_y e4 (E_bd g1 (E_gd ⟨by omega, by omega⟩ (E_if (fun q => E_so rfl q.symm) (fun q => E_so rfl (by omega)))))))), vZ_T hv f1 kk⟩
theorem r_could (ho : okZ Z) (hv : rZ V m Z) {p l t c : Int} (hp : rg p) (hl : rg l) (ht : rg t) (hc : rg c) :
    ∃ V', F_X10_could G m p l t c V = some (V', aCould Z p l t c) ∧ rT m V V' := by
  have e1 := r_isP (G := G) ho.1 hv.1 hp
  have e2 := r_isP (G := G) ho.1 hv.1 hl
  have e3 := r_isT (G := G) ho.1 hv.1 ht
  have e4 := r_isIn (G := G) (V := V) (x := c) (a := 0) (b := 23) ⟨by omega, by omega⟩ ⟨by decide, by decide⟩ ⟨by decide, by decide⟩
  unfold F_X10_could aCould
  by_cases h1 : 0 ≤ p ∧ p < cn Z.1
  rotate_left
  · rw [if_neg h1] at e1; rw [if_neg (fun q => h1 q.1.1)]; exact ⟨V, E_n e1 rfl, rT_refl⟩
  rw [if_pos h1] at e1
  by_cases h2 : 0 ≤ l ∧ l < cn Z.1
  rotate_left
  · rw [if_neg h2] at e2; rw [if_neg (fun q => h2 q.1.2)]; exact ⟨V, E_y e1 (E_n e2 rfl), rT_refl⟩
  rw [if_pos h2] at e2
  by_cases h3 : 0 ≤ t ∧ t < ct Z.1
  rotate_left
  · rw [if_neg h3] at e3; rw [if_neg (fun q => h3 q.2.1)]; exact ⟨V, E_y e1 (E_y e2 (E_n e3 rfl)), rT_refl⟩
  rw [if_pos h3] at e3
  by_cases h4 : 0 ≤ c ∧ c < 24
  rotate_left
  · rw [if_neg (by omega)] at e4; rw [if_neg (fun q => h4 q.2.2)]; exact ⟨V, E_y e1 (E_y e2 (E_y e3 (E_gd hc (E_n e4 rfl)))), rT_refl⟩
  rw [if_pos (by omega)] at e4
  obtain ⟨V', g1, f1, o1⟩ := r_canDo (G := G) ho.1 hv.1 hv.2.1 ho.2.1 h1 h2 h3 h4
  rw [if_pos ⟨⟨h1, h2⟩, h3, h4⟩]
  exact ⟨V', E_y e1 (E_y e2 (E_y e3 (E_gd hc (E_y e4 (E_bd g1 (E_gd ⟨by omega, by omega⟩ (E_if (fun q => E_so rfl q.symm) (fun q => E_so rfl (by unfold canD; omega))))))))), f1⟩
/-- a thing kept -/
def e4 (e : Int × Int × Int × Int) (w : Int) : Int := if w = 0 then e.1 else if w = 1 then e.2.1 else if w = 2 then e.2.2.1 else e.2.2.2
def aKept (Z : mZ) (k w : Int) : Int := if (0 ≤ k ∧ k < ((me Z.2.1).length : Int)) ∧ (0 ≤ w ∧ w < 4) then e4 ((me Z.2.1).getD k.toNat e0) w else -1
theorem c_kept (hG : is9 G x) (ho : okZ Z) (hv : vZ G V x Z) {k w : Int} (hk : rg k) (hw : rg w) : F_X9_kept G x k w V = some (V, aKept Z k w) := by
  have hh := ho.2.1.1
  obtain ⟨-, -, -, -, ⟨b0, b1⟩, z1, z2, z3⟩ := hv.2.2.1
  have cnt : F_X4_keptCount G (x + 227) V = some (V, min (gI V (x + 227) 5) 40) := by
    unfold F_X4_keptCount; exact E_gd ⟨by omega, by omega⟩ rfl
  have key : F_X4_keptPart G (x + 227) k w V = some (V, aKept Z k w) := by
    unfold F_X4_keptPart aKept
    refine E_gd hk (E_if (fun q => E_so rfl (by rw [if_neg (by omega)])) (fun q => E_bd cnt (E_gd ⟨by omega, by omega⟩ (E_if (fun q2 => E_so rfl (by rw [if_neg (by omega)])) (fun q2 => E_gd hw (E_if (fun q3 => E_so rfl (by rw [if_neg (by omega)])) (fun q3 => E_if (fun q4 => ?_) (fun q4 => E_so rfl (by rw [if_neg (by omega)])))))))))
    have hl : k.toNat < (me Z.2.1).length := by omega
    obtain ⟨y0, y1, y2, y3⟩ := z3 k.toNat hl
    have e1 : (gI V (x + 227) 5 - min (gI V (x + 227) 5) 40 + k) = gI V (x + 227) 5 - ((me Z.2.1).length : Int) + ((k.toNat : Nat) : Int) := by omega
    refine E_bd cnt (E_lt (E_gd ⟨by omega, by omega⟩ ?_))
    rw [e1, Int.tmod_eq_emod_of_nonneg (by omega)]
    have hr : 0 ≤ (gI V (x + 227) 5 - ((me Z.2.1).length : Int) + ((k.toNat : Nat) : Int)) % 40 ∧ (gI V (x + 227) 5 - ((me Z.2.1).length : Int) + ((k.toNat : Nat) : Int)) % 40 < 40 := ⟨Int.emod_nonneg _ (by decide), Int.emod_lt_of_pos _ (by decide)⟩
    refine E_bd (p7_get (s4_4s (s9_8s hG)) (rw_rz (s4_4c (s9_8s hG)) z1 ⟨by decide, by decide⟩) ⟨by omega, by omega⟩) (E_so rfl ?_)
    rw [rget_in (by omega) (by rw [z1]; omega), if_pos ⟨⟨by omega, by omega⟩, by omega, by omega⟩]
    have : w = 0 ∨ w = 1 ∨ w = 2 ∨ w = 3 := by omega
    unfold e4
    rcases this with rfl | rfl | rfl | rfl
    · rw [if_pos rfl, Int.add_zero]; exact y0
    · rw [if_neg (by decide), if_pos rfl]; exact y1
    · rw [if_neg (by decide), if_neg (by decide), if_pos rfl]; exact y2
    · rw [if_neg (by decide), if_neg (by decide), if_neg (by decide)]; exact y3
  unfold F_X9_kept
  exact E_bd key rfl
theorem r_keptA (ho : okZ Z) (hv : rZ V m Z) {k w : Int} (hk : rg k) (hw : rg w) : F_X10_kept G m k w V = some (V, aKept Z k w) := by
  have hl := ho.2.1.2.2.2.2.2.2
  obtain ⟨-, -, -, z1, z2⟩ := hv.2.1
  unfold F_X10_kept aKept
  rw [z1]
  refine E_gd hk (E_gd ⟨by omega, by omega⟩ ?_)
  have i1 := r_isIn (G := G) (V := V) (x := k) (a := 0) (b := ((me Z.2.1).length : Int) - 1) ⟨by omega, by omega⟩ ⟨by decide, by decide⟩ ⟨by omega, by omega⟩
  have i2 := r_isIn (G := G) (V := V) (x := w) (a := 0) (b := 3) ⟨by omega, by omega⟩ ⟨by decide, by decide⟩ ⟨by decide, by decide⟩
  by_cases h1 : 0 ≤ k ∧ k < ((me Z.2.1).length : Int)
  rotate_left
  · rw [if_neg (by omega)] at i1; rw [if_neg (fun q => h1 q.1)]; exact E_n i1 rfl
  rw [if_pos (by omega)] at i1
  by_cases h2 : 0 ≤ w ∧ w < 4
  rotate_left
  · rw [if_neg (by omega)] at i2; rw [if_neg (fun q => h2 q.2)]; exact E_y i1 (E_gd hw (E_n i2 rfl))
  rw [if_pos (by omega)] at i2
  rw [if_pos ⟨h1, h2⟩]
  refine E_y i1 (E_gd hw (E_y i2 (E_gd ⟨by omega, by omega, by omega⟩ (E_so rfl ?_))))
  obtain ⟨y0, y1, y2, y3⟩ := z2 k.toNat (by omega)
  have : w = 0 ∨ w = 1 ∨ w = 2 ∨ w = 3 := by omega
  unfold e4
  rcases this with rfl | rfl | rfl | rfl
  · rw [if_pos rfl, show (122 + 4 * k + 0).toNat = 122 + 4 * k.toNat by omega]; exact y0
  · rw [if_neg (by decide), if_pos rfl, show (122 + 4 * k + 1).toNat = 123 + 4 * k.toNat by omega]; exact y1
  · rw [if_neg (by decide), if_neg (by decide), if_pos rfl, show (122 + 4 * k + 2).toNat = 124 + 4 * k.toNat by omega]; exact y2
  · rw [if_neg (by decide), if_neg (by decide), if_neg (by decide), show (122 + 4 * k + 3).toNat = 125 + 4 * k.toNat by omega]; exact y3
/-- counts of the reference -/
theorem r_countOf (ho : okC C) {w v : Int} {f : Int → Int} (hv : rC V m C) (h : ∀ (a : Int) (j : Int), 0 ≤ j → j < cn C → B_X10_countOf_4 G m w a j V = some (V, 0, (a + (if f j = v then 1 else 0), j + 1))) : F_X10_countOf G m w V = some (V, ci f v 0 (cn C).toNat) := by
  have hn := ho.1
  have key := E_for (B := fun (s : Int × Int) V => B_X10_countOf_4 G m w s.1 s.2 V) (t := 1) (by decide) (fun k => (ci f v 0 k, (k : Int))) (fun _ => V) (cn C).toNat ?_ ?_ FU (by unfold FU; omega)
  · unfold F_X10_countOf
    exact E_bd key rfl
  · intro k hk
    have := h (ci f v 0 k) (k : Int) (by omega) (by omega)
    have c := ci_snoc f v k 0
    rw [show (0 : Int) + (k : Int) = (k : Int) by omega] at c
    show B_X10_countOf_4 G m w (ci f v 0 k) (k : Int) V = some (V, 0, (ci f v 0 (k + 1), ((k + 1 : Nat) : Int)))
    rw [this, c]; rfl
  · show B_X10_countOf_4 G m w (ci f v 0 (cn C).toNat) (((cn C).toNat : Nat) : Int) V = _
    unfold B_X10_countOf_4
    exact E_bd (r_many hv) (E_gd ⟨by omega, by omega⟩ (E_gd ⟨by omega, by omega⟩ (E_if (fun _ => rfl) (fun q => by omega))))
theorem r_hasA (ho : okZ Z) (hv : rZ V m Z) {k : Int} (hk : rg k) : F_X10_has G m k V = some (V, aHas Z k) := by
  have hn := ho.1.1
  have j46 : ∀ {w a j : Int}, rg w → w ≠ 6 → F_X10_countOf_J46_4 G m w a j V = some (V, 0, (a, j + 1)) := by
    intro w a j hw h
    unfold F_X10_countOf_J46_4
    exact E_gd hw (E_if (fun q => absurd q h) (fun _ => E_lt rfl))
  have j29 : ∀ {w a j : Int}, rg w → w ≠ 6 → w ≠ 5 → F_X10_countOf_J29_4 G m w a j V = some (V, 0, (a, j + 1)) := by
    intro w a j hw h h5
    unfold F_X10_countOf_J29_4
    exact E_gd hw (E_if (fun q => absurd q h5) (fun _ => j46 hw h))
  have top : ∀ {w a j : Int} {r}, 0 ≤ j → j < cn Z.1 → rg w → w ≠ 4 → F_X10_countOf_J29_4 G m w a j V = r → B_X10_countOf_4 G m w a j V = r := by
    intro w a j r j0 j1 hw h e
    unfold B_X10_countOf_4
    exact E_bd (r_many hv.1) (E_gd ⟨by omega, by omega⟩ (E_gd ⟨by omega, by omega⟩ (E_if (fun q => by omega) (fun _ => E_gd hw (E_if (fun q => absurd q h) (fun _ => e))))))
  have c4 : F_X10_countOf G m 4 V = some (V, ci (ml Z.2.1) (-1) 0 (cn Z.1).toNat) := by
    refine r_countOf ho.1 hv.1 (fun a j j0 j1 => ?_)
    have hl := ho.2.1.2.1 j j0 j1
    unfold B_X10_countOf_4
    refine E_bd (r_many hv.1) (E_gd ⟨by omega, by omega⟩ (E_gd ⟨by omega, by omega⟩ (E_if (fun q => by omega) (fun _ => E_gd (by decide) (E_if (fun _ => E_bd (r_lives hv.2.1 hn.2 ⟨j0, j1⟩) (E_gd ⟨by omega, by omega⟩ (E_if (fun q => E_lt ?_) (fun q => ?_)))) (fun q => absurd rfl q))))))
    · rw [if_pos q]; exact j29 (by decide) (by decide) (by decide)
    · rw [if_neg q, Int.add_zero]; exact j29 (by decide) (by decide) (by decide)
  have c5 : F_X10_countOf G m 5 V = some (V, ci (fun l => fi (ml Z.2.1) l 0 (cn Z.1).toNat) (-1) 0 (cn Z.1).toNat) := by
    refine r_countOf ho.1 hv.1 (fun a j j0 j1 => top j0 j1 (by decide) (by decide) ?_)
    have hf := fi_rg (ml Z.2.1) j (cn Z.1).toNat 0
    unfold F_X10_countOf_J29_4
    refine E_gd (by decide) (E_if (fun _ => E_bd (r_who hv.1 ho.1 hv.2.1 ho.2.1 ⟨by omega, by omega⟩) (E_gd ⟨by omega, by omega⟩ (E_if (fun q => E_lt ?_) (fun q => ?_)))) (fun q => absurd rfl q))
    · rw [if_pos q]; exact j46 (by decide) (by decide)
    · rw [if_neg q, Int.add_zero]; exact j46 (by decide) (by decide)
  have c6 : F_X10_countOf G m 6 V = some (V, ci (els (ml Z.2.1)) 1 0 (cn Z.1).toNat) := by
    refine r_countOf ho.1 hv.1 (fun a j j0 j1 => top j0 j1 (by decide) (by decide) ?_)
    have hl := ho.2.1.2.1 j j0 j1
    unfold F_X10_countOf_J29_4
    refine E_gd (by decide) (E_if (fun q => absurd q (by decide)) (fun _ => ?_))
    unfold F_X10_countOf_J46_4
    have lv := r_lives (G := G) hv.2.1 hn.2 (p := j) ⟨j0, j1⟩
    refine E_gd (by decide) (E_if (fun _ => E_bd lv (E_gd ⟨by omega, by omega⟩ (E_if (fun q => E_lt ?_) (fun q => E_bd lv (E_gd ⟨by omega, by omega⟩ (E_gd ⟨by omega, by omega⟩ (E_if (fun q2 => E_lt ?_) (fun q2 => E_lt (E_lt ?_))))))))) (fun q => absurd rfl q))
    · have z : els (ml Z.2.1) j = 0 := by unfold els; rw [if_pos q]
      rw [z, if_neg (by decide), Int.add_zero]
    · have z : els (ml Z.2.1) j = 0 := by unfold els; rw [if_neg q, if_pos q2]
      rw [z, if_neg (by decide), Int.add_zero]
    · have z : els (ml Z.2.1) j = 1 := by unfold els; rw [if_neg q, if_neg q2]
      rw [z, if_pos rfl]
  unfold F_X10_has aHas
  refine E_gd hk ?_
  by_cases k0 : k = 0
  · rw [if_pos k0, if_pos k0]; exact E_bd (r_many hv.1) rfl
  rw [if_neg k0, if_neg k0]
  by_cases k1 : k = 1
  · rw [if_pos k1, if_pos k1]; exact E_so rfl hv.1.1.2.1
  rw [if_neg k1, if_neg k1]
  by_cases k2 : k = 2
  · rw [if_pos k2, if_pos k2]; exact E_bd (r_dmany hv.1) rfl
  rw [if_neg k2, if_neg k2]
  by_cases k3 : k = 3
  · rw [if_pos k3, if_pos k3]; exact E_so rfl hv.2.1.1
  rw [if_neg k3, if_neg k3]
  by_cases k4 : k = 4
  · rw [if_pos k4, if_pos (Or.inl k4), k4]; exact E_bd c4 rfl
  rw [if_neg k4]
  by_cases k5 : k = 5
  · rw [if_pos k5, if_pos (Or.inr k5), k5]
    exact E_bd c5 (E_so rfl (nobody_n hn.1 ho.2.1.L))
  rw [if_neg k5, if_neg (show ¬ (k = 4 ∨ k = 5) from fun q => q.elim k4 k5)]
  by_cases k6 : k = 6
  · rw [if_pos k6, if_pos k6, k6]; exact E_bd c6 rfl
  rw [if_neg k6, if_neg k6]
  by_cases k7 : k = 7
  · rw [if_pos k7, if_pos k7]; exact E_so rfl hv.2.1.2.2.2.1
  rw [if_neg k7, if_neg k7]
  by_cases k8 : k = 8
  · rw [if_pos k8, if_pos k8]; exact E_so rfl hv.2.2.1.1
  rw [if_neg k8, if_neg k8]
end

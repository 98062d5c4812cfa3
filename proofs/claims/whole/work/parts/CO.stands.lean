/-! a city stands: the other side -/
section
variable {G : mG} {V V' : mV} {m : Nat} {C : mCy} {T : mT2}
theorem rC.hf (h : rC V m C) (k : rHf m V V') : rC V' m C := by
  obtain ⟨⟨a1, a2, a3⟩, b, c, d, e, ⟨f0, f1, f2, f3⟩, g1, g2, g3⟩ := h
  have q : ∀ a j, 27 ≤ a → a ≤ 36 → hfA a ≤ j → gA V' (m + a) j = gA V (m + a) j := k.1
  have rf : ∀ {w : Nat} {cs : List Int}, rF V m w cs → rF V' m w cs := by
    intro w cs h
    unfold rF at h ⊢
    rw [q 34 (4 + w) (by decide) (by decide) (by show 4 ≤ 4 + w; omega), q 35 (4 + w) (by decide) (by decide) (by show 4 ≤ 4 + w; omega)]
    rcases h with h | ⟨h1, a, b, h2, h3, h4, h5, h6⟩
    · exact Or.inl h
    · exact Or.inr ⟨h1, a, b, h2, h3, h4, h5, clr_cg (fun j => q 36 (1600 + j) (by decide) (by decide) (by show 1600 ≤ 1600 + j; omega)) h6⟩
  refine ⟨⟨?_, ?_, ?_⟩, fun p p0 p1 => ?_, fun t t0 t1 => ?_, fun j hj => ⟨?_, ?_, ?_⟩, fun p p0 p1 => ⟨?_, ?_⟩, ⟨rf f0, rf f1, rf f2, rf f3⟩, fun p p0 p1 => ?_, fun t t0 t1 => ?_, fun x y x0 x1 y0 y1 => ?_⟩
  · rw [q 27 _ (by decide) (by decide) (by decide)]; exact a1
  · rw [q 27 _ (by decide) (by decide) (by decide)]; exact a2
  · rw [q 27 _ (by decide) (by decide) (by decide)]; exact a3
  · rw [q 29 _ (by decide) (by decide) (by show 20 ≤ _; omega)]; exact b p p0 p1
  · rw [q 29 _ (by decide) (by decide) (by show 20 ≤ _; omega)]; exact c t t0 t1
  · rw [q 30 _ (by decide) (by decide) (by show 72 ≤ _; omega)]; exact (d j hj).1
  · rw [q 30 _ (by decide) (by decide) (by show 72 ≤ _; omega)]; exact (d j hj).2.1
  · rw [q 30 _ (by decide) (by decide) (by show 72 ≤ _; omega)]; exact (d j hj).2.2
  · rw [q 31 _ (by decide) (by decide) (by show 10 ≤ _; omega)]; exact (e p p0 p1).1
  · rw [q 32 _ (by decide) (by decide) (by show 10 ≤ _; omega)]; exact (e p p0 p1).2
  · rw [k.2 _ (by omega)]; exact g1 p p0 p1
  · rw [k.2 _ (by omega)]; exact g2 t t0 t1
  · rw [q 33 _ (by decide) (by decide) (by show 100 ≤ _; omega)]; exact g3 x y x0 x1 y0 y1
theorem aCi_ln (hT : tOk T) : ∀ (f : Nat) (C : mCy) (p : Nat), okS C → lnC C ≤ p → p ≤ T.2 → ∀ y, aCi T f C p = .inr y → lnC y.1 ≤ T.2
  | 0, C, p, h, hl, hp, y, e => by
    unfold aCi at e
    cases e; exact Nat.le_trans hl hp
  | f + 1, C, p, h, hl, hp, y, e => by
    unfold aCi at e
    by_cases c : kdT T p = 3
    · rw [if_pos c] at e; cases e; exact Nat.le_trans hl hp
    rw [if_neg c] at e
    have hp2 : p < T.2 := by
      rcases Nat.lt_or_ge p T.2 with q | q
      · exact q
      · exact absurd (by unfold kdT; rw [if_pos q]) c
    cases hA : aSt C T p with
    | inl x => rw [hA] at e; cases e
    | inr x =>
      rw [hA] at e
      obtain ⟨C', p'⟩ := x
      have a := aSt_ok hT h hp2 hA
      exact aCi_ln hT f C' p' a.1 (a.2.2 hl) a.2.1.2 y e
/-- what is built is put where it stands -/
def cpd (A L : Nat → Prop) [DecidablePred A] [DecidablePred L] (N K : Nat) (V U : mV) : Prop := gI U = gI V ∧ gJ U = gJ V ∧ (∀ i j, gA U i j = if A i ∧ N ≤ j ∧ j < N + K then gA V i (j - N) else gA V i j) ∧ ∀ i j, gL U i j = if L i ∧ N ≤ j ∧ j < N + K then gL V i (j - N) else gL V i j
def upc (A L : Nat → Prop) [DecidablePred A] [DecidablePred L] (N k : Nat) (V U : mV) : Prop := gI U = gI V ∧ gJ U = gJ V ∧ (∀ i j, gA U i j = if A i ∧ j = N + k then gA V i k else gA V i j) ∧ ∀ i j, gL U i j = if L i ∧ j = N + k then gL V i k else gL V i j
theorem cpd_s {A L : Nat → Prop} [DecidablePred A] [DecidablePred L] {N k : Nat} {U U' : mV} (h : cpd A L N k V U) (u : upc A L N k U U') (hk : k < N) : cpd A L N (k + 1) V U' := by
  obtain ⟨h1, h2, h3, h4⟩ := h
  obtain ⟨u1, u2, u3, u4⟩ := u
  refine ⟨u1.trans h1, u2.trans h2, fun i j => ?_, fun i j => ?_⟩
  · rw [u3]
    by_cases c : A i ∧ j = N + k
    · rw [if_pos c, h3, if_neg (by omega), if_pos ⟨c.1, by omega, by omega⟩, c.2, Nat.add_sub_cancel_left]
    · rw [if_neg c, h3]
      by_cases d : A i ∧ N ≤ j ∧ j < N + k
      · rw [if_pos d, if_pos ⟨d.1, d.2.1, by omega⟩]
      · rw [if_neg d, if_neg (fun q => by
          by_cases e : j = N + k
          · exact c ⟨q.1, e⟩
          · exact d ⟨q.1, q.2.1, by omega⟩)]
  · rw [u4]
    by_cases c : L i ∧ j = N + k
    · rw [if_pos c, h4, if_neg (by omega), if_pos ⟨c.1, by omega, by omega⟩, c.2, Nat.add_sub_cancel_left]
    · rw [if_neg c, h4]
      by_cases d : L i ∧ N ≤ j ∧ j < N + k
      · rw [if_pos d, if_pos ⟨d.1, d.2.1, by omega⟩]
      · rw [if_neg d, if_neg (fun q => by
          by_cases e : j = N + k
          · exact c ⟨q.1, e⟩
          · exact d ⟨q.1, q.2.1, by omega⟩)]
theorem l_cpd {A L : Nat → Prop} [DecidablePred A] [DecidablePred L] {N K : Nat} {B : Int → mV → Option (mV × Nat × Int)} (hKN : K ≤ N) (hF : K < FU) (h0 : ∀ U, gI U = gI V → B (K : Int) U = some (U, 1, (K : Int))) (hs : ∀ (k : Nat) U, k < K → gI U = gI V → ∃ U', B (k : Int) U = some (U', 0, ((k + 1 : Nat) : Int)) ∧ upc A L N k U U') :
    ∃ U, lp B FU 0 V = some (U, 1, (K : Int)) ∧ cpd A L N K V U := by
  have c0 : cpd A L N 0 V V := ⟨rfl, rfl, fun i j => by rw [if_neg (by omega)], fun i j => by rw [if_neg (by omega)]⟩
  have main : Wp (lp B FU 0 V) (fun U q => q = (1, (K : Int)) ∧ cpd A L N K V U) := by
    refine W_lp (fun w (y : Int) U => ∃ k : Nat, y = (k : Int) ∧ k + w = K ∧ cpd A L N k V U) ?_ FU K _ V ⟨0, rfl, by omega, c0⟩ hF
    rintro w y U ⟨k, rfl, hw, hc⟩
    by_cases e : k = K
    · rw [e] at hc ⊢
      exact ⟨U, (1, (K : Int)), h0 U hc.1, Or.inr ⟨Nat.one_ne_zero, rfl, hc⟩⟩
    · obtain ⟨U', e1, u1⟩ := hs k U (by omega) hc.1
      exact ⟨U', (0, ((k + 1 : Nat) : Int)), e1, Or.inl ⟨rfl, w - 1, by omega, k + 1, rfl, by omega, cpd_s hc u1 (by omega)⟩⟩
  obtain ⟨U, q, e, rfl, hc⟩ := main
  exact ⟨U, e, hc⟩
theorem upc_A {a N k : Nat} {L : Nat → Prop} [DecidablePred L] (hL : ∀ i, ¬ L i) {v : Int} (hv : v = gA V a k) : upc (fun i => i = a) L N k V (sA V a (N + k) v) :=
  ⟨rfl, rfl, fun i j => by
    rw [gA_sA, hv]
    by_cases c : i = a ∧ j = N + k
    · rw [if_pos c, if_pos c, c.1]
    · rw [if_neg c, if_neg c], fun i j => by rw [if_neg (fun q => hL i q.1)]; rfl⟩
theorem upc_AA {a b N k : Nat} {L : Nat → Prop} [DecidablePred L] (hL : ∀ i, ¬ L i) (hab : a ≠ b) {v w : Int} (hv : v = gA V a k) (hw : w = gA V b k) : upc (fun i => i = a ∨ i = b) L N k V (sA (sA V a (N + k) v) b (N + k) w) :=
  ⟨rfl, rfl, fun i j => by
    rw [gA_sA, gA_sA, hv, hw]
    by_cases c : i = b ∧ j = N + k
    · rw [if_pos c, if_pos ⟨Or.inr c.1, c.2⟩, c.1]
    · rw [if_neg c]
      by_cases d : i = a ∧ j = N + k
      · rw [if_pos d, if_pos ⟨Or.inl d.1, d.2⟩, d.1]
      · rw [if_neg d, if_neg (fun q => q.1.elim (fun q1 => d ⟨q1, q.2⟩) (fun q1 => c ⟨q1, q.2⟩))], fun i j => by rw [if_neg (fun q => hL i q.1)]; rfl⟩
theorem upc_LA {a b N k : Nat} {v w : Int} (hv : v = gL V a k) (hw : w = gA V b k) : upc (fun i => i = b) (fun i => i = a) N k V (sA (sL V a (N + k) v) b (N + k) w) :=
  ⟨rfl, rfl, fun i j => by
    rw [gA_sA, hw]
    by_cases c : i = b ∧ j = N + k
    · rw [if_pos c, if_pos c, c.1]
    · rw [if_neg c, if_neg c]; rfl, fun i j => by
    show gL (sL V a (N + k) v) i j = _
    rw [gL_sL, hv]
    by_cases c : i = a ∧ j = N + k
    · rw [if_pos c, if_pos c, c.1]
    · rw [if_neg c, if_neg c]⟩
theorem l_st1 : ∃ U, lp (fun (s : Int) V => B_X10_stands_2 G m s V) FU 0 V = some (U, 1, ((3 : Nat) : Int)) ∧ cpd (fun i => i = m + 27) (fun _ => False) 3 3 V U := by
  refine l_cpd (Nat.le_refl _) (by unfold FU; decide) (fun U _ => ?_) (fun k U hk _ => ⟨_, ?_, upc_A (fun _ => id) rfl⟩)
  · show B_X10_stands_2 G m 3 U = _
    unfold B_X10_stands_2
    exact E_gd (by decide) (E_if (fun _ => rfl) (fun q => absurd (by decide) q))
  · unfold B_X10_stands_2
    refine E_gd ⟨by omega, by omega⟩ (E_if (fun q => by omega) (fun _ => E_gd ⟨by omega, by omega, by omega⟩ (E_gd ⟨by omega, by omega, by omega⟩ (E_lt (E_lt (E_so ?_ rfl))))))
    rw [show (3 + (k : Int)).toNat = 3 + k by omega, Int.toNat_natCast]
theorem l_st2 : ∃ U, lp (fun (s : Int) V => B_X10_stands_29 G m s V) FU 0 V = some (U, 1, ((20 : Nat) : Int)) ∧ cpd (fun i => i = m + 29) (fun i => i = m + 28) 20 20 V U := by
  refine l_cpd (Nat.le_refl _) (by unfold FU; decide) (fun U _ => ?_) (fun k U hk _ => ⟨_, ?_, upc_LA rfl rfl⟩)
  · show B_X10_stands_29 G m 20 U = _
    unfold B_X10_stands_29
    exact E_gd (by decide) (E_if (fun _ => rfl) (fun q => absurd (by decide) q))
  · unfold B_X10_stands_29
    refine E_gd ⟨by omega, by omega⟩ (E_if (fun q => by omega) (fun _ => E_gd ⟨by omega, by omega, by omega⟩ (E_gd ⟨by omega, by omega, by omega⟩ (E_lt (E_lt (E_lt (E_so ?_ rfl)))))))
    rw [show (20 + (k : Int)).toNat = 20 + k by omega, Int.toNat_natCast]; rfl
theorem l_st3 : ∃ U, lp (fun (s : Int) V => B_X10_stands_73 G m s V) FU 0 V = some (U, 1, ((72 : Nat) : Int)) ∧ cpd (fun i => i = m + 30) (fun _ => False) 72 72 V U := by
  refine l_cpd (Nat.le_refl _) (by unfold FU; decide) (fun U _ => ?_) (fun k U hk _ => ⟨_, ?_, upc_A (fun _ => id) rfl⟩)
  · show B_X10_stands_73 G m 72 U = _
    unfold B_X10_stands_73
    exact E_gd (by decide) (E_if (fun _ => rfl) (fun q => absurd (by decide) q))
  · unfold B_X10_stands_73
    refine E_gd ⟨by omega, by omega⟩ (E_if (fun q => by omega) (fun _ => E_gd ⟨by omega, by omega, by omega⟩ (E_gd ⟨by omega, by omega, by omega⟩ (E_lt (E_lt (E_so ?_ rfl))))))
    rw [show (72 + (k : Int)).toNat = 72 + k by omega, Int.toNat_natCast]
theorem l_st4 : ∃ U, lp (fun (s : Int) V => B_X10_stands_102 G m s V) FU 0 V = some (U, 1, ((10 : Nat) : Int)) ∧ cpd (fun i => i = m + 31 ∨ i = m + 32) (fun _ => False) 10 10 V U := by
  refine l_cpd (Nat.le_refl _) (by unfold FU; decide) (fun U _ => ?_) (fun k U hk _ => ⟨_, ?_, upc_AA (fun _ => id) (by omega) rfl rfl⟩)
  · show B_X10_stands_102 G m 10 U = _
    unfold B_X10_stands_102
    exact E_gd (by decide) (E_if (fun _ => rfl) (fun q => absurd (by decide) q))
  · unfold B_X10_stands_102
    refine E_gd ⟨by omega, by omega⟩ (E_if (fun q => by omega) (fun _ => E_gd ⟨by omega, by omega, by omega⟩ (E_gd ⟨by omega, by omega, by omega⟩ (E_lt (E_lt (E_lt (E_so ?_ rfl)))))))
    rw [show (10 + (k : Int)).toNat = 10 + k by omega, Int.toNat_natCast, gA_sAo (show m + 32 ≠ m + 31 by omega)]
theorem l_st5 : ∃ U, lp (fun (s : Int) V => B_X10_stands_146 G m s V) FU 0 V = some (U, 1, ((100 : Nat) : Int)) ∧ cpd (fun i => i = m + 33) (fun _ => False) 100 100 V U := by
  refine l_cpd (Nat.le_refl _) (by unfold FU; decide) (fun U _ => ?_) (fun k U hk _ => ⟨_, ?_, upc_A (fun _ => id) rfl⟩)
  · show B_X10_stands_146 G m 100 U = _
    unfold B_X10_stands_146
    exact E_gd (by decide) (E_if (fun _ => rfl) (fun q => absurd (by decide) q))
  · unfold B_X10_stands_146
    refine E_gd ⟨by omega, by omega⟩ (E_if (fun q => by omega) (fun _ => E_gd ⟨by omega, by omega, by omega⟩ (E_gd ⟨by omega, by omega, by omega⟩ (E_lt (E_lt (E_so ?_ rfl))))))
    rw [show (100 + (k : Int)).toNat = 100 + k by omega, Int.toNat_natCast]
theorem l_st6 : ∃ U, lp (fun (s : Int) V => B_X10_stands_175 G m s V) FU 0 V = some (U, 1, ((4 : Nat) : Int)) ∧ cpd (fun i => i = m + 34 ∨ i = m + 35) (fun _ => False) 4 4 V U := by
  refine l_cpd (Nat.le_refl _) (by unfold FU; decide) (fun U _ => ?_) (fun k U hk _ => ⟨_, ?_, upc_AA (fun _ => id) (by omega) rfl rfl⟩)
  · show B_X10_stands_175 G m 4 U = _
    unfold B_X10_stands_175
    exact E_gd (by decide) (E_if (fun _ => rfl) (fun q => absurd (by decide) q))
  · unfold B_X10_stands_175
    refine E_gd ⟨by omega, by omega⟩ (E_if (fun q => by omega) (fun _ => E_gd ⟨by omega, by omega, by omega⟩ (E_gd ⟨by omega, by omega, by omega⟩ (E_lt (E_lt (E_lt (E_so ?_ rfl)))))))
    rw [show (4 + (k : Int)).toNat = 4 + k by omega, Int.toNat_natCast, gA_sAo (show m + 35 ≠ m + 34 by omega)]
theorem l_st7 {K : Nat} (hK : gI V m 46 = (K : Int)) (hK2 : K ≤ 1600) : ∃ U, lp (fun (s : Int) V => B_X10_stands_216 G m s V) FU 0 V = some (U, 1, (K : Int)) ∧ cpd (fun i => i = m + 36) (fun _ => False) 1600 K V U := by
  refine l_cpd hK2 (by unfold FU; omega) (fun U hU => ?_) (fun k U hk hU => ⟨_, ?_, upc_A (fun _ => id) rfl⟩)
  · unfold B_X10_stands_216
    rw [hU, hK]
    exact E_gd ⟨by omega, by omega⟩ (E_gd ⟨by omega, by omega⟩ (E_if (fun _ => rfl) (fun q => absurd (Int.le_refl _) q)))
  · unfold B_X10_stands_216
    rw [hU, hK]
    refine E_gd ⟨by omega, by omega⟩ (E_gd ⟨by omega, by omega⟩ (E_if (fun q => by omega) (fun _ => E_gd ⟨by omega, by omega, by omega⟩ (E_gd ⟨by omega, by omega, by omega⟩ (E_lt (E_lt (E_so ?_ rfl)))))))
    rw [show (1600 + (k : Int)).toNat = 1600 + k by omega, Int.toNat_natCast]
end

/-! a question read (reference) -/
section
variable {G : mG} {V : mV} {m : Nat} {T : mT2} {p : Nat}
/-- one word tried -/
theorem r_tk1 (hT : tOk T) (hG : is10 G m) (hw : rWd V m) {k w : Nat} (hk : isW k) (hwk : awk k = w) (h : rs10 V m T (.inr p)) : ∃ V', F_X10_takes G m (m + k) V = some (V', if nmT T p = (w : Int) then 1 else 0) ∧ rLk m V V' ∧ rWd V' m ∧ rs10 V' m T (.inr (if nmT T p = (w : Int) then nxT T p else p)) := by
  have h33 : w < 33 := by
    rw [← hwk]
    have : k < 68 := by unfold isW at hk; omega
    exact awk_len ⟨k, this⟩
  obtain ⟨V1, e1, k1, r1, -⟩ := r_tkW (G := G) (a := m + k) hT h33 (by rw [qG_w hG k hk, hwk]) (by have := hw k hk; rw [hwk] at this; exact this) h.1 h.2
  exact ⟨V1, e1, k1, hw.of (fun i _ => by rw [k1.1]), r1⟩
/-- the kind of a question -/
theorem r_kind (hT : tOk T) (hG : is10 G m) (hw : rWd V m) (h : rs10 V m T (.inr p)) :
    ∃ V' k, F_X10_qKind G m V = some (V', k) ∧ rLk m V V' ∧ rWd V' m ∧ ((24 ≤ nmT T p ∧ nmT T p ≤ 29 ∧ k = nmT T p - 24 ∧ rs10 V' m T (.inr (nxT T p))) ∨ (¬ (24 ≤ nmT T p ∧ nmT T p ≤ 29) ∧ k = 5 ∧ rs10 V' m T (.inl (1, (p : Int))))) := by
  have j76 : ∀ {s : Int} {U : mV}, rg s → s ≠ 5 → F_X10_qKind_J76 G m s U = some (U, s) := by
    intro s U hs h5
    unfold F_X10_qKind_J76
    exact E_gd hs (E_if (fun q => absurd q h5) (fun _ => rfl))
  unfold F_X10_qKind
  obtain ⟨V1, e1, k1, w1, r1⟩ := r_tk1 hT hG hw (k := 46) (w := 24) (by unfold isW; omega) rfl h
  by_cases c1 : nmT T p = ((24 : Nat) : Int)
  · rw [if_pos c1] at e1 r1
    exact ⟨V1, 0, E_y e1 (j76 ⟨by decide, by decide⟩ (by decide)), k1, w1, Or.inl ⟨by omega, by omega, by omega, r1⟩⟩
  rw [if_neg c1] at e1 r1
  obtain ⟨V2, e2, k2, w2, r2⟩ := r_tk1 hT hG w1 (k := 47) (w := 25) (by unfold isW; omega) rfl r1
  by_cases c2 : nmT T p = ((25 : Nat) : Int)
  · rw [if_pos c2] at e2 r2
    exact ⟨V2, 1, E_n e1 (E_y e2 (j76 ⟨by decide, by decide⟩ (by decide))), k1.trans k2, w2, Or.inl ⟨by omega, by omega, by omega, r2⟩⟩
  rw [if_neg c2] at e2 r2
  obtain ⟨V3, e3, k3, w3, r3⟩ := r_tk1 hT hG w2 (k := 48) (w := 26) (by unfold isW; omega) rfl r2
  by_cases c3 : nmT T p = ((26 : Nat) : Int)
  · rw [if_pos c3] at e3 r3
    exact ⟨V3, 2, E_n e1 (E_n e2 (E_y e3 (j76 ⟨by decide, by decide⟩ (by decide)))), (k1.trans k2).trans k3, w3, Or.inl ⟨by omega, by omega, by omega, r3⟩⟩
  rw [if_neg c3] at e3 r3
  obtain ⟨V4, e4, k4, w4, r4⟩ := r_tk1 hT hG w3 (k := 49) (w := 27) (by unfold isW; omega) rfl r3
  by_cases c4 : nmT T p = ((27 : Nat) : Int)
  · rw [if_pos c4] at e4 r4
    exact ⟨V4, 3, E_n e1 (E_n e2 (E_n e3 (E_y e4 (j76 ⟨by decide, by decide⟩ (by decide))))), ((k1.trans k2).trans k3).trans k4, w4, Or.inl ⟨by omega, by omega, by omega, r4⟩⟩
  rw [if_neg c4] at e4 r4
  obtain ⟨V5, e5, k5, w5, r5⟩ := r_tk1 hT hG w4 (k := 50) (w := 28) (by unfold isW; omega) rfl r4
  have k15 : rLk m V V5 := (((k1.trans k2).trans k3).trans k4).trans k5
  by_cases c5 : nmT T p = ((28 : Nat) : Int)
  · rw [if_pos c5] at e5 r5
    exact ⟨V5, 4, E_n e1 (E_n e2 (E_n e3 (E_n e4 (E_y e5 (j76 ⟨by decide, by decide⟩ (by decide)))))), k15, w5, Or.inl ⟨by omega, by omega, by omega, r5⟩⟩
  rw [if_neg c5] at e5 r5
  have i51 : isW 51 := by unfold isW; omega
  have w51 : awk 51 = 29 := rfl
  obtain ⟨V6, e6, k6, r6⟩ := r_asks (G := G) (a := m + 51) (w := 29) hT (by decide) (by rw [qG_w hG 51 i51, w51]) (by have := w5 51 i51; rw [w51] at this; exact this) r5.1 r5.2
  have fin : F_X10_qKind_J76 G m 5 V5 = some (V6, 5) := by
    unfold F_X10_qKind_J76
    exact E_gd ⟨by decide, by decide⟩ (E_if (fun _ => E_bd e6 rfl) (fun q => absurd rfl q))
  refine ⟨V6, 5, E_n e1 (E_n e2 (E_n e3 (E_n e4 (E_n e5 fin)))), k15.trans k6, w5.of (fun i _ => by rw [k6.1]), ?_⟩
  unfold nWd at r6
  by_cases c6 : nmT T p = ((29 : Nat) : Int)
  · rw [if_pos c6] at r6
    exact Or.inl ⟨by omega, by omega, by omega, r6⟩
  · rw [if_neg c6] at r6
    exact Or.inr ⟨by omega, rfl, r6⟩
/-- what the reference has of a question -/
def rQa (V : mV) (m : Nat) (T : mT2) (k : Int) (y : (Int × Int) ⊕ (Int × List Int)) : Prop := match y with
  | .inl e => rs10 V m T (.inl e)
  | .inr y => k = y.1 ∧ gI V m 5 = 0 ∧ gI V m 98 = (y.2.length : Int) ∧ clr (gA V (m + 68)) 0 y.2
/-- the text's end asked -/
theorem r_qend (hT : tOk T) {x k : Int} {q : Nat} (ra : rA V m T q) (h5 : gI V m 5 = 0) (hI : Ik m 5 V) :
    ∃ V', F_X10_ask_J110 G m x k V = F_X10_ask_J134 G m x k V' ∧ rLk m V V' ∧ Ik m 5 V' ∧ (if kdT T q = 3 then gI V' m 5 = 0 else rs10 V' m T (.inl (1, (q : Int)))) := by
  obtain ⟨V1, e1, k1, ra1, p1, q1, -⟩ := r_look (G := G) hT ra
  have l := lkc_rg (T := T) (p := q) hT
  have I1 := pk_F_X10_look hI _ _ e1
  have h51 : gI V1 m 5 = 0 := q1.trans h5
  have kd3 : lkc T q = -1 ↔ kdT T q = 3 := by
    rw [kd_out]
    unfold lkc
    by_cases z : q < T.2
    · rw [if_pos z]
      have := hT.2 q z
      constructor <;> intro w <;> omega
    · rw [if_neg z]
      constructor
      · intro _; omega
      · intro _; rfl
  by_cases z : kdT T q = 3
  · refine ⟨V1, ?_, k1, I1, by rw [if_pos z]; exact h51⟩
    unfold F_X10_ask_J110
    exact E_gd (by rw [h5]; decide) (E_if (fun _ => E_bd e1 (E_gd l.1 (E_if (fun _ => rfl) (fun w => absurd (kd3.mpr z) w)))) (fun w => absurd h5 w))
  · obtain ⟨V2, e2, k2, r2⟩ := r_fail (G := G) (T := T) h51 (k := 1) (w := gI V1 m 2) ⟨by decide, by decide⟩
    refine ⟨V2, ?_, k1.trans k2, pk_F_X10_fail (by decide) _ I1 _ _ e2, ?_⟩
    · unfold F_X10_ask_J110
      exact E_gd (by rw [h5]; decide) (E_if (fun _ => E_bd e1 (E_gd l.1 (E_if (fun w => absurd (kd3.mp w) z) (fun _ => E_bd e2 rfl)))) (fun w => absurd h5 w))
    · rw [if_neg z, ← p1]; exact r2
/-- a question, up to its end -/
theorem r_quest (hT : tOk T) (hG : is10 G m) (hw : rWd V m) (h : rs10 V m T (.inr (bsk T 0))) (h48 : gI V m 48 = ((3 : Nat) : Int)) (h98 : gI V m 98 = 0) (h100 : gI V m 100 = 0) (h101 : gI V m 101 = 0) (h102 : gI V m 102 = 0) (hI : Ik m 5 V) {x : Int} :
    ∃ V' k, (bd (F_X10_qKind G m V) fun V17 v18 =>
  gd (rg (gI V17 m 5)) <|
  if (gI V17 m 5) = 0 then (gd (rg v18) <|
  if 3 ≤ v18 then (F_X10_ask_J99 G m x v18 V17) else (bd (F_X10_qTest G m V17) fun V82 v83 =>
  F_X10_ask_J110 G m x v18 V82)) else (F_X10_ask_J99 G m x v18 V17)) = F_X10_ask_J134 G m x k V' ∧ rB m V V' ∧ Ik m 5 V' ∧ rQa V' m T k (aQu T) := by
  obtain ⟨V1, k, e1, k1, w1, hk⟩ := r_kind hT hG hw h
  have I1 := pk_F_X10_qKind hI _ _ e1
  unfold aQu
  rcases hk with ⟨c1, c2, ck, r1⟩ | ⟨c, ck, r1⟩
  · rw [if_pos ⟨c1, c2⟩]
    have pn := rA_le r1.1
    have i1 : ∀ j, j ≠ 2 → j ≠ 4 → j ≠ 5 → j ≠ 6 → j ≠ 10 → j ≠ 35 → gI V1 m j = gI V m j := fun j a b c d e f => k1.2.2.2 m j (by omega)
    have r0 : rW0 V1 m T 3 [] 0 (nxT T (bsk T 0)) 0 [] := by
      refine ⟨r1.1, r1.2, by rw [i1 48 (by decide) (by decide) (by decide) (by decide) (by decide) (by decide)]; exact h48, w1, ⟨?_, trivial, ?_, ?_, ?_, trivial, (fun a ha => by cases ha), by decide⟩, ⟨Nat.le_refl _, by decide⟩, Nat.zero_le _⟩
      · rw [i1 100 (by decide) (by decide) (by decide) (by decide) (by decide) (by decide)]; exact h100
      · rw [i1 102 (by decide) (by decide) (by decide) (by decide) (by decide) (by decide)]; exact h102
      · rw [i1 101 (by decide) (by decide) (by decide) (by decide) (by decide) (by decide)]; exact h101
      · rw [i1 98 (by decide) (by decide) (by decide) (by decide) (by decide) (by decide)]; exact h98
    -- the descent, then the end
    have rdr : ∃ V2, ((gd (rg (gI V1 m 5)) <|
  if (gI V1 m 5) = 0 then (gd (rg k) <|
  if 3 ≤ k then (F_X10_ask_J99 G m x k V1) else (bd (F_X10_qTest G m V1) fun V82 v83 =>
  F_X10_ask_J110 G m x k V82)) else (F_X10_ask_J99 G m x k V1)) = F_X10_ask_J110 G m x k V2) ∧ rB m V1 V2 ∧ Ik m 5 V2 ∧ ((∃ e, rd (kT 3 T) 64 (if nmT T (bsk T 0) ≤ 26 then 0 else 3) 0 (nxT T (bsk T 0)) = .inl e ∧ rs10 V2 m T (.inl e)) ∨ ∃ c q, rd (kT 3 T) 64 (if nmT T (bsk T 0) ≤ 26 then 0 else 3) 0 (nxT T (bsk T 0)) = .inr (c, q) ∧ rA V2 m T q ∧ gI V2 m 5 = 0 ∧ gI V2 m 98 = (c.length : Int) ∧ clr (gA V2 (m + 68)) 0 c) := by
      by_cases w2 : nmT T (bsk T 0) ≤ 26
      · rw [if_pos w2]
        obtain ⟨V2, e2, k2, rs⟩ := r_test (G := G) hT hG (by decide) r0
        refine ⟨V2, E_gd (by rw [r1.2]; decide) (E_if (fun _ => E_gd ⟨by omega, by omega⟩ (E_if (fun w => absurd w (by omega)) (fun _ => E_bd e2 rfl))) (fun w => absurd r1.2 w)), k2, pk_F_X10_qTest I1 _ _ e2, ?_⟩
        rcases rs with ⟨e, a, b⟩ | ⟨c, q, o', a, b, d⟩
        · exact Or.inl ⟨e, a, b.1⟩
        · exact Or.inr ⟨c, q, a, d.1, d.2.1, d.2.2.2.2.1.2.2.2.2.1, d.2.2.2.2.1.2.2.2.2.2.1⟩
      · rw [if_neg w2]
        obtain ⟨V2, e2, k2, rs⟩ := r_sums (G := G) hT hG (by decide) (fun a S' q => by cases q) r0
        have j99 : F_X10_ask_J99 G m x k V1 = F_X10_ask_J110 G m x k V2 := by
          unfold F_X10_ask_J99
          exact E_gd (by rw [r1.2]; decide) (E_if (fun _ => E_bd e2 rfl) (fun w => absurd r1.2 w))
        refine ⟨V2, E_gd (by rw [r1.2]; decide) (E_if (fun _ => E_gd ⟨by omega, by omega⟩ (E_if (fun _ => j99) (fun w => absurd (show 3 ≤ k by omega) w))) (fun w => absurd r1.2 w)), k2, pk_F_X10_qSums I1 _ _ e2, ?_⟩
        rcases rs with ⟨e, a, b⟩ | ⟨c, q, a, b, d⟩
        · exact Or.inl ⟨e, a, b.1⟩
        · rw [List.nil_append] at d
          exact Or.inr ⟨c, q, a, d.1, d.2.1, d.2.2.2.2.1.2.2.2.2.1, d.2.2.2.2.1.2.2.2.2.2.1⟩
    obtain ⟨V2, e2, k2, I2, rs⟩ := rdr
    rcases rs with ⟨e, a, b⟩ | ⟨c, q, a, d, d5, d2, d3⟩
    · rw [a]
      refine ⟨V2, k, E_bd e1 (e2.trans ?_), k1.B.trans k2, I2, b⟩
      unfold F_X10_ask_J110
      exact E_gd b.bad.2 (E_if (fun y => absurd y b.bad.1) (fun _ => rfl))
    · rw [a]
      obtain ⟨V3, e3, k3, I3, f3⟩ := r_qend (G := G) (x := x) (k := k) hT d d5 I2
      refine ⟨V3, k, E_bd e1 (e2.trans e3), (k1.B.trans k2).trans k3.B, I3, ?_⟩
      show rQa V3 m T k (if kdT T q = 3 then .inr (nmT T (bsk T 0) - 24, c) else .inl (1, (q : Int)))
      by_cases z : kdT T q = 3
      · rw [if_pos z] at f3 ⊢
        refine ⟨ck, f3, ?_, ?_⟩
        · rw [k3.2.2.2 m 98 (by omega)]; exact d2
        · show clr (gA V3 (m + 68)) 0 c
          rw [k3.1]; exact d3
      · rw [if_neg z] at f3 ⊢
        exact f3
  · rw [if_neg c]
    refine ⟨V1, k, E_bd e1 (E_gd r1.bad.2 (E_if (fun y => absurd y r1.bad.1) (fun _ => ?_))), k1.B, I1, r1⟩
    unfold F_X10_ask_J99
    refine E_gd r1.bad.2 (E_if (fun y => absurd y r1.bad.1) (fun _ => ?_))
    unfold F_X10_ask_J110
    exact E_gd r1.bad.2 (E_if (fun y => absurd y r1.bad.1) (fun _ => rfl))
end

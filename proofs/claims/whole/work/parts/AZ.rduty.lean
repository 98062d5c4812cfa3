/-! duties told (reference) -/
section
variable {G : mG} {V V' : mV} {c r m : Nat} {C : mCy} {T : mT2}
theorem l_duty {x1 x2 x3 x4 : Int} (h2 : rg x2) (h3 : rg x3) (h4 : rg x4) {D : List (Int × Int × Int)} (hl : D.length ≤ 24) {t n : Int} (hn : n ≤ 10 ∧ t ≤ 10) (ho : ∀ d ∈ D, okD n t d) (h27 : gA V (m + 27) 2 = (D.length : Int)) (h30 : ∀ k : Nat, k < D.length → gA V (m + 30) (3 * k) = (D.getD k d0).1 ∧ gA V (m + 30) (3 * k + 1) = (D.getD k d0).2.1 ∧ gA V (m + 30) (3 * k + 2) = (D.getD k d0).2.2) {x : (Int × Int) ⊕ Nat} (h : rs10 V m T x) :
    ∃ V' q, lp (fun (s : Int) V => B_X10_dutyTold_44 G m x1 x2 x3 x4 s V) FU 0 V = some (V', q) ∧ rLk m V V' ∧ rs10 V' m T (thn x (fun r => if (x2, x3, x4) ∈ D then .inl (2, gI V m 10) else .inr r)) := by
  have stop : ∀ (j : Nat) (U : mV), rLk m V U → j = D.length → B_X10_dutyTold_44 G m x1 x2 x3 x4 (j : Int) U = some (U, 1, (j : Int)) := by
    intro j U k hj
    unfold B_X10_dutyTold_44
    rw [k.1, h27]
    exact E_gd ⟨by omega, by omega⟩ (E_gd ⟨by omega, by omega⟩ (E_if (fun _ => rfl) (fun y => by omega)))
  have bad : ∀ (w j : Nat) (fu : Nat) (U : mV) (e : Int × Int), j + w = D.length → w < fu → rLk m V U → rs10 U m T (.inl e) → ∃ q, lp (fun (s : Int) V => B_X10_dutyTold_44 G m x1 x2 x3 x4 s V) fu (j : Int) U = some (U, q) := by
    intro w
    induction w with
    | zero =>
      intro j fu U e hj hf k hU
      exact ⟨(1, (j : Int)), lp_stop (q := (1, (j : Int))) (stop j U k (by omega)) Nat.one_ne_zero hf⟩
    | succ w ih =>
      intro j fu U e hj hf k hU
      obtain ⟨fu, rfl⟩ : ∃ i, fu = i + 1 := ⟨fu - 1, by omega⟩
      have es : (j : Int) + 1 = ((j + 1 : Nat) : Int) := by omega
      obtain ⟨q, hq⟩ := ih (j + 1) fu U e (by omega) (by omega) k hU
      refine ⟨q, ?_⟩
      rw [← hq]
      refine lp_more ?_
      show B_X10_dutyTold_44 G m x1 x2 x3 x4 (j : Int) U = _
      unfold B_X10_dutyTold_44
      rw [k.1, h27]
      exact E_gd ⟨by omega, by omega⟩ (E_gd ⟨by omega, by omega⟩ (E_if (fun y => by omega) (fun _ => E_gd hU.bad.2 (E_if (fun y => absurd y hU.bad.1) (fun _ => E_lt (E_so rfl (Prod.ext rfl es)))))))
  cases x with
  | inl e =>
    obtain ⟨q, hq⟩ := bad D.length 0 FU V e (by omega) (by unfold FU; omega) rLk_refl h
    exact ⟨V, q, hq, rLk_refl, h⟩
  | inr p =>
    have key : ∀ (w j : Nat) (fu : Nat), j + w = D.length → w < fu → ∃ V' q, lp (fun (s : Int) V => B_X10_dutyTold_44 G m x1 x2 x3 x4 s V) fu (j : Int) V = some (V', q) ∧ rLk m V V' ∧ ((rs10 V' m T (.inl (2, gI V m 10)) ∧ (x2, x3, x4) ∈ D) ∨ (V' = V ∧ ∀ i, j ≤ i → i < D.length → D.getD i d0 ≠ (x2, x3, x4))) := by
      intro w
      induction w with
      | zero =>
        intro j fu hj hf
        exact ⟨V, (1, (j : Int)), lp_stop (q := (1, (j : Int))) (stop j V rLk_refl (by omega)) Nat.one_ne_zero hf, rLk_refl, Or.inr ⟨rfl, fun i a b => by omega⟩⟩
      | succ w ih =>
        intro j fu hj hf
        obtain ⟨fu, rfl⟩ : ∃ i, fu = i + 1 := ⟨fu - 1, by omega⟩
        have es : (j : Int) + 1 = ((j + 1 : Nat) : Int) := by omega
        have hm := gd_in (L := D) (k := j) (by omega)
        obtain ⟨b1, b2, b3⟩ := ho _ hm
        obtain ⟨a1, a2, a3⟩ := h30 j (by omega)
        have i1 : (3 * (j : Int)).toNat = 3 * j := by omega
        have i2 : (3 * (j : Int) + 1).toNat = 3 * j + 1 := by omega
        have i3 : (3 * (j : Int) + 2).toNat = 3 * j + 2 := by omega
        have pre : ∀ r, (if (D.getD j d0).1 = x2 then (gd (0 ≤ ((3 * (j : Int)) + 1) ∧ ((3 * (j : Int)) + 1) < (144 : Int) ∧ ((3 * (j : Int)) + 1) ≤ 2147483647) <|
  gd (rg (gA V (m + 30) ((3 * (j : Int)) + 1).toNat)) <|
  gd (rg x3) <|
  if (gA V (m + 30) ((3 * (j : Int)) + 1).toNat) = x3 then (gd (0 ≤ ((3 * (j : Int)) + 2) ∧ ((3 * (j : Int)) + 2) < (144 : Int) ∧ ((3 * (j : Int)) + 2) ≤ 2147483647) <|
  gd (rg (gA V (m + 30) ((3 * (j : Int)) + 2).toNat)) <|
  gd (rg x4) <|
  if (gA V (m + 30) ((3 * (j : Int)) + 2).toNat) = x4 then (bd (F_X10_fail G m 2 (gI V m 10) V) fun V39 v40 =>
  lt ((j : Int) + 1) fun y42 =>
  some (V39, 0, y42)) else (lt ((j : Int) + 1) fun y38 =>
  some (V, 0, y38))) else (lt ((j : Int) + 1) fun y33 =>
  some (V, 0, y33))) else (lt ((j : Int) + 1) fun y28 =>
  some (V, 0, y28))) = r → B_X10_dutyTold_44 G m x1 x2 x3 x4 (j : Int) V = r := by
          intro r e
          unfold B_X10_dutyTold_44
          rw [h27, i1, a1]
          exact E_gd ⟨by omega, by omega⟩ (E_gd ⟨by omega, by omega⟩ (E_if (fun y => by omega) (fun _ => E_gd (by rw [h.2]; decide) (E_if (fun _ => E_gd ⟨by omega, by omega, by omega⟩ (E_gd ⟨by omega, by omega⟩ (E_gd h2 e))) (fun y => absurd h.2 y)))))
        rw [i2, i3, a2, a3] at pre
        by_cases e : D.getD j d0 = (x2, x3, x4)
        · obtain ⟨V1, f1, f2, f3⟩ := r_fail (G := G) (T := T) h.2 (k := 2) (w := gI V m 10) ⟨by decide, by decide⟩
          obtain ⟨q, hq⟩ := bad w (j + 1) fu V1 _ (by omega) (by omega) f2 f3
          refine ⟨V1, q, ?_, f2, Or.inl ⟨f3, by rw [← e]; exact hm⟩⟩
          rw [← hq]
          refine lp_more (pre _ ?_)
          exact E_if (fun _ => E_gd ⟨by omega, by omega, by omega⟩ (E_gd ⟨by omega, by omega⟩ (E_gd h3 (E_if (fun _ => E_gd ⟨by omega, by omega, by omega⟩ (E_gd ⟨by omega, by omega⟩ (E_gd h4 (E_if (fun _ => E_bd f1 (E_lt (E_so rfl (Prod.ext rfl es)))) (fun y => absurd (by rw [e]) y))))) (fun y => absurd (by rw [e]) y))))) (fun y => absurd (by rw [e]) y)
        · obtain ⟨V1, q, q1, q2, q3⟩ := ih (j + 1) fu (by omega) (by omega)
          refine ⟨V1, q, ?_, q2, ?_⟩
          · rw [← q1]
            refine lp_more (pre _ ?_)
            exact E_if (fun y1 => E_gd ⟨by omega, by omega, by omega⟩ (E_gd ⟨by omega, by omega⟩ (E_gd h3 (E_if (fun y2 => E_gd ⟨by omega, by omega, by omega⟩ (E_gd ⟨by omega, by omega⟩ (E_gd h4 (E_if (fun y3 => absurd (Prod.ext y1 (Prod.ext y2 y3)) e) (fun _ => E_lt (E_so rfl (Prod.ext rfl es))))))) (fun _ => E_lt (E_so rfl (Prod.ext rfl es))))))) (fun _ => E_lt (E_so rfl (Prod.ext rfl es)))
          · rcases q3 with y | ⟨y1, y2⟩
            · exact Or.inl y
            · refine Or.inr ⟨y1, fun i a b => ?_⟩
              by_cases z : i = j
              · rw [z]; exact e
              · exact y2 i (by omega) b
    obtain ⟨V1, q, q1, q2, q3⟩ := key D.length 0 FU (by omega) (by unfold FU; omega)
    refine ⟨V1, q, q1, q2, ?_⟩
    show rs10 V1 m T (if (x2, x3, x4) ∈ D then .inl (2, gI V m 10) else .inr p)
    rcases q3 with ⟨y1, y2⟩ | ⟨y1, y2⟩
    · rw [if_pos y2]; exact y1
    · rw [if_neg, y1]
      · exact h
      · intro hm
        obtain ⟨k, k1, k2⟩ := gd_of hm
        exact y2 k (by omega) k1 k2
theorem R_kp (hT : tOk T) (hG : is10 G m) (hw : rWd V m) (hb : rBd V m C) (ho : okC C) (hf : okN (cp C) (cn C) ∧ okN (cq C) (ct C)) {x : (Int × Int) ⊕ Nat} (h : rs10 V m T x) : ∃ V' v, F_X10_oneOf G m 0 V = some (V', v) ∧ rLk m V V' ∧ rs10 V' m T (thn x (nKn (cp C) (cn C) T)) ∧ (0 ≤ v ∧ v ≤ 9) ∧ (∀ p q, x = .inr p → nKn (cp C) (cn C) T p = .inr q → v = fl (cp C) (ltr T p (lnT T p)) 0 (cn C).toNat ∧ gI V' m 35 = (p : Int)) :=
  R_one hT hG hw (k := 0) (by decide) hb.1.1 ho.1 hf.1 h
theorem R_kt (hT : tOk T) (hG : is10 G m) (hw : rWd V m) (hb : rBd V m C) (ho : okC C) (hf : okN (cp C) (cn C) ∧ okN (cq C) (ct C)) {x : (Int × Int) ⊕ Nat} (h : rs10 V m T x) : ∃ V' v, F_X10_oneOf G m 1 V = some (V', v) ∧ rLk m V V' ∧ rs10 V' m T (thn x (nKn (cq C) (ct C) T)) ∧ (0 ≤ v ∧ v ≤ 9) ∧ (∀ p q, x = .inr p → nKn (cq C) (ct C) T p = .inr q → v = fl (cq C) (ltr T p (lnT T p)) 0 (ct C).toNat ∧ gI V' m 35 = (p : Int)) :=
  R_one hT hG hw (k := 1) (by decide) hb.1.2.1 ⟨ho.2.1.1, by have := ho.2.1.2; omega⟩ hf.2 h
theorem r_dutyTold (hT : tOk T) (hG : is10 G m) (hw : rWd V m) (hb : rBd V m C) (ho : okC C) (hf : okN (cp C) (cn C) ∧ okN (cq C) (ct C)) {p : Nat} (h : rs10 V m T (.inr p)) {begun : Int} :
    ∃ V', F_X10_dutyTold G m begun V = some (V', 0) ∧ rSt m V V' ∧ (if (cd C).length = 24 then rs10 V' m T (.inl (5, begun)) else rs10 V' m T (aDu C T p) ∧ ∀ q, aDu C T p = .inr q → rBd V' m (addD C (aDuD C T p))) := by
  have hl := ho.2.2.1.1
  obtain ⟨V1, e1, k1, r1⟩ := r_full (G := G) (T := T) (begun := begun) (k := 2) (room := 24) (by decide) hb.1.2.2 ⟨⟨by omega, by omega⟩, by decide⟩ h.2
  by_cases c : (cd C).length = 24
  · simp only [if_pos c]
    rw [if_pos (show ((cd C).length : Int) = 24 by omega)] at r1 e1
    refine ⟨V1, ?_, k1.S, r1⟩
    unfold F_X10_dutyTold
    exact E_bd e1 (E_gd (by decide) (E_if (fun y => absurd y (by decide)) (fun _ => rfl)))
  · simp only [if_neg c]
    rw [if_neg (show ¬ ((cd C).length : Int) = 24 by omega)] at r1 e1
    subst r1
    obtain ⟨V2, v2, e2, k2, r2, b2, c2⟩ := R_kp hT hG hw hb ho hf h
    obtain ⟨V3, v3, e3, k3, r3, b3, c3⟩ := R_kt hT hG (hw.S k2.S) (hb.lk k2) ho hf r2
    obtain ⟨V4, e4, k4, r4⟩ := R_asks hT hG ((hw.S k2.S).S k3.S) (k := 8) (by unfold isW; omega) r3
    obtain ⟨V5, v5, e5, k5, r5, b5, c5⟩ := R_num (G := G) hT r4 (mx := 23) (by decide)
    have kk := ((k2.trans k3).trans k4).trans k5
    have hb5 := hb.lk kk
    have r5' : rs10 V5 m T (aDu4 C T p) := r5
    obtain ⟨V6, q6, e6, k6, r6⟩ := l_duty (G := G) (x1 := begun) (x2 := v2) (x3 := v3) (x4 := v5) ⟨by omega, by omega⟩ ⟨by omega, by omega⟩ ⟨by omega, by omega⟩ hl (n := cn C) (t := ct C) ⟨by have := ho.1.2; omega, by have := ho.2.1.2; omega⟩ ho.2.2.1.2 hb5.1.2.2 hb5.2.2.2.1 r5'
    have kk6 := kk.trans k6
    have hb6 := hb.lk kk6
    have top : ∀ res, (gd (rg (gI V6 m 5)) <|
  if (gI V6 m 5) = 0 then (lt (3 * (gA V6 (m + 27) 2)) fun y49 =>
  gd (0 ≤ y49 ∧ y49 < (144 : Int) ∧ y49 ≤ 2147483647) <|
  lt (sA V6 (m + 30) y49.toNat v2) fun V51 =>
  gd (0 ≤ (y49 + 1) ∧ (y49 + 1) < (144 : Int) ∧ (y49 + 1) ≤ 2147483647) <|
  lt (sA V51 (m + 30) (y49 + 1).toNat v3) fun V53 =>
  gd (0 ≤ (y49 + 2) ∧ (y49 + 2) < (144 : Int) ∧ (y49 + 2) ≤ 2147483647) <|
  lt (sA V53 (m + 30) (y49 + 2).toNat v5) fun V55 =>
  lt (sA V55 (m + 27) 2 ((gA V55 (m + 27) 2) + 1)) fun V56 =>
  some (V56, (0 : Int))) else (some (V6, 0))) = res → F_X10_dutyTold G m begun V1 = res := by
      intro res e
      unfold F_X10_dutyTold
      exact E_bd e1 (E_gd (by decide) (E_if (fun _ => E_bd e2 (E_bd e3 (E_bd e4 (E_bd e5 (E_bd e6 e))))) (fun y => absurd rfl y)))
    have eA : aDu C T p = (thn (aDu4 C T p) fun r => if (v2, v3, v5) ∈ cd C then .inl (2, gI V5 m 10) else .inr r) := by
      unfold aDu
      cases hA : aDu4 C T p with
      | inl e => rfl
      | inr q =>
        obtain ⟨i1, i2, i3, i4, i5⟩ := aDu4_i hA
        have ev2 := (c2 _ _ rfl i1).1
        have ev3 := (c3 _ _ i1 i2).1
        have ev5 := c5 _ _ i3 i5
        show (if aDuD C T p ∈ cd C then .inl (2, ((nxT T (nxT T (nxT T p)) : Nat) : Int)) else .inr q : (Int × Int) ⊕ Nat) = if (v2, v3, v5) ∈ cd C then .inl (2, gI V5 m 10) else .inr q
        rw [ev5.2, ev2, ev3, ev5.1]
        rfl
    rw [← eA] at r6
    cases hA : aDu C T p with
    | inl e =>
      rw [hA] at r6
      exact ⟨V6, top _ (E_gd r6.bad.2 (E_if (fun y => absurd y r6.bad.1) (fun _ => rfl))), kk6.S, r6, fun q z => by cases z⟩
    | inr q =>
      rw [hA] at r6
      have hA4 : aDu4 C T p = .inr q := by
        unfold aDu at hA
        obtain ⟨q', h1, h2⟩ := thn_r hA
        by_cases z : aDuD C T p ∈ cd C
        · rw [if_pos z] at h2; cases h2
        · rw [if_neg z] at h2; cases h2; exact h1
      obtain ⟨i1, i2, i3, i4, i5⟩ := aDu4_i hA4
      have ev2 := (c2 _ _ rfl i1).1
      have ev3 := (c3 _ _ i1 i2).1
      have ev5 := (c5 _ _ i3 i5).1
      obtain ⟨⟨a1, a2, a3⟩, d1, d2, d3, d4, d5, ⟨g1, g2⟩, d6⟩ := hb6
      obtain ⟨n, hn⟩ : ∃ n, n = (cd C).length := ⟨_, rfl⟩
      rw [← hn] at a3
      obtain ⟨U, hU⟩ : ∃ U, U = sA (sA (sA (sA V6 (m + 30) (3 * n) v2) (m + 30) (3 * n + 1) v3) (m + 30) (3 * n + 2) v5) (m + 27) 2 ((n : Int) + 1) := ⟨_, rfl⟩
      have o : ∀ i, i ≠ m + 27 → i ≠ m + 30 → gA U i = gA V6 i := by
        intro i h1 h2
        rw [hU, gA_sAo h1, gA_sAo h2, gA_sAo h2, gA_sAo h2]
      have kS : rSt m V1 U := by
        have kH : rHf m V6 U := by
          rw [hU]
          have s1 : rHf m V6 (sA V6 (m + 30) (3 * n) v2) := rHf_sA (by show 3 * n < 72; omega)
          have s2 : rHf m _ (sA (sA V6 (m + 30) (3 * n) v2) (m + 30) (3 * n + 1) v3) := rHf_sA (by show 3 * n + 1 < 72; omega)
          have s3 : rHf m _ (sA (sA (sA V6 (m + 30) (3 * n) v2) (m + 30) (3 * n + 1) v3) (m + 30) (3 * n + 2) v5) := rHf_sA (by show 3 * n + 2 < 72; omega)
          exact ((s1.trans s2).trans s3).trans (rHf_sA (by show 2 < 3; decide))
        refine kk6.S.trans ⟨by rw [hU]; rfl, fun i _ => by rw [hU]; rfl, fun i _ _ hi => o i (by omega) (by omega), fun i j _ => by rw [hU]; rfl, kH⟩
      have c30 : ∀ k, gA U (m + 30) k = if k = 3 * n + 2 then v5 else if k = 3 * n + 1 then v3 else if k = 3 * n then v2 else gA V6 (m + 30) k := by
        intro k; rw [hU, gA_sAo (by omega), gA_sAf, gA_sAf, gA_sAf]
      have c27 : ∀ k, gA U (m + 27) k = if k = 2 then (n : Int) + 1 else gA V6 (m + 27) k := by
        intro k; rw [hU, gA_sAf, gA_sAo (by omega), gA_sAo (by omega), gA_sAo (by omega)]
      refine ⟨U, top _ (E_gd (by rw [r6.2]; decide) (E_if (fun _ => E_lt ?_) (fun y => absurd r6.2 y))), kS, rs10.t r6 (o _ (by omega) (by omega)) (fun k => by rw [hU]; rfl), fun q' _ => ?_⟩
      · rw [a3, show (3 * (n : Int)).toNat = 3 * n by omega, show (3 * (n : Int) + 1).toNat = 3 * n + 1 by omega, show (3 * (n : Int) + 2).toNat = 3 * n + 2 by omega]
        refine E_gd ⟨by omega, by omega, by omega⟩ (E_lt (E_gd ⟨by omega, by omega, by omega⟩ (E_lt (E_gd ⟨by omega, by omega, by omega⟩ (E_lt (E_lt (E_so ?_ rfl)))))))
        rw [hU, gA_sAo (by omega), gA_sAo (by omega), gA_sAo (by omega), a3]
      · have gi : ∀ k, gI U m k = gI V6 m k := by intro k; rw [hU]; rfl
        have gl : gL U (m + 28) = gL V6 (m + 28) := by rw [hU]; rfl
        have el : (cd C ++ [aDuD C T p]).length = n + 1 := by rw [List.length_append, List.length_singleton]; omega
        refine ⟨⟨⟨by rw [c27, if_neg (by decide)]; exact a1.1, fun j hj => by rw [gl]; exact a1.2 j hj⟩, ⟨by rw [c27, if_neg (by decide)]; exact a2.1, fun j hj => by rw [gl]; exact a2.2 j hj⟩, ?_⟩, fun j hj => by rw [o _ (by omega) (by omega)]; exact d1 j hj, fun j hj => by rw [o _ (by omega) (by omega)]; exact d2 j hj, fun k hk => ?_, fun j hj => by rw [o _ (by omega) (by omega), o _ (by omega) (by omega)]; exact d4 j hj, fun a b ha hb' => by rw [o _ (by omega) (by omega)]; exact d5 a b ha hb', ⟨by rw [gi]; exact g1, fun w hw4 => ?_⟩, by rw [gi]; exact d6⟩
        · show gA U (m + 27) 2 = ((cd C ++ [aDuD C T p]).length : Int)
          rw [c27, if_pos rfl, el]; omega
        · have hk' : k < (cd C ++ [aDuD C T p]).length := hk
          show gA U (m + 30) (3 * k) = ((cd C ++ [aDuD C T p]).getD k d0).1 ∧ gA U (m + 30) (3 * k + 1) = ((cd C ++ [aDuD C T p]).getD k d0).2.1 ∧ gA U (m + 30) (3 * k + 2) = ((cd C ++ [aDuD C T p]).getD k d0).2.2
          rw [c30, c30, c30]
          by_cases e : k = n
          · subst e
            rw [gD_r _ _ _ _ (by omega), hn, Nat.sub_self, if_neg (by omega), if_neg (by omega), if_pos rfl, if_neg (by omega), if_pos rfl, if_pos rfl, ev2, ev3, ev5]
            exact ⟨rfl, rfl, rfl⟩
          · rw [gD_l _ _ _ _ (by omega), if_neg (by omega), if_neg (by omega), if_neg (by omega), if_neg (by omega), if_neg (by omega), if_neg (by omega), if_neg (by omega), if_neg (by omega), if_neg (by omega)]
            exact d3 k (by omega)
        · unfold rFb
          rw [o _ (show m + 34 ≠ m + 27 by omega) (by omega), o _ (show m + 35 ≠ m + 27 by omega) (by omega), o _ (show m + 36 ≠ m + 27 by omega) (by omega)]
          exact g2 w hw4
end

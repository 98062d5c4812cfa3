/-! people and tasks told (reference) -/
section
variable {G : mG} {V V' : mV} {m : Nat} {C : mCy} {T : mT2}
theorem gL_sLe {i k : Nat} {x : Int} {b : Nat} : gL (sL V i k x) i b = if b = k then x else gL V i b := by
  by_cases h : b = k
  · rw [if_pos h, gL_sL, if_pos ⟨rfl, h⟩]
  · rw [if_neg h, gL_sL, if_neg (fun q => h q.2)]
theorem gA_sAf {i k : Nat} {x : Int} {b : Nat} : gA (sA V i k x) i b = if b = k then x else gA V i b := by
  by_cases h : b = k
  · rw [if_pos h, gA_sA, if_pos ⟨rfl, h⟩]
  · rw [if_neg h, gA_sA, if_neg (fun q => h q.2)]
theorem rA.t {p : Nat} (h : rA V m T p) (a : gA V' (m + 1) = gA V (m + 1)) (b : ∀ k, gI V' m k = gI V m k) : rA V' m T p := by
  unfold rA at h ⊢
  rw [a, b 3, b 2, b 4]; exact h
theorem rs10.t {x : (Int × Int) ⊕ Nat} (h : rs10 V m T x) (a : gA V' (m + 1) = gA V (m + 1)) (b : ∀ k, gI V' m k = gI V m k) : rs10 V' m T x := by
  cases x with
  | inl e =>
    obtain ⟨x1, x2, x3⟩ := h
    exact ⟨by rw [b]; exact x1, by rw [b]; exact x2, x3⟩
  | inr q => exact ⟨h.1.t a b, by rw [b]; exact h.2⟩
theorem gL_sLn {i k : Nat} {x : Int} {j : Nat} (h : j ≠ i) : gL (sL V i k x) j = gL V j := by
  funext b; rw [gL_sL, if_neg (fun q => h q.1)]
theorem rs10_in {x : (Int × Int) ⊕ Nat} (h : rs10 V m T x) (h0 : gI V m 5 = 0) : ∃ q, x = .inr q := by
  cases x with
  | inl e => exact absurd h0 h.bad.1
  | inr q => exact ⟨q, rfl⟩
theorem l_known {k : Nat} (hk : k < 10) {x1 : Int} (U : mV) : ∃ U', lp (fun (s : Int) V => B_X10_personTold_81 G m x1 (k : Int) s V) FU 0 U = some (U', 1, 10) ∧ gI U' = gI U ∧ gJ U' = gJ U ∧ gL U' = gL U ∧ ((∀ i, i ≠ m + 33 → gA U' i = gA U i) ∧ ∀ j, 100 ≤ j → gA U' (m + 33) j = gA U (m + 33) j) ∧ ∀ a b : Nat, a < 10 → b < 10 → gA U' (m + 33) (10 * a + b) = if a = k ∧ b = k then 99 else if a = k ∨ b = k then 0 else gA U (m + 33) (10 * a + b) := by
  have key : ∀ (w j : Nat) (W : mV) (fu : Nat), j + w = 10 → w < fu → (gI W = gI U ∧ gJ W = gJ U ∧ gL W = gL U ∧ ((∀ i, i ≠ m + 33 → gA W i = gA U i) ∧ ∀ j, 100 ≤ j → gA W (m + 33) j = gA U (m + 33) j) ∧ ∀ a b : Nat, a < 10 → b < 10 → gA W (m + 33) (10 * a + b) = if (a = k ∧ b < j) ∨ (b = k ∧ a < j) then (if a = b then 99 else 0) else gA U (m + 33) (10 * a + b)) → ∃ U', lp (fun (s : Int) V => B_X10_personTold_81 G m x1 (k : Int) s V) fu (j : Int) W = some (U', 1, 10) ∧ (gI U' = gI U ∧ gJ U' = gJ U ∧ gL U' = gL U ∧ ((∀ i, i ≠ m + 33 → gA U' i = gA U i) ∧ ∀ j, 100 ≤ j → gA U' (m + 33) j = gA U (m + 33) j) ∧ ∀ a b : Nat, a < 10 → b < 10 → gA U' (m + 33) (10 * a + b) = if (a = k ∧ b < 10) ∨ (b = k ∧ a < 10) then (if a = b then 99 else 0) else gA U (m + 33) (10 * a + b)) := by
    intro w
    induction w with
    | zero =>
      intro j W fu hj hf hI
      have j10 : j = 10 := by omega
      subst j10
      refine ⟨W, lp_stop (q := (1, 10)) ?_ Nat.one_ne_zero hf, hI⟩
      show B_X10_personTold_81 G m x1 (k : Int) 10 W = _
      unfold B_X10_personTold_81
      exact E_gd (by decide) (E_if (fun _ => rfl) (fun y => absurd (by decide) y))
    | succ w ih =>
      intro j W fu hj hf ⟨w1, w2, w3, w4, hc⟩
      obtain ⟨fu, rfl⟩ : ∃ i, fu = i + 1 := ⟨fu - 1, by omega⟩
      have ej : ((10 * (k : Int)) + (j : Int)).toNat = 10 * k + j := by omega
      have ej2 : ((10 * (j : Int)) + (k : Int)).toNat = 10 * j + k := by omega
      have es : (j : Int) + 1 = ((j + 1 : Nat) : Int) := by omega
      have st : B_X10_personTold_81 G m x1 (k : Int) (j : Int) W = some (sA (sA W (m + 33) (10 * k + j) (if j = k then 99 else 0)) (m + 33) (10 * j + k) (if j = k then 99 else 0), 0, ((j + 1 : Nat) : Int)) := by
        unfold B_X10_personTold_81
        refine E_gd ⟨by omega, by omega⟩ (E_if (fun y => by omega) (fun _ => E_gd ⟨by omega, by omega⟩ (E_if (fun y => ?_) (fun y => ?_))))
        · have e : j = k := by omega
          rw [if_pos e]
          unfold F_X10_personTold_J111_81
          rw [ej, ej2]
          exact E_gd ⟨by omega, by omega, by omega⟩ (E_lt (E_gd ⟨by omega, by omega⟩ (E_gd ⟨by omega, by omega⟩ (E_if (fun _ => E_gd ⟨by omega, by omega, by omega⟩ (E_lt (E_lt (by rw [es])))) (fun z => absurd y z)))))
        · have e : ¬ j = k := by omega
          rw [if_neg e]
          unfold F_X10_personTold_J111_81
          rw [ej, ej2]
          exact E_gd ⟨by omega, by omega, by omega⟩ (E_lt (E_gd ⟨by omega, by omega⟩ (E_gd ⟨by omega, by omega⟩ (E_if (fun z => absurd z y) (fun _ => E_gd ⟨by omega, by omega, by omega⟩ (E_lt (E_lt (by rw [es]))))))))
      rw [lp_more st]
      refine ih (j + 1) _ fu (by omega) (by omega) ⟨w1, w2, w3, ⟨fun i hi => by rw [gA_sAo hi, gA_sAo hi]; exact w4.1 i hi, fun i hi => by rw [gA_sAf, if_neg (by omega), gA_sAf, if_neg (by omega)]; exact w4.2 i hi⟩, fun a b ha hb => ?_⟩
      rw [gA_sA]
      by_cases e1 : 10 * a + b = 10 * j + k
      · have ea : a = j := by omega
        have eb : b = k := by omega
        subst ea; subst eb
        rw [if_pos ⟨rfl, rfl⟩, if_pos (Or.inr ⟨rfl, by omega⟩)]
      · rw [if_neg (fun z => e1 z.2), gA_sA]
        by_cases e2 : 10 * a + b = 10 * k + j
        · have ea : a = k := by omega
          have eb : b = j := by omega
          subst ea; subst eb
          rw [if_pos ⟨rfl, rfl⟩, if_pos (Or.inl ⟨rfl, by omega⟩)]
          by_cases e : a = b
          · rw [if_pos e, if_pos e.symm]
          · rw [if_neg e, if_neg (fun z => e z.symm)]
        · rw [if_neg (fun z => e2 z.2), hc a b ha hb]
          by_cases e3 : (a = k ∧ b < j) ∨ (b = k ∧ a < j)
          · rw [if_pos e3, if_pos (show (a = k ∧ b < j + 1) ∨ (b = k ∧ a < j + 1) by omega)]
          · rw [if_neg e3, if_neg (show ¬ ((a = k ∧ b < j + 1) ∨ (b = k ∧ a < j + 1)) by omega)]
  obtain ⟨U', e, u1, u2, u3, u4, u5⟩ := key 10 0 U FU rfl (by unfold FU; omega) ⟨rfl, rfl, rfl, ⟨fun _ _ => rfl, fun _ _ => rfl⟩, fun a b _ _ => by rw [if_neg (by omega)]⟩
  refine ⟨U', e, u1, u2, u3, u4, fun a b ha hb => ?_⟩
  rw [u5 a b ha hb]
  by_cases c1 : a = k ∧ b = k
  · rw [if_pos (by omega), if_pos (by omega), if_pos c1]
  · rw [if_neg c1]
    by_cases c2 : a = k ∨ b = k
    · rw [if_pos (by omega), if_neg (by omega), if_pos c2]
    · rw [if_neg (by omega), if_neg c2]
/-- people told -/
theorem r_personTold (hT : tOk T) (hG : is10 G m) (hw : rWd V m) (hb : rBd V m C) (ho : okC C) (hf : okN (cp C) (cn C) ∧ okN (cq C) (ct C)) {p : Nat} (h : rs10 V m T (.inr p)) {begun : Int} :
    ∃ V', F_X10_personTold G m begun V = some (V', 0) ∧ rSt m V V' ∧ (if cn C = 10 then rs10 V' m T (.inl (5, begun)) else rs10 V' m T (aGv C T 1 9 p) ∧ ∀ q, aGv C T 1 9 p = .inr q → rBd V' m (addP C (ltr T p (lnT T p)) (vlT T (nxT T (nxT T p))))) := by
  have hn := ho.1
  have ht := ho.2.1
  obtain ⟨V1, e1, k1, r1⟩ := r_full (G := G) (T := T) (begun := begun) (k := 0) (room := 10) (by decide) hb.1.1.1 ⟨⟨by omega, by omega⟩, by decide⟩ h.2
  by_cases c : cn C = 10
  · simp only [if_pos c] at r1 e1 ⊢
    refine ⟨V1, ?_, k1.S, r1⟩
    unfold F_X10_personTold
    exact E_bd e1 (E_gd (by decide) (E_if (fun y => absurd y (by decide)) (fun _ => rfl)))
  · simp only [if_neg c] at r1 e1 ⊢
    subst r1
    obtain ⟨V2, v2, e2, k2, r2, b2⟩ := r_new (C := C) hT hG hw ⟨hb.1.1, hb.1.2.1⟩ ⟨hn, ht⟩ hf h
    have w2 := hw.S k2.S
    obtain ⟨V3, e3, k3, r3⟩ := R_asks hT hG w2 (k := 4) (by unfold isW; omega) r2
    obtain ⟨V4, v4, e4, k4, r4, b4, c4⟩ := R_num (G := G) hT r3 (mx := 9) (by decide)
    have kk := (k2.trans k3).trans k4
    have r4' : rs10 V4 m T (aGv C T 1 9 p) := r4
    have ec : gA V1 (m + 27) 0 = cn C := hb.1.1.1
    have top : ∀ V', (gd (rg (gI V4 m 5)) <|
      if (gI V4 m 5) = 0 then (gd (0 ≤ cn C ∧ cn C < (40 : Int) ∧ cn C ≤ 2147483647) <|
      lt (sL V4 (m + 28) (cn C).toNat v2) fun V19 =>
      lt (sA V19 (m + 29) (cn C).toNat v4) fun V20 =>
      gd (0 ≤ cn C ∧ cn C < (20 : Int) ∧ cn C ≤ 2147483647) <|
      lt (sA V20 (m + 31) (cn C).toNat (-1)) fun V22 =>
      lt (sA V22 (m + 32) (cn C).toNat (-1)) fun V23 =>
      bd (lp (fun (s : Int) V => B_X10_personTold_81 G m begun (cn C) s V) FU 0 V23) fun V39 u40 =>
      lt (sA V39 (m + 27) 0 ((gA V39 (m + 27) 0) + 1)) fun V43 =>
      some (V43, (0 : Int))) else (some (V4, 0))) = some (V', 0) → F_X10_personTold G m begun V1 = some (V', 0) := by
      intro V' e
      unfold F_X10_personTold
      refine E_bd e1 (E_gd (by decide) (E_if (fun _ => E_lt ?_) (fun y => absurd rfl y)))
      rw [ec]
      exact E_bd e2 (E_bd e3 (E_bd e4 e))
    cases hA : aGv C T 1 9 p with
    | inl e =>
      rw [hA] at r4'
      refine ⟨V4, top V4 (E_gd r4'.bad.2 (E_if (fun y => absurd y r4'.bad.1) (fun _ => rfl))), kk.S, r4', fun q z => by cases z⟩
    | inr q =>
      rw [hA] at r4'
      obtain ⟨i1, i2, i3, i4, i5, i6⟩ := aGv_i hA
      have v4e := (c4 _ _ i6 i2).1
      have v2e := b2 _ i1
      have hb4 := hb.lk kk
      obtain ⟨kn, ekn⟩ : ∃ k : Nat, cn C = (k : Int) := ⟨(cn C).toNat, by omega⟩
      have hkn : kn < 10 := by omega
      obtain ⟨U, hU⟩ : ∃ U, U = sA (sA (sA (sL V4 (m + 28) kn v2) (m + 29) kn v4) (m + 31) kn (-1)) (m + 32) kn (-1) := ⟨_, rfl⟩
      obtain ⟨U', x1, x2, x3, x4, ⟨x5, x7⟩, x6⟩ := l_known (G := G) (m := m) hkn (x1 := begun) U
      have g27 : gA U' (m + 27) = gA V4 (m + 27) := by rw [x5 _ (by omega), hU, gA_sAo (by omega), gA_sAo (by omega), gA_sAo (by omega)]; rfl
      obtain ⟨⟨⟨a1, a1'⟩, ⟨a2, a2'⟩, a3⟩, b1, b2', b3, b4', b5, ⟨c1, c2⟩, d⟩ := hb4
      have kS : rSt m V1 (sA U' (m + 27) 0 (gA U' (m + 27) 0 + 1)) := by
        have kH : rHf m V4 U := by
          rw [hU]
          have s0 : rHf m V4 (sL V4 (m + 28) kn v2) := ⟨fun _ _ _ _ _ => rfl, fun j hj => by rw [gL_sL, if_neg (by omega)]⟩
          have s1 : rHf m _ (sA (sL V4 (m + 28) kn v2) (m + 29) kn v4) := rHf_sA (by show kn < 20; omega)
          have s2 : rHf m _ (sA (sA (sL V4 (m + 28) kn v2) (m + 29) kn v4) (m + 31) kn (-1)) := rHf_sA (by show kn < 10; omega)
          have s3 : rHf m _ (sA (sA (sA (sL V4 (m + 28) kn v2) (m + 29) kn v4) (m + 31) kn (-1)) (m + 32) kn (-1)) := rHf_sA (by show kn < 10; omega)
          exact ((s0.trans s1).trans s2).trans s3
        have kH2 : rHf m U U' := ⟨fun a j x y z => by
          by_cases e : a = 33
          · rw [e] at z ⊢; exact x7 j z
          · rw [x5 _ (by omega)], fun j _ => by rw [x4]⟩
        refine kk.S.trans ⟨?_, fun i hi => ?_, fun i _ _ hi => ?_, fun i j _ => ?_, (kH.trans kH2).trans (rHf_sA (by show 0 < 3; decide))⟩
        · show gJ U' = _; rw [x3, hU]; rfl
        · show gL U' i = _; rw [x4, hU]; exact gL_sLn hi
        · rw [gA_sAo (by omega), x5 _ (by omega), hU, gA_sAo (by omega), gA_sAo (by omega), gA_sAo (by omega)]; rfl
        · show gI U' i j = _; rw [x2, hU]; rfl
      have o : ∀ i, i ≠ m + 27 → i ≠ m + 33 → i ≠ m + 29 → i ≠ m + 31 → i ≠ m + 32 → gA (sA U' (m + 27) 0 (gA U' (m + 27) 0 + 1)) i = gA V4 i := by
        intro i h1 h2 h3 h4 h5
        rw [gA_sAo h1, x5 _ h2, hU, gA_sAo h5, gA_sAo h4, gA_sAo h3]; rfl
      refine ⟨sA U' (m + 27) 0 (gA U' (m + 27) 0 + 1), top _ (E_gd (by rw [r4'.2]; decide) (E_if (fun _ => ?_) (fun y => absurd r4'.2 y))), kS, ?_, fun q' _ => ?_⟩
      · rw [ekn, Int.toNat_natCast]
        refine E_gd ⟨by omega, by omega, by omega⟩ (E_lt (E_lt (E_gd ⟨by omega, by omega, by omega⟩ (E_lt (E_lt ?_)))))
        rw [← hU]
        exact E_bd x1 (E_lt rfl)
      · refine rs10.t r4' (o _ (by omega) (by omega) (by omega) (by omega) (by omega)) (fun k => ?_)
        show gI U' m k = _; rw [x2, hU]; rfl
      · have c27 : ∀ k, gA (sA U' (m + 27) 0 (gA U' (m + 27) 0 + 1)) (m + 27) k = if k = 0 then cn C + 1 else gA V4 (m + 27) k := by
          intro k
          by_cases e : k = 0
          · subst e; rw [gA_sA, if_pos ⟨rfl, rfl⟩, if_pos rfl, g27, a1]
          · rw [gA_sA, if_neg (fun z => e z.2), if_neg e, g27]
        have c28 : ∀ k, gL (sA U' (m + 27) 0 (gA U' (m + 27) 0 + 1)) (m + 28) k = if k = kn then v2 else gL V4 (m + 28) k := by
          intro k; show gL U' (m + 28) k = _; rw [x4, hU]; exact gL_sLe
        have c29 : ∀ k, gA (sA U' (m + 27) 0 (gA U' (m + 27) 0 + 1)) (m + 29) k = if k = kn then v4 else gA V4 (m + 29) k := by
          intro k; rw [gA_sAo (by omega), x5 _ (by omega), hU, gA_sAo (by omega), gA_sAo (by omega), gA_sAf]; rfl
        have c31 : ∀ k, gA (sA U' (m + 27) 0 (gA U' (m + 27) 0 + 1)) (m + 31) k = if k = kn then -1 else gA V4 (m + 31) k := by
          intro k; rw [gA_sAo (by omega), x5 _ (by omega), hU, gA_sAo (by omega), gA_sAf, gA_sAo (by omega)]; rfl
        have c32 : ∀ k, gA (sA U' (m + 27) 0 (gA U' (m + 27) 0 + 1)) (m + 32) k = if k = kn then -1 else gA V4 (m + 32) k := by
          intro k; rw [gA_sAo (by omega), x5 _ (by omega), hU, gA_sAf, gA_sAo (by omega), gA_sAo (by omega)]; rfl
        have c33 : ∀ a b : Nat, a < 10 → b < 10 → gA (sA U' (m + 27) 0 (gA U' (m + 27) 0 + 1)) (m + 33) (10 * a + b) = if a = kn ∧ b = kn then 99 else if a = kn ∨ b = kn then 0 else gA V4 (m + 33) (10 * a + b) := by
          intro a b ha hb'; rw [gA_sAo (by omega), x6 a b ha hb', hU, gA_sAo (by omega), gA_sAo (by omega), gA_sAo (by omega)]; rfl
        have gi : ∀ k, gI (sA U' (m + 27) 0 (gA U' (m + 27) 0 + 1)) m k = gI V4 m k := by
          intro k; show gI U' m k = _; rw [x2, hU]; rfl
        refine ⟨⟨⟨by rw [c27, if_pos rfl]; rfl, fun j hj => ?_⟩, ⟨by rw [c27, if_neg (by decide)]; exact a2, fun j hj => ?_⟩, by rw [c27, if_neg (by decide)]; exact a3⟩, fun j hj => ?_, fun j hj => ?_, ?_, fun j hj => ?_, fun a b ha hb' => ?_, ⟨by rw [gi]; exact c1, ?_⟩, by rw [gi]; exact d⟩
        · have hj' : (j : Int) < cn C + 1 := hj
          rw [c28]
          show _ = nm27 (ul (cp C) (cn C) (ltr T p (lnT T p)) (j : Int))
          by_cases e : j = kn
          · rw [if_pos (by omega), v2e, e, ← ekn, ul_e]
          · rw [if_neg (by omega), ul_o (by omega)]; exact a1' j (by omega)
        · have hj' : (j : Int) < ct C := hj
          rw [c28, if_neg (by omega)]; exact a2' j hj'
        · have hj' : (j : Int) < cn C + 1 := hj
          rw [c29]
          show _ = uf (cw C) (cn C) (vlT T (nxT T (nxT T p))) (j : Int)
          by_cases e : j = kn
          · rw [if_pos e, v4e, e, ← ekn, uf_e]
          · rw [if_neg e, uf_o (by omega)]; exact b1 j (by omega)
        · have hj' : (j : Int) < ct C := hj
          rw [c29, if_neg (by omega)]; exact b2' j hj'
        · rw [o _ (by omega) (by omega) (by omega) (by omega) (by omega)]; exact b3
        · have hj' : (j : Int) < cn C + 1 := hj
          rw [c31, c32]
          show _ = uf (cc C) (cn C) (-1) (j : Int) ∧ _ = uf (cb C) (cn C) (-1) (j : Int)
          by_cases e : j = kn
          · rw [if_pos e, if_pos e, e, ← ekn, uf_e, uf_e]; exact ⟨rfl, rfl⟩
          · rw [if_neg e, if_neg e, uf_o (by omega), uf_o (by omega)]; exact b4' j (by omega)
        · have ha' : (a : Int) < cn C + 1 := ha
          have hb2 : (b : Int) < cn C + 1 := hb'
          rw [c33 a b (by omega) (by omega)]
          show _ = (if (a : Int) = cn C ∧ (b : Int) = cn C then (99 : Int) else if (a : Int) = cn C ∨ (b : Int) = cn C then 0 else ck C a b)
          by_cases e1 : a = kn ∧ b = kn
          · rw [if_pos e1, if_pos (show (a : Int) = cn C ∧ (b : Int) = cn C by omega)]
          · rw [if_neg e1, if_neg (show ¬ ((a : Int) = cn C ∧ (b : Int) = cn C) by omega)]
            by_cases e2 : a = kn ∨ b = kn
            · rw [if_pos e2, if_pos (show (a : Int) = cn C ∨ (b : Int) = cn C by omega)]
            · rw [if_neg e2, if_neg (show ¬ ((a : Int) = cn C ∨ (b : Int) = cn C) by omega)]; exact b5 a b (by omega) (by omega)
        · intro w hw4
          unfold rFb
          rw [o _ (show m + 34 ≠ m + 27 by omega) (by omega) (by omega) (by omega) (by omega), o _ (show m + 35 ≠ m + 27 by omega) (by omega) (by omega) (by omega) (by omega), o _ (show m + 36 ≠ m + 27 by omega) (by omega) (by omega) (by omega) (by omega)]
          exact c2 w hw4
/-- tasks told -/
theorem r_taskTold (hT : tOk T) (hG : is10 G m) (hw : rWd V m) (hb : rBd V m C) (ho : okC C) (hf : okN (cp C) (cn C) ∧ okN (cq C) (ct C)) {p : Nat} (h : rs10 V m T (.inr p)) {begun : Int} :
    ∃ V', F_X10_taskTold G m begun V = some (V', 0) ∧ rSt m V V' ∧ (if ct C = 8 then rs10 V' m T (.inl (5, begun)) else rs10 V' m T (aGv C T 3 99 p) ∧ ∀ q, aGv C T 3 99 p = .inr q → rBd V' m (addT C (ltr T p (lnT T p)) (vlT T (nxT T (nxT T p))))) := by
  have hn := ho.1
  have ht := ho.2.1
  obtain ⟨V1, e1, k1, r1⟩ := r_full (G := G) (T := T) (begun := begun) (k := 1) (room := 8) (by decide) hb.1.2.1.1 ⟨⟨by omega, by omega⟩, by decide⟩ h.2
  by_cases c : ct C = 8
  · simp only [if_pos c] at r1 e1 ⊢
    refine ⟨V1, ?_, k1.S, r1⟩
    unfold F_X10_taskTold
    exact E_bd e1 (E_gd (by decide) (E_if (fun y => absurd y (by decide)) (fun _ => rfl)))
  · simp only [if_neg c] at r1 e1 ⊢
    subst r1
    obtain ⟨V2, v2, e2, k2, r2, b2⟩ := r_new (C := C) hT hG hw ⟨hb.1.1, hb.1.2.1⟩ ⟨hn, ht⟩ hf h
    have w2 := hw.S k2.S
    obtain ⟨V3, e3, k3, r3⟩ := R_asks hT hG w2 (k := 6) (by unfold isW; omega) r2
    obtain ⟨V4, v4, e4, k4, r4, b4, c4⟩ := R_num (G := G) hT r3 (mx := 99) (by decide)
    have kk := (k2.trans k3).trans k4
    have r4' : rs10 V4 m T (aGv C T 3 99 p) := r4
    have ec : gA V1 (m + 27) 1 = ct C := hb.1.2.1.1
    have ec4 : gA V4 (m + 27) 1 = ct C := by rw [kk.1]; exact ec
    obtain ⟨kn, ekn⟩ : ∃ k : Nat, ct C = (k : Int) := ⟨(ct C).toNat, by omega⟩
    have hkn : kn < 8 := by omega
    have top : ∀ V', (gd (rg (gI V4 m 5)) <|
      if (gI V4 m 5) = 0 then (some (sA (sA (sL V4 (m + 28) (10 + kn) v2) (m + 29) (10 + kn) v4) (m + 27) 1 (ct C + 1), (0 : Int))) else (some (V4, 0))) = some (V', 0) → F_X10_taskTold G m begun V1 = some (V', 0) := by
      intro V' e
      unfold F_X10_taskTold
      have g5 : rg (gI V4 m 5) := by
        cases hA : aGv C T 3 99 p with
        | inl e => rw [hA] at r4'; exact r4'.bad.2
        | inr q => rw [hA] at r4'; rw [r4'.2]; decide
      rw [gd_p g5] at e
      refine E_bd e1 (E_gd (by decide) (E_if (fun _ => E_bd e2 (E_bd e3 (E_bd e4 (E_gd g5 (E_if (fun c5 => ?_) (fun c5 => ?_)))))) (fun y => absurd rfl y)))
      · rw [if_pos c5] at e
        have q1 : gA (sL V4 (m + 28) (10 + kn) v2) (m + 27) 1 = ct C := ec4
        have q2 : gA (sA (sL V4 (m + 28) (10 + kn) v2) (m + 29) (10 + kn) v4) (m + 27) 1 = ct C := by rw [gA_sAo (by omega)]; exact ec4
        have ek : (10 + ct C).toNat = 10 + kn := by omega
        rw [ec4, ek]
        refine E_gd ⟨by omega, by omega, by omega⟩ (E_lt ?_)
        rw [q1, ek]
        refine E_gd ⟨by omega, by omega, by omega⟩ (E_lt (E_lt ?_))
        rw [q2]
        exact e
      · rw [if_neg c5] at e
        exact e
    cases hA : aGv C T 3 99 p with
    | inl e =>
      rw [hA] at r4'
      refine ⟨V4, top V4 (E_gd r4'.bad.2 (E_if (fun y => absurd y r4'.bad.1) (fun _ => rfl))), kk.S, r4', fun q z => by cases z⟩
    | inr q =>
      rw [hA] at r4'
      obtain ⟨i1, i2, i3, i4, i5, i6⟩ := aGv_i hA
      have v4e := (c4 _ _ i6 i2).1
      have v2e := b2 _ i1
      have hb4 := hb.lk kk
      obtain ⟨⟨⟨a1, a1'⟩, ⟨a2, a2'⟩, a3⟩, b1, b2', b3, b4', b5, ⟨c1, c2⟩, d⟩ := hb4
      obtain ⟨U, hU⟩ : ∃ U, U = sA (sA (sL V4 (m + 28) (10 + kn) v2) (m + 29) (10 + kn) v4) (m + 27) 1 (ct C + 1) := ⟨_, rfl⟩
      have o : ∀ i, i ≠ m + 27 → i ≠ m + 29 → gA U i = gA V4 i := by
        intro i h1 h3
        rw [hU, gA_sAo h1, gA_sAo h3]; rfl
      have kS : rSt m V1 U := by
        have kH : rHf m V4 U := by
          rw [hU]
          have s0 : rHf m V4 (sL V4 (m + 28) (10 + kn) v2) := ⟨fun _ _ _ _ _ => rfl, fun j hj => by rw [gL_sL, if_neg (by omega)]⟩
          have s1 : rHf m _ (sA (sL V4 (m + 28) (10 + kn) v2) (m + 29) (10 + kn) v4) := rHf_sA (by show 10 + kn < 20; omega)
          exact (s0.trans s1).trans (rHf_sA (by show 1 < 3; decide))
        refine kk.S.trans ⟨by rw [hU]; rfl, fun i hi => ?_, fun i _ _ hi => o i (by omega) (by omega), fun i j _ => by rw [hU]; rfl, kH⟩
        rw [hU]; exact gL_sLn hi
      refine ⟨U, top _ (E_gd (by rw [r4'.2]; decide) (E_if (fun _ => by rw [hU]) (fun y => absurd r4'.2 y))), kS, ?_, fun q' _ => ?_⟩
      · exact rs10.t r4' (o _ (by omega) (by omega)) (fun k => by rw [hU]; rfl)
      · have c27 : ∀ k, gA U (m + 27) k = if k = 1 then ct C + 1 else gA V4 (m + 27) k := by
          intro k
          rw [hU, gA_sAf, gA_sAo (by omega)]; rfl
        have c28 : ∀ k, gL U (m + 28) k = if k = 10 + kn then v2 else gL V4 (m + 28) k := by
          intro k; rw [hU]; exact gL_sLe
        have c29 : ∀ k, gA U (m + 29) k = if k = 10 + kn then v4 else gA V4 (m + 29) k := by
          intro k; rw [hU, gA_sAo (by omega), gA_sAf]; rfl
        have gi : ∀ k, gI U m k = gI V4 m k := by
          intro k; rw [hU]; rfl
        refine ⟨⟨⟨by rw [c27, if_neg (by decide)]; exact a1, fun j hj => ?_⟩, ⟨by rw [c27, if_pos rfl]; rfl, fun j hj => ?_⟩, by rw [c27, if_neg (by decide)]; exact a3⟩, fun j hj => ?_, fun j hj => ?_, ?_, fun j hj => ?_, fun a b ha hb' => ?_, ⟨by rw [gi]; exact c1, ?_⟩, by rw [gi]; exact d⟩
        · have hj' : (j : Int) < cn C := hj
          rw [c28, if_neg (by omega)]; exact a1' j hj'
        · have hj' : (j : Int) < ct C + 1 := hj
          rw [c28]
          show _ = nm27 (ul (cq C) (ct C) (ltr T p (lnT T p)) (j : Int))
          by_cases e : j = kn
          · rw [if_pos (by omega), v2e, e, ← ekn, ul_e]
          · rw [if_neg (by omega), ul_o (by omega)]; exact a2' j (by omega)
        · have hj' : (j : Int) < cn C := hj
          rw [c29, if_neg (by omega)]; exact b1 j hj'
        · have hj' : (j : Int) < ct C + 1 := hj
          rw [c29]
          show _ = uf (ch C) (ct C) (vlT T (nxT T (nxT T p))) (j : Int)
          by_cases e : j = kn
          · rw [if_pos (by omega), v4e, e, ← ekn, uf_e]
          · rw [if_neg (by omega), uf_o (by omega)]; exact b2' j (by omega)
        · rw [o _ (by omega) (by omega)]; exact b3
        · have hj' : (j : Int) < cn C := hj
          rw [o _ (by omega) (by omega), o _ (by omega) (by omega)]; exact b4' j hj'
        · have ha' : (a : Int) < cn C := ha
          have hb2 : (b : Int) < cn C := hb'
          rw [o _ (by omega) (by omega)]; exact b5 a b ha' hb2
        · intro w hw4
          unfold rFb
          rw [o _ (show m + 34 ≠ m + 27 by omega) (by omega), o _ (show m + 35 ≠ m + 27 by omega) (by omega), o _ (show m + 36 ≠ m + 27 by omega) (by omega)]
          exact c2 w hw4
end

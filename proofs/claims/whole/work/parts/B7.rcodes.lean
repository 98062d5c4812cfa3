/-! a rule told (reference) -/
theorem clr_sh {f g : Nat → Int} : ∀ {cs : List Int} {a b : Nat}, clr f a cs → (∀ j, j < cs.length → g (b + j) = f (a + j)) → clr g b cs
  | [], _, _, _, _ => trivial
  | v :: cs, a, b, h, k => ⟨by have := k 0 (by rw [List.length_cons]; omega); rw [Nat.add_zero, Nat.add_zero] at this; rw [this]; exact h.1, clr_sh (cs := cs) h.2 (fun j hj => by
      have := k (j + 1) (by rw [List.length_cons]; omega)
      rw [show b + 1 + j = b + (j + 1) by omega, show a + 1 + j = a + (j + 1) by omega]; exact this)⟩
section
variable {G : mG} {V V' : mV} {m : Nat} {C : mCy} {T : mT2}
/-- what has been told stands, or a fault -/
def oQ (V : mV) (m : Nat) (T : mT2) (y : tC) : Prop := match y with
  | .inl e => rs10 V m T (.inl e)
  | .inr y => rs10 V m T (.inr y.2) ∧ rBd V m y.1
theorem rA.o {p : Nat} (h : rA V m T p) (a : gA V' (m + 1) = gA V (m + 1)) (b2 : gI V' m 2 = gI V m 2) (b3 : gI V' m 3 = gI V m 3) (b4 : gI V' m 4 = gI V m 4) : rA V' m T p := by
  unfold rA at h ⊢
  rw [a, b3, b2, b4]; exact h
theorem l_codes {w begun : Int} {n K : Nat} (h98 : gI V m 98 = (n : Int)) (h46 : gI V m 46 = (K : Int)) (hn : n ≤ 1600 ∧ K ≤ 1600) :
    ∃ V', lp (fun (s : Int) V => B_X10_codesTold_103 G m w begun s V) FU 0 V = some (V', 1, (n : Int)) ∧ gJ V' = gJ V ∧ gL V' = gL V ∧ (∀ i, i ≠ m + 36 → gA V' i = gA V i) ∧ (∀ i k, (i ≠ m ∨ k ≠ 46) → gI V' i k = gI V i k) ∧ gI V' m 46 = ((K + n : Nat) : Int) ∧ ∀ k, gA V' (m + 36) k = if K ≤ k ∧ k < K + n then gA V (m + 68) (k - K) else gA V (m + 36) k := by
  have key : ∀ (u j : Nat) (W : mV) (fu : Nat), j + u = n → u < fu → (gJ W = gJ V ∧ gL W = gL V ∧ (∀ i, i ≠ m + 36 → gA W i = gA V i) ∧ (∀ i k, (i ≠ m ∨ k ≠ 46) → gI W i k = gI V i k) ∧ gI W m 46 = ((K + j : Nat) : Int) ∧ ∀ k, gA W (m + 36) k = if K ≤ k ∧ k < K + j then gA V (m + 68) (k - K) else gA V (m + 36) k) → ∃ V', lp (fun (s : Int) V => B_X10_codesTold_103 G m w begun s V) fu (j : Int) W = some (V', 1, (n : Int)) ∧ (gJ V' = gJ V ∧ gL V' = gL V ∧ (∀ i, i ≠ m + 36 → gA V' i = gA V i) ∧ (∀ i k, (i ≠ m ∨ k ≠ 46) → gI V' i k = gI V i k) ∧ gI V' m 46 = ((K + n : Nat) : Int) ∧ ∀ k, gA V' (m + 36) k = if K ≤ k ∧ k < K + n then gA V (m + 68) (k - K) else gA V (m + 36) k) := by
    intro u
    induction u with
    | zero =>
      intro j W fu hj hf hI
      have e : j = n := by omega
      subst e
      refine ⟨W, lp_stop (q := (1, (j : Int))) ?_ Nat.one_ne_zero hf, hI⟩
      show B_X10_codesTold_103 G m w begun (j : Int) W = _
      unfold B_X10_codesTold_103
      rw [hI.2.2.2.1 m 98 (Or.inr (by decide)), h98]
      exact E_gd ⟨by omega, by omega⟩ (E_gd ⟨by omega, by omega⟩ (E_if (fun _ => rfl) (fun y => absurd (Int.le_refl _) y)))
    | succ u ih =>
      intro j W fu hj hf ⟨i1, i2, i3, i4, i5, i6⟩
      obtain ⟨fu, rfl⟩ : ∃ i, fu = i + 1 := ⟨fu - 1, by omega⟩
      have st : B_X10_codesTold_103 G m w begun (j : Int) W = some (sI (sA W (m + 36) (K + j) (gA V (m + 68) j)) m 46 ((K + (j + 1) : Nat) : Int), 0, ((j + 1 : Nat) : Int)) := by
        unfold B_X10_codesTold_103
        rw [i4 m 98 (Or.inr (by decide)), h98, i5, Int.toNat_natCast, Int.toNat_natCast, i3 _ (by omega)]
        refine E_gd ⟨by omega, by omega⟩ (E_gd ⟨by omega, by omega⟩ (E_if (fun y => by omega) (fun _ => E_gd ⟨by omega, by omega, by omega⟩ (E_gd ⟨by omega, by omega, by omega⟩ (E_lt (E_lt (E_lt (E_so ?_ (Prod.ext rfl (by show (j : Int) + 1 = ((j + 1 : Nat) : Int); omega))))))))))
        have : gI (sA W (m + 36) (K + j) (gA V (m + 68) j)) m 46 = ((K + j : Nat) : Int) := i5
        rw [this, show ((K + j : Nat) : Int) + 1 = ((K + (j + 1) : Nat) : Int) by omega]
      rw [lp_more st]
      refine ih (j + 1) _ fu (by omega) (by omega) ⟨i1, i2, fun i hi => ?_, fun i k hik => ?_, by rw [gI_sI, if_pos ⟨rfl, rfl⟩], fun k => ?_⟩
      · show gA (sA W (m + 36) (K + j) (gA V (m + 68) j)) i = _
        rw [gA_sAo hi]; exact i3 i hi
      · rw [gI_sI, if_neg (by omega)]; exact i4 i k hik
      · show gA (sA W (m + 36) (K + j) (gA V (m + 68) j)) (m + 36) k = _
        rw [gA_sAf, i6]
        by_cases e : k = K + j
        · rw [if_pos e, if_pos (by omega), e, show K + j - K = j by omega]
        · rw [if_neg e]
          by_cases y : K ≤ k ∧ k < K + j
          · rw [if_pos y, if_pos (by omega)]
          · rw [if_neg y, if_neg (by omega)]
  obtain ⟨V', e, h⟩ := key n 0 V FU (by omega) (by unfold FU; omega) ⟨rfl, rfl, fun _ _ => rfl, fun _ _ _ => rfl, h46, fun k => by rw [if_neg (by omega)]⟩
  exact ⟨V', e, h⟩
theorem lnC_R {w : Nat} {c : List Int} (hw : w ≤ 3) (h : co C w = []) : lnC (addR C w c) = lnC C + c.length := by
  have : w = 0 ∨ w = 1 ∨ w = 2 ∨ w = 3 := by omega
  have o : ∀ j, j ≠ w → co (addR C w c) j = co C j := fun j hj => if_neg hj
  have e : co (addR C w c) w = c := if_pos rfl
  unfold lnC
  rcases this with rfl | rfl | rfl | rfl
  · rw [e, o 1 (by decide), o 2 (by decide), o 3 (by decide), h, List.length_nil]; omega
  · rw [e, o 0 (by decide), o 2 (by decide), o 3 (by decide), h, List.length_nil]; omega
  · rw [e, o 0 (by decide), o 1 (by decide), o 3 (by decide), h, List.length_nil]; omega
  · rw [e, o 0 (by decide), o 1 (by decide), o 2 (by decide), h, List.length_nil]; omega
theorem rFb_emp {w K : Nat} {cs : List Int} (h : rFb V m w K cs) : (gA V (m + 34) w = -1 ↔ cs = []) ∧ (K ≤ 1600 → rg (gA V (m + 34) w)) := by
  rcases h with ⟨a, b⟩ | ⟨a, x, y, c, d, e, f, g⟩
  · exact ⟨⟨fun _ => a, fun _ => b⟩, fun _ => by rw [b]; decide⟩
  · refine ⟨⟨fun z => by omega, fun z => absurd z a⟩, fun hK => by rw [c]; exact ⟨by omega, by omega⟩⟩
/-- behind a fault -/
theorem r_codes1 {w : Nat} (hw : w ≤ 3) {begun : Int} (h0 : gI V m 5 ≠ 0) (hr : rg (gI V m 5)) : F_X10_codesTold G m (w : Int) begun V = some (V, 0) := by
  unfold F_X10_codesTold
  refine E_gd hr (E_if (fun y => absurd y h0) (fun _ => ?_))
  unfold F_X10_codesTold_J23
  exact E_gd hr (E_if (fun y => absurd y h0) (fun _ => rfl))
theorem r_codesT (hT : tOk T) (hG : is10 G m) (hw : rWd V m) (hb : rBd V m C) {p : Nat} (h : rs10 V m T (.inr p)) {begun : Int} {w : Nat} (hw3 : w ≤ 3) (hl : lnC C ≤ p) :
    ∃ V', F_X10_codesTold G m (w : Int) begun V = some (V', 0) ∧ rSt m V V' ∧ oQ V' m T (if co C w ≠ [] then .inl (5, begun) else aRu C T w p) := by
  have pn := rA_le h.1
  have hn := hT.1
  have hK : lnC C ≤ 1600 := by omega
  have hf := hb.2.2.2.2.2.2.1.2 w (by omega)
  obtain ⟨f1, f2⟩ := rFb_emp hf
  by_cases c : co C w = []
  · rw [if_neg (fun q => q c)]
    have e34 := f1.mpr c
    obtain ⟨V1, hV1⟩ : ∃ V1, V1 = sI (sI (sI (sI (sI V m 48 ((w - 1 : Nat) : Int)) m 98 0) m 100 0) m 101 0) m 102 0 := ⟨_, rfl⟩
    have gi : ∀ k, k ≠ 48 → k ≠ 98 → k ≠ 100 → k ≠ 101 → k ≠ 102 → gI V1 m k = gI V m k := by
      intro k a b c d e
      rw [hV1, gI_sI, if_neg (by omega), gI_sI, if_neg (by omega), gI_sI, if_neg (by omega), gI_sI, if_neg (by omega), gI_sI, if_neg (by omega)]
    have k1 : rSt m V V1 := by
      rw [hV1]
      exact ((((rSt_sI (by omega)).trans (rSt_sI (by omega))).trans (rSt_sI (by omega))).trans (rSt_sI (by omega))).trans (rSt_sI (by omega))
    have gAA : gA V1 = gA V := by rw [hV1]; rfl
    have gLL : gL V1 = gL V := by rw [hV1]; rfl
    have r0 : rW0 V1 m T (w - 1) [] 0 p 0 [] := by
      refine ⟨rA.o h.1 (by rw [gAA]) (gi 2 (by decide) (by decide) (by decide) (by decide) (by decide)) (gi 3 (by decide) (by decide) (by decide) (by decide) (by decide)) (gi 4 (by decide) (by decide) (by decide) (by decide) (by decide)), by rw [gi 5 (by decide) (by decide) (by decide) (by decide) (by decide)]; exact h.2, ?_, hw.of (fun i _ => by rw [gAA]), ⟨?_, trivial, ?_, ?_, ?_, trivial, (fun a ha => by cases ha), by decide⟩, ⟨Nat.le_refl _, by decide⟩, Nat.zero_le _⟩
      · rw [hV1, gI_sI, if_neg (by omega), gI_sI, if_neg (by omega), gI_sI, if_neg (by omega), gI_sI, if_neg (by omega), gI_sI, if_pos ⟨rfl, rfl⟩]
      · rw [hV1, gI_sI, if_neg (by omega), gI_sI, if_neg (by omega), gI_sI, if_pos ⟨rfl, rfl⟩]; rfl
      · rw [hV1, gI_sI, if_pos ⟨rfl, rfl⟩]; rfl
      · rw [hV1, gI_sI, if_neg (by omega), gI_sI, if_pos ⟨rfl, rfl⟩]; rfl
      · rw [hV1, gI_sI, if_neg (by omega), gI_sI, if_neg (by omega), gI_sI, if_neg (by omega), gI_sI, if_pos ⟨rfl, rfl⟩]; rfl
    -- the descent
    have rdr : ∃ V2, (if 2 ≤ (w : Int) then F_X10_qTest G m V1 else F_X10_qSums G m V1) = some (V2, 0) ∧ rB m V1 V2 ∧ ((∃ e, rd (kT (w - 1) T) 64 (if w ≤ 1 then 3 else 0) 0 p = .inl e ∧ rs10 V2 m T (.inl e)) ∨ ∃ c q, rd (kT (w - 1) T) 64 (if w ≤ 1 then 3 else 0) 0 p = .inr (c, q) ∧ c.length + p ≤ q ∧ q ≤ T.2 ∧ rs10 V2 m T (.inr q) ∧ gI V2 m 98 = (c.length : Int) ∧ clr (gA V2 (m + 68)) 0 c) := by
      by_cases w2 : 2 ≤ w
      · rw [if_pos (show (2 : Int) ≤ (w : Int) by omega), if_neg (show ¬ w ≤ 1 by omega)]
        obtain ⟨V2, e2, k2, rs⟩ := r_test (G := G) hT hG (by omega) r0
        refine ⟨V2, e2, k2, ?_⟩
        rcases rs with ⟨e, a, b⟩ | ⟨c, q, o', a, b, d⟩
        · exact Or.inl ⟨e, a, b.1⟩
        · have pr := pr64 hT pn a
          exact Or.inr ⟨c, q, a, pr.2.2, pr.2.1, ⟨d.1, d.2.1⟩, d.2.2.2.2.1.2.2.2.2.1, d.2.2.2.2.1.2.2.2.2.2.1⟩
      · rw [if_neg (show ¬ (2 : Int) ≤ (w : Int) by omega), if_pos (show w ≤ 1 by omega)]
        obtain ⟨V2, e2, k2, rs⟩ := r_sums (G := G) hT hG (by omega) (fun a S' q => by cases q) r0
        refine ⟨V2, e2, k2, ?_⟩
        rcases rs with ⟨e, a, b⟩ | ⟨c, q, a, b, d⟩
        · exact Or.inl ⟨e, a, b.1⟩
        · have pr := pr64 hT pn a
          rw [List.nil_append] at d
          exact Or.inr ⟨c, q, a, pr.2.2, pr.2.1, ⟨d.1, d.2.1⟩, d.2.2.2.2.1.2.2.2.2.1, d.2.2.2.2.1.2.2.2.2.2.1⟩
    obtain ⟨V2, e2, k2, rs⟩ := rdr
    have top : ∀ V3, F_X10_codesTold_J83 G m (w : Int) begun V2 = some (V3, 0) → F_X10_codesTold G m (w : Int) begun V = some (V3, 0) := by
      intro V3 e3
      have j44 : ∀ s1 : Int, s1 = ((w - 1 : Nat) : Int) → F_X10_codesTold_J44 G m (w : Int) begun s1 V = some (V3, 0) := by
        intro s1 hs1
        unfold F_X10_codesTold_J44
        refine E_lt (E_lt (E_lt (E_lt (E_lt (E_gd ⟨by omega, by omega⟩ ?_)))))
        rw [hs1, ← hV1]
        by_cases w2 : 2 ≤ (w : Int)
        · rw [if_pos w2] at e2 ⊢
          exact E_bd e2 e3
        · rw [if_neg w2] at e2 ⊢
          exact E_bd e2 e3
      unfold F_X10_codesTold
      refine E_gd (by rw [h.2]; decide) (E_if (fun _ => E_gd ⟨by omega, by omega, by omega⟩ ?_) (fun y => absurd h.2 y))
      rw [Int.toNat_natCast]
      refine E_gd (f2 hK) (E_if (fun _ => ?_) (fun y => absurd e34 y))
      unfold F_X10_codesTold_J23
      refine E_gd (by rw [h.2]; decide) (E_if (fun _ => E_gd ⟨by omega, by omega⟩ (E_if (fun y => ?_) (fun y => ?_))) (fun y => absurd h.2 y))
      · exact j44 _ (by omega)
      · exact j44 _ (by omega)
    unfold aRu
    rcases rs with ⟨e, a, b⟩ | ⟨cs, q, a, b, b2, d, d2, d3⟩
    · rw [a]
      refine ⟨V2, top V2 ?_, k1.trans k2.S, b⟩
      unfold F_X10_codesTold_J83
      exact E_gd b.bad.2 (E_if (fun y => absurd y b.bad.1) (fun _ => rfl))
    · rw [a]
      obtain ⟨hne, -⟩ := fok_rd hw3 a
      have hb2 : rBd V2 m C := by
        refine rBd.b (V := V1) ?_ k2
        obtain ⟨⟨a1, a2, a3⟩, b1, b2', b3, b4, b5, ⟨c1, c2⟩, dd⟩ := hb
        unfold rBd rFb
        rw [gAA, gi 46 (by decide) (by decide) (by decide) (by decide) (by decide), gi 47 (by decide) (by decide) (by decide) (by decide) (by decide)]
        exact ⟨⟨a1.of (by rw [gAA]) (by rw [gLL]), a2.of (by rw [gAA]) (by rw [gLL]), a3⟩, b1, b2', b3, b4, b5, ⟨c1, c2⟩, dd⟩
      obtain ⟨⟨a1, a2, a3⟩, b1, b2', b3, b4, b5, ⟨c1, c2⟩, dd⟩ := hb2
      have h46 : gI (sA V2 (m + 34) w (gI V2 m 46)) m 46 = (lnC C : Int) := c1
      have h98 : gI (sA V2 (m + 34) w (gI V2 m 46)) m 98 = (cs.length : Int) := d2
      obtain ⟨V3, e3, j1, j2, j3, j4, j5, j6⟩ := l_codes (G := G) (w := (w : Int)) (begun := begun) h98 h46 ⟨by omega, hK⟩
      have o : ∀ i, i ≠ m + 34 → i ≠ m + 35 → i ≠ m + 36 → gA (sA V3 (m + 35) w (gI V3 m 46)) i = gA V2 i := by
        intro i x1 x2 x3
        rw [gA_sAo x2, j3 i x3, gA_sAo x1]
      have gi3 : ∀ k, k ≠ 46 → gI (sA V3 (m + 35) w (gI V3 m 46)) m k = gI V2 m k := fun k hk => (j4 m k (Or.inr hk)).trans rfl
      refine ⟨sA V3 (m + 35) w (gI V3 m 46), top _ ?_, ?_, ⟨?_, ?_⟩, ?_⟩
      · unfold F_X10_codesTold_J83
        refine E_gd (by rw [d.2]; decide) (E_if (fun _ => E_gd ⟨by omega, by omega, by omega⟩ (E_lt ?_)) (fun y => absurd d.2 y))
        rw [Int.toNat_natCast]
        exact E_bd e3 (E_lt rfl)
      · refine (k1.trans k2.S).trans ⟨j1.trans rfl, fun i _ => by show gL V3 i = _; rw [j2]; rfl, fun i _ _ hi => o i (by omega) (by omega) (by omega), fun i k hik => ?_, ?_⟩
        · show gI V3 i k = _
          rw [j4 i k (by omega)]; rfl
        have s1 : rHf m V2 (sA V2 (m + 34) w (gI V2 m 46)) := rHf_sA (by show w < 4; omega)
        have s2 : rHf m (sA V2 (m + 34) w (gI V2 m 46)) V3 := ⟨fun a k x y z => by
          by_cases e : a = 36
          · rw [e] at z ⊢
            have z' : 1600 ≤ k := z
            rw [j6, if_neg (by omega)]
          · rw [j3 _ (by omega)], fun k _ => by rw [j2]⟩
        exact (s1.trans s2).trans (rHf_sA (by show w < 4; omega))
      · exact rA.o d.1 (o _ (by omega) (by omega) (by omega)) (gi3 2 (by decide)) (gi3 3 (by decide)) (gi3 4 (by decide))
      · exact (gi3 5 (by decide)).trans d.2
      · have L : lnC (addR C w cs) = lnC C + cs.length := lnC_R hw3 c
        have g28 : gL (sA V3 (m + 35) w (gI V3 m 46)) (m + 28) = gL V2 (m + 28) := by show gL V3 (m + 28) = _; rw [j2]; rfl
        have g27 := o (m + 27) (by omega) (by omega) (by omega)
        refine ⟨⟨a1.of g27 g28, a2.of g27 g28, by rw [g27]; exact a3⟩, fun j hj => by rw [o _ (by omega) (by omega) (by omega)]; exact b1 j hj, fun j hj => by rw [o _ (by omega) (by omega) (by omega)]; exact b2' j hj, fun j hj => by rw [o _ (by omega) (by omega) (by omega)]; exact b3 j hj, fun j hj => by rw [o _ (by omega) (by omega) (by omega), o _ (by omega) (by omega) (by omega)]; exact b4 j hj, fun x y hx hy => by rw [o _ (by omega) (by omega) (by omega)]; exact b5 x y hx hy, ⟨?_, fun u hu => ?_⟩, (gi3 47 (by decide)).trans dd⟩
        · show gI V3 m 46 = _
          rw [j5, L]
        · have c34 : ∀ k, gA (sA V3 (m + 35) w (gI V3 m 46)) (m + 34) k = if k = w then (lnC C : Int) else gA V2 (m + 34) k := by
            intro k
            rw [gA_sAo (by omega), j3 _ (by omega), gA_sAf, c1]
          have c35 : ∀ k, gA (sA V3 (m + 35) w (gI V3 m 46)) (m + 35) k = if k = w then ((lnC C + cs.length : Nat) : Int) else gA V2 (m + 35) k := by
            intro k
            rw [gA_sAf, j5, j3 _ (by omega), gA_sAo (by omega)]
          have c36 : ∀ k, gA (sA V3 (m + 35) w (gI V3 m 46)) (m + 36) k = if lnC C ≤ k ∧ k < lnC C + cs.length then gA V2 (m + 68) (k - lnC C) else gA V2 (m + 36) k := by
            intro k
            rw [gA_sAo (by omega), j6, gA_sAo (by omega), gA_sAo (by omega)]
          unfold rFb
          rw [c34, c35]
          by_cases e : u = w
          · rw [if_pos e, if_pos e, e, show co (addR C w cs) w = cs from if_pos rfl]
            refine Or.inr ⟨hne, lnC C, lnC C + cs.length, rfl, rfl, rfl, by rw [L]; exact Nat.le_refl _, clr_sh d3 (fun j hj => ?_)⟩
            rw [c36, if_pos (by omega), show lnC C + j - lnC C = 0 + j by omega]
          · rw [if_neg e, if_neg e, show co (addR C w cs) u = co C u from if_neg e]
            rcases c2 u hu with x | ⟨x1, xa, xb, x2, x3, x4, x5, x6⟩
            · exact Or.inl x
            · refine Or.inr ⟨x1, xa, xb, x2, x3, x4, by rw [L]; omega, clr_sh x6 (fun j hj => ?_)⟩
              rw [c36, if_neg (by omega)]
  · rw [if_pos c]
    obtain ⟨V1, e1, k1, r1⟩ := r_fail (G := G) (T := T) h.2 (k := 5) (w := begun) ⟨by decide, by decide⟩
    refine ⟨V1, ?_, k1.S, r1⟩
    unfold F_X10_codesTold
    refine E_gd (by rw [h.2]; decide) (E_if (fun _ => E_gd ⟨by omega, by omega, by omega⟩ ?_) (fun y => absurd h.2 y))
    rw [Int.toNat_natCast]
    refine E_gd (f2 hK) (E_if (fun y => absurd (f1.mp y) c) (fun _ => E_bd e1 ?_))
    unfold F_X10_codesTold_J23
    exact E_gd r1.bad.2 (E_if (fun y => absurd y r1.bad.1) (fun _ => rfl))
end

/-! a statement told, a city told (reference) -/
section
variable {G : mG} {V V' : mV} {m : Nat} {C : mCy} {T : mT2}
theorem R_tk (hT : tOk T) (hG : is10 G m) (hw : rWd V m) {k w : Nat} (hk : isW k) (hwk : awk k = w) {p : Nat} (h : rs10 V m T (.inr p)) : ∃ V', F_X10_takes G m (m + k) V = some (V', if nmT T p = (w : Int) then 1 else 0) ∧ rLk m V V' ∧ rs10 V' m T (.inr (if nmT T p = (w : Int) then nxT T p else p)) := by
  have hkk := awk_len ⟨k, by unfold isW at hk; omega⟩
  have a := qG_w hG k hk
  have b := hw k hk
  subst hwk
  obtain ⟨V1, e1, k1, r1, -⟩ := r_tkW (G := G) hT hkk a b h.1 h.2
  exact ⟨V1, e1, k1, r1⟩
theorem rs10_47 {y : (Int × Int) ⊕ Nat} (h : rs10 V m T y) {v : Int} : rs10 (sI V m 47 v) m T y := by
  have o : ∀ k, k ≠ 47 → gI (sI V m 47 v) m k = gI V m k := fun k hk => by rw [gI_sI, if_neg (by omega)]
  cases y with
  | inl e =>
    obtain ⟨a, b, c⟩ := h
    exact ⟨by rw [o 5 (by decide)]; exact a, by rw [o 6 (by decide)]; exact b, c⟩
  | inr q => exact ⟨rA.o h.1 rfl (o 2 (by decide)) (o 3 (by decide)) (o 4 (by decide)), by rw [o 5 (by decide)]; exact h.2⟩
theorem r_endC (hT : tOk T) {y : tC} (h : oQ V m T y) : ∃ V', F_X10_statementTold_J188 G m V = some (V', 0) ∧ rSt m V V' ∧ oQ V' m T (endC T y) := by
  unfold F_X10_statementTold_J188
  cases y with
  | inl e =>
    have h' : rs10 V m T (.inl e) := h
    obtain ⟨V1, e1, k1, r1⟩ := R_aSg (G := G) hT h' (s := 59) (by decide) (by decide)
    have r1' : rs10 V1 m T (.inl e) := r1
    exact ⟨_, E_bd e1 (E_lt rfl), k1.S.trans (rSt_sI (by omega)), rs10_47 r1'⟩
  | inr y =>
    obtain ⟨C1, q⟩ := y
    obtain ⟨h1, h2⟩ := h
    have h1' : rs10 V m T (.inr q) := h1
    have h2' : rBd V m C1 := h2
    obtain ⟨V1, e1, k1, r1⟩ := R_aSg (G := G) hT h1' (s := 59) (by decide) (by decide)
    have r1' : rs10 V1 m T (nSg T 59 q) := r1
    have b1 := h2'.lk k1
    refine ⟨_, E_bd e1 (E_lt rfl), k1.S.trans (rSt_sI (by omega)), ?_⟩
    show oQ _ m T (toC (nSg T 59 q) (addU C1))
    have b2 : rBd (sI V1 m 47 (gI V1 m 47 + 1)) m (addU C1) := by
      obtain ⟨a, b, c, d, e, f, ⟨g1, g2⟩, g3⟩ := b1
      refine ⟨a, b, c, d, e, f, ⟨by rw [gI_sI, if_neg (by omega)]; exact g1, g2⟩, ?_⟩
      rw [gI_sI, if_pos ⟨rfl, rfl⟩, g3]; rfl
    cases hs : nSg T 59 q with
    | inl e => rw [hs] at r1'; exact rs10_47 r1'
    | inr q' => rw [hs] at r1'; exact ⟨rs10_47 r1', b2⟩
theorem oQ_to {y : (Int × Int) ⊕ Nat} {C1 : mCy} (h : rs10 V m T y) (h2 : ∀ q, y = .inr q → rBd V m C1) : oQ V m T (toC y C1) := by
  cases y with
  | inl e => exact h
  | inr q => exact ⟨h, h2 q rfl⟩
/-- one statement -/
theorem r_stmt (hT : tOk T) (hG : is10 G m) (hw : rWd V m) (hb : rBd V m C) (hs : okS C) (hu : 0 ≤ cu C ∧ cu C ≤ 70) {p : Nat} (hl : lnC C ≤ p) (h : rs10 V m T (.inr p)) (h2 : gI V m 2 = (p : Int)) :
    ∃ V', F_X10_statementTold G m V = some (V', 0) ∧ rSt m V V' ∧ oQ V' m T (aSt C T p) := by
  obtain ⟨ho, hf⟩ := hs
  have h47 : gI V m 47 = cu C := hb.2.2.2.2.2.2.2
  by_cases u70 : cu C = 70
  · obtain ⟨V1, e1, k1, r1⟩ := r_fail (G := G) (T := T) h.2 (k := 5) (w := (p : Int)) ⟨by decide, by decide⟩
    have hA : aSt C T p = .inl (5, (p : Int)) := by
      have : aSt1 C T p = .inl (5, (p : Int)) := by unfold aSt1; rw [if_pos u70]
      unfold aSt; rw [this]; rfl
    rw [hA]
    refine ⟨V1, ?_, k1.S, r1⟩
    unfold F_X10_statementTold
    refine E_lt ?_
    rw [h47, h2]
    exact E_gd ⟨by omega, by omega⟩ (E_if (fun _ => E_bd e1 rfl) (fun y => absurd u70 y))
  -- from what is told
  have fin : ∀ {U : mV} {y : tC}, rSt m V U → oQ U m T y → aSt1 C T p = y → ∃ V', F_X10_statementTold_J188 G m U = some (V', 0) ∧ rSt m V V' ∧ oQ V' m T (aSt C T p) := by
    intro U y k o hA
    obtain ⟨V1, e1, k1, o1⟩ := r_endC (G := G) hT o
    refine ⟨V1, e1, k.trans k1, ?_⟩
    unfold aSt; rw [hA]; exact o1
  have head : ∀ res, bd (F_X10_takes G m (m + 3) V) (fun V4 v5 =>
  gd (rg v5) <|
  if v5 = 0 then (bd (F_X10_takes G m (m + 5) V4) fun V9 v10 =>
  gd (rg v10) <|
  if v10 = 0 then (bd (F_X10_takes G m (m + 7) V9) fun V14 v15 =>
  gd (rg v15) <|
  if v15 = 0 then (bd (F_X10_takes G m (m + 9) V14) fun V19 v20 =>
  gd (rg v20) <|
  if v20 = 0 then (bd (F_X10_takes G m (m + 10) V19) fun V24 v25 =>
  gd (rg v25) <|
  if v25 = 0 then (bd (F_X10_takes G m (m + 11) V24) fun V29 v30 =>
  gd (rg v30) <|
  if v30 = 0 then (bd (F_X10_takes G m (m + 12) V29) fun V34 v35 =>
  gd (rg v35) <|
  if v35 = 0 then (bd (F_X10_takes G m (m + 13) V34) fun V39 v40 =>
  gd (rg v40) <|
  if v40 = 0 then (bd (F_X10_asks G m (m + 14) V39) fun V44 v45 =>
  bd (F_X10_codesTold G m 3 (p : Int) V44) fun V47 v48 =>
  F_X10_statementTold_J188 G m V47) else (bd (F_X10_codesTold G m 2 (p : Int) V39) fun V54 v55 =>
  F_X10_statementTold_J188 G m V54)) else (bd (F_X10_codesTold G m 1 (p : Int) V34) fun V57 v58 =>
  F_X10_statementTold_J188 G m V57)) else (bd (F_X10_codesTold G m 0 (p : Int) V29) fun V60 v61 =>
  F_X10_statementTold_J188 G m V60)) else (bd (F_X10_knownTold G m V24) fun V63 v64 =>
  F_X10_statementTold_J188 G m V63)) else (bd (F_X10_coverTold G m V19) fun V66 v67 =>
  F_X10_statementTold_J188 G m V66)) else (bd (F_X10_dutyTold G m (p : Int) V14) fun V69 v70 =>
  F_X10_statementTold_J188 G m V69)) else (bd (F_X10_taskTold G m (p : Int) V9) fun V72 v73 =>
  F_X10_statementTold_J188 G m V72)) else (bd (F_X10_personTold G m (p : Int) V4) fun V75 v76 =>
  F_X10_statementTold_J188 G m V75)) = res → F_X10_statementTold G m V = res := by
    intro res e
    unfold F_X10_statementTold
    refine E_lt ?_
    rw [h47, h2]
    exact E_gd ⟨by omega, by omega⟩ (E_if (fun y => absurd y u70) (fun _ => e))
  have lift : ∀ {F : Option (mV × Int)}, F_X10_statementTold G m V = F → (∃ V', F = some (V', 0) ∧ rSt m V V' ∧ oQ V' m T (aSt C T p)) → ∃ V', F_X10_statementTold G m V = some (V', 0) ∧ rSt m V V' ∧ oQ V' m T (aSt C T p) := by
    intro F e hh; rw [e]; exact hh
  -- one word tried
  have yes : ∀ {U U' : mV} {k w : Nat} {A B : mV → Option (mV × Int)}, F_X10_takes G m (m + k) U = some (U', if nmT T p = (w : Int) then 1 else 0) → nmT T p = (w : Int) → bd (F_X10_takes G m (m + k) U) (fun V4 v5 => gd (rg v5) <| if v5 = 0 then A V4 else B V4) = B U' := by
    intro U U' k w A B e hn
    rw [if_pos hn] at e
    exact E_bd e (E_gd (by decide) (E_if (fun y => absurd y (by decide)) (fun _ => rfl)))
  have no : ∀ {U U' : mV} {k w : Nat} {A B : mV → Option (mV × Int)}, F_X10_takes G m (m + k) U = some (U', if nmT T p = (w : Int) then 1 else 0) → ¬ nmT T p = (w : Int) → bd (F_X10_takes G m (m + k) U) (fun V4 v5 => gd (rg v5) <| if v5 = 0 then A V4 else B V4) = A U' := by
    intro U U' k w A B e hn
    rw [if_neg hn] at e
    exact E_bd e (E_gd (by decide) (E_if (fun _ => rfl) (fun y => absurd rfl y)))
  obtain ⟨V1, e1, k1, r1⟩ := R_tk (G := G) hT hG hw (k := 3) (w := 0) (by unfold isW; omega) rfl h
  have b1 := hb.lk k1
  have d1 := hw.S k1.S
  by_cases w0 : nmT T p = ((0 : Nat) : Int)
  · rw [if_pos w0] at r1
    obtain ⟨V2, f1, f2, f3⟩ := r_personTold (G := G) (begun := (p : Int)) hT hG d1 b1 ho hf r1
    refine lift (head _ ((yes e1 w0).trans (E_bd f1 rfl))) (fin (k1.S.trans f2) (y := if cn C = 10 then .inl (5, (p : Int)) else toC (aGv C T 1 9 (nxT T p)) (addP C (ltr T (nxT T p) (lnT T (nxT T p))) (vlT T (nxT T (nxT T (nxT T p)))))) ?_ ?_)
    · by_cases z : cn C = 10
      · rw [if_pos z] at f3 ⊢; exact f3
      · rw [if_neg z] at f3 ⊢; exact oQ_to f3.1 f3.2
    · unfold aSt1; rw [if_neg u70, if_pos (show nmT T p = 0 from w0)]
  rw [if_neg w0] at r1
  obtain ⟨V2, e2, k2, r2⟩ := R_tk (G := G) hT hG d1 (k := 5) (w := 2) (by unfold isW; omega) rfl r1
  have b2 := b1.lk k2
  have d2 := d1.S k2.S
  have kk2 := k1.trans k2
  by_cases w2 : nmT T p = ((2 : Nat) : Int)
  · rw [if_pos w2] at r2
    obtain ⟨V3, f1, f2, f3⟩ := r_taskTold (G := G) (begun := (p : Int)) hT hG d2 b2 ho hf r2
    refine lift (head _ ((no e1 w0).trans ((yes e2 w2).trans (E_bd f1 rfl)))) (fin (kk2.S.trans f2) (y := if ct C = 8 then .inl (5, (p : Int)) else toC (aGv C T 3 99 (nxT T p)) (addT C (ltr T (nxT T p) (lnT T (nxT T p))) (vlT T (nxT T (nxT T (nxT T p)))))) ?_ ?_)
    · by_cases z : ct C = 8
      · rw [if_pos z] at f3 ⊢; exact f3
      · rw [if_neg z] at f3 ⊢; exact oQ_to f3.1 f3.2
    · unfold aSt1; rw [if_neg u70, if_neg (show ¬ nmT T p = 0 from w0), if_pos (show nmT T p = 2 from w2)]
  rw [if_neg w2] at r2
  obtain ⟨V3, e3, k3, r3⟩ := R_tk (G := G) hT hG d2 (k := 7) (w := 4) (by unfold isW; omega) rfl r2
  have b3 := b2.lk k3
  have d3 := d2.S k3.S
  have kk3 := kk2.trans k3
  by_cases w4 : nmT T p = ((4 : Nat) : Int)
  · rw [if_pos w4] at r3
    obtain ⟨V4, f1, f2, f3⟩ := r_dutyTold (G := G) (begun := (p : Int)) hT hG d3 b3 ho hf r3
    refine lift (head _ ((no e1 w0).trans ((no e2 w2).trans ((yes e3 w4).trans (E_bd f1 rfl))))) (fin (kk3.S.trans f2) (y := if (cd C).length = 24 then .inl (5, (p : Int)) else toC (aDu C T (nxT T p)) (addD C (aDuD C T (nxT T p)))) ?_ ?_)
    · by_cases z : (cd C).length = 24
      · rw [if_pos z] at f3 ⊢; exact f3
      · rw [if_neg z] at f3 ⊢; exact oQ_to f3.1 f3.2
    · unfold aSt1; rw [if_neg u70, if_neg (show ¬ nmT T p = 0 from w0), if_neg (show ¬ nmT T p = 2 from w2), if_pos (show nmT T p = 4 from w4)]
  rw [if_neg w4] at r3
  obtain ⟨V4, e4, k4, r4⟩ := R_tk (G := G) hT hG d3 (k := 9) (w := 6) (by unfold isW; omega) rfl r3
  have b4 := b3.lk k4
  have d4 := d3.S k4.S
  have kk4 := kk3.trans k4
  by_cases w6 : nmT T p = ((6 : Nat) : Int)
  · rw [if_pos w6] at r4
    obtain ⟨V5, f1, f2, f3, f4⟩ := r_coverTold (G := G) hT hG d4 b4 ho hf r4
    refine lift (head _ ((no e1 w0).trans ((no e2 w2).trans ((no e3 w4).trans ((yes e4 w6).trans (E_bd f1 rfl)))))) (fin (kk4.S.trans f2) (oQ_to f3 f4) ?_)
    unfold aSt1; rw [if_neg u70, if_neg (show ¬ nmT T p = 0 from w0), if_neg (show ¬ nmT T p = 2 from w2), if_neg (show ¬ nmT T p = 4 from w4), if_pos (show nmT T p = 6 from w6)]
  rw [if_neg w6] at r4
  obtain ⟨V5, e5, k5, r5⟩ := R_tk (G := G) hT hG d4 (k := 10) (w := 7) (by unfold isW; omega) rfl r4
  have b5 := b4.lk k5
  have d5 := d4.S k5.S
  have kk5 := kk4.trans k5
  by_cases w7 : nmT T p = ((7 : Nat) : Int)
  · rw [if_pos w7] at r5
    obtain ⟨V6, f1, f2, f3, f4⟩ := r_knownTold (G := G) hT hG d5 b5 ho hf r5
    refine lift (head _ ((no e1 w0).trans ((no e2 w2).trans ((no e3 w4).trans ((no e4 w6).trans ((yes e5 w7).trans (E_bd f1 rfl))))))) (fin (kk5.S.trans f2) (oQ_to f3 f4) ?_)
    unfold aSt1; rw [if_neg u70, if_neg (show ¬ nmT T p = 0 from w0), if_neg (show ¬ nmT T p = 2 from w2), if_neg (show ¬ nmT T p = 4 from w4), if_neg (show ¬ nmT T p = 6 from w6), if_pos (show nmT T p = 7 from w7)]
  rw [if_neg w7] at r5
  have pT : ∀ {k : Int}, nmT T p = k → 0 ≤ k → p < T.2 := fun a b => (kd_0 (by rcases nm_rg (T := T) (p := p) with y | y <;> omega)).1
  have rule : ∀ w : Nat, w ≤ 3 → nmT T p = 8 + (w : Int) → aSt1 C T p = if co C w ≠ [] then .inl (5, (p : Int)) else aRu C T w (nxT T p) := by
    intro w hw3 hn
    have e : (nmT T p - 8).toNat = w := by omega
    unfold aSt1
    rw [if_neg u70, if_neg (show ¬ nmT T p = 0 from w0), if_neg (show ¬ nmT T p = 2 from w2), if_neg (show ¬ nmT T p = 4 from w4), if_neg (show ¬ nmT T p = 6 from w6), if_neg (show ¬ nmT T p = 7 from w7), if_pos ⟨by omega, by omega⟩, e]
  have lx : ∀ {k : Int}, nmT T p = k → 0 ≤ k → lnC C ≤ nxT T p := fun a b => by have := nxT_gt (pT a b); omega
  obtain ⟨V6, e6, k6, r6⟩ := R_tk (G := G) hT hG d5 (k := 11) (w := 8) (by unfold isW; omega) rfl r5
  have b6 := b5.lk k6
  have d6 := d5.S k6.S
  have kk6 := kk5.trans k6
  by_cases w8 : nmT T p = ((8 : Nat) : Int)
  · rw [if_pos w8] at r6
    obtain ⟨V7, f1, f2, f3⟩ := r_codesT (G := G) (begun := (p : Int)) (w := 0) hT hG d6 b6 r6 (by decide) (lx w8 (by decide))
    exact lift (head _ ((no e1 w0).trans ((no e2 w2).trans ((no e3 w4).trans ((no e4 w6).trans ((no e5 w7).trans ((yes e6 w8).trans (E_bd f1 rfl)))))))) (fin (kk6.S.trans f2) f3 (rule 0 (by decide) (by omega)))
  rw [if_neg w8] at r6
  obtain ⟨V7, e7, k7, r7⟩ := R_tk (G := G) hT hG d6 (k := 12) (w := 9) (by unfold isW; omega) rfl r6
  have b7 := b6.lk k7
  have d7 := d6.S k7.S
  have kk7 := kk6.trans k7
  by_cases w9 : nmT T p = ((9 : Nat) : Int)
  · rw [if_pos w9] at r7
    obtain ⟨V8, f1, f2, f3⟩ := r_codesT (G := G) (begun := (p : Int)) (w := 1) hT hG d7 b7 r7 (by decide) (lx w9 (by decide))
    exact lift (head _ ((no e1 w0).trans ((no e2 w2).trans ((no e3 w4).trans ((no e4 w6).trans ((no e5 w7).trans ((no e6 w8).trans ((yes e7 w9).trans (E_bd f1 rfl))))))))) (fin (kk7.S.trans f2) f3 (rule 1 (by decide) (by omega)))
  rw [if_neg w9] at r7
  obtain ⟨V8, e8, k8, r8⟩ := R_tk (G := G) hT hG d7 (k := 13) (w := 10) (by unfold isW; omega) rfl r7
  have b8 := b7.lk k8
  have d8 := d7.S k8.S
  have kk8 := kk7.trans k8
  by_cases w10 : nmT T p = ((10 : Nat) : Int)
  · rw [if_pos w10] at r8
    obtain ⟨V9, f1, f2, f3⟩ := r_codesT (G := G) (begun := (p : Int)) (w := 2) hT hG d8 b8 r8 (by decide) (lx w10 (by decide))
    exact lift (head _ ((no e1 w0).trans ((no e2 w2).trans ((no e3 w4).trans ((no e4 w6).trans ((no e5 w7).trans ((no e6 w8).trans ((no e7 w9).trans ((yes e8 w10).trans (E_bd f1 rfl)))))))))) (fin (kk8.S.trans f2) f3 (rule 2 (by decide) (by omega)))
  rw [if_neg w10] at r8
  obtain ⟨V9, e9, k9, r9⟩ := R_asks (G := G) hT hG d8 (k := 14) (by unfold isW; omega) r8
  have r9' : rs10 V9 m T (nWd T 11 p) := r9
  have b9 := b8.lk k9
  have d9 := d8.S k9.S
  have kk9 := kk8.trans k9
  by_cases w11 : nmT T p = 11
  · have hn : nWd T 11 p = .inr (nxT T p) := by unfold nWd; rw [if_pos w11]
    rw [hn] at r9'
    obtain ⟨V10, f1, f2, f3⟩ := r_codesT (G := G) (begun := (p : Int)) (w := 3) hT hG d9 b9 r9' (by decide) (lx w11 (by decide))
    exact lift (head _ ((no e1 w0).trans ((no e2 w2).trans ((no e3 w4).trans ((no e4 w6).trans ((no e5 w7).trans ((no e6 w8).trans ((no e7 w9).trans ((no e8 w10).trans (E_bd e9 (E_bd f1 rfl))))))))))) (fin (kk9.S.trans f2) f3 (rule 3 (by decide) (by omega)))
  · have hn : nWd T 11 p = .inl (1, (p : Int)) := by unfold nWd; rw [if_neg w11]
    rw [hn] at r9'
    have f1 := r_codes1 (G := G) (V := V9) (m := m) (w := 3) (begun := (p : Int)) (by decide) r9'.bad.1 r9'.bad.2
    refine lift (head _ ((no e1 w0).trans ((no e2 w2).trans ((no e3 w4).trans ((no e4 w6).trans ((no e5 w7).trans ((no e6 w8).trans ((no e7 w9).trans ((no e8 w10).trans (E_bd e9 (E_bd f1 rfl))))))))))) (fin kk9.S (y := .inl (1, (p : Int))) r9' ?_)
    unfold aSt1
    rw [if_neg u70, if_neg (show ¬ nmT T p = 0 from w0), if_neg (show ¬ nmT T p = 2 from w2), if_neg (show ¬ nmT T p = 4 from w4), if_neg (show ¬ nmT T p = 6 from w6), if_neg (show ¬ nmT T p = 7 from w7), if_neg]
    rintro ⟨a, b⟩
    have : nmT T p = 8 ∨ nmT T p = 9 ∨ nmT T p = 10 ∨ nmT T p = 11 := by omega
    rcases this with y | y | y | y
    · exact w8 y
    · exact w9 y
    · exact w10 y
    · exact w11 y
/-- all statements -/
theorem r_cityL (hT : tOk T) (hG : is10 G m) : ∀ (w : Nat) (V : mV) (C : mCy) (p : Nat) (fu : Nat), rWd V m → rBd V m C → okS C → 0 ≤ cu C → cu C + w = 71 → 0 < w → w < fu → lnC C ≤ p → rs10 V m T (.inr p) →
    ∃ V', lp (fun (_ : Unit) V => B_X10_city_83 G m V) fu () V = some (V', 1, ()) ∧ rSt m V V' ∧ oQ V' m T (aCi T w C p) := by
  intro w
  induction w with
  | zero => intro V C p fu _ _ _ _ _ h; exact absurd h (by decide)
  | succ w ih =>
    intro V C p fu hw hb hs hu hcu _ hf hl h
    obtain ⟨fu, rfl⟩ : ∃ i, fu = i + 1 := ⟨fu - 1, by omega⟩
    have pn := rA_le h.1
    obtain ⟨V1, e1, k1, r1, a2, a5, a4⟩ := r_look (G := G) hT h.1
    have hlk := (lkc_rg (p := p) hT).1
    unfold aCi
    by_cases hk : kdT T p = 3
    · rw [if_pos hk]
      refine ⟨V1, lp_stop (q := (1, ())) ?_ Nat.one_ne_zero (by omega), k1.S, ⟨r1, a5.trans h.2⟩, hb.lk k1⟩
      show B_X10_city_83 G m V = _
      unfold B_X10_city_83
      refine E_gd (by rw [h.2]; decide) (E_if (fun _ => E_bd e1 (E_gd hlk (E_if (fun _ => rfl) (fun y => ?_)))) (fun y => absurd h.2 y))
      have := kd_out.mp hk
      exact absurd (show lkc T p = -1 by unfold lkc; rw [if_neg (by omega)]) y
    · rw [if_neg hk]
      have hp : p < T.2 := by
        refine Classical.byContradiction (fun z => hk (kd_out.mpr (by omega)))
      have hc : lkc T p ≠ -1 := by
        unfold lkc; rw [if_pos hp]
        have := hT.2 p hp
        omega
      obtain ⟨V2, e2, k2, o⟩ := r_stmt (G := G) hT hG (hw.S k1.S) (hb.lk k1) hs ⟨hu, by omega⟩ hl ⟨r1, a5.trans h.2⟩ a2
      have st : B_X10_city_83 G m V = some (V2, 0, ()) := by
        unfold B_X10_city_83
        exact E_gd (by rw [h.2]; decide) (E_if (fun _ => E_bd e1 (E_gd hlk (E_if (fun y => absurd y hc) (fun _ => E_bd e2 rfl)))) (fun y => absurd h.2 y))
      have kk := k1.S.trans k2
      have stepq : lp (fun (_ : Unit) V => B_X10_city_83 G m V) (fu + 1) () V = lp (fun (_ : Unit) V => B_X10_city_83 G m V) fu () V2 := lp_more st
      rw [stepq]
      cases hA : aSt C T p with
      | inl e =>
        rw [hA] at o
        have o' : rs10 V2 m T (.inl e) := o
        refine ⟨V2, lp_stop (q := (1, ())) ?_ Nat.one_ne_zero (by omega), kk, o⟩
        show B_X10_city_83 G m V2 = _
        unfold B_X10_city_83
        exact E_gd o'.bad.2 (E_if (fun y => absurd y o'.bad.1) (fun _ => rfl))
      | inr y =>
        obtain ⟨C1, q1⟩ := y
        rw [hA] at o
        obtain ⟨o1, o2⟩ := o
        obtain ⟨a1, a3⟩ := aSt_cu hA
        obtain ⟨x1, x2, x3⟩ := aSt_ok hT hs hp hA
        obtain ⟨V3, e3, k3, oo⟩ := ih V2 C1 q1 fu (hw.S kk) o2 x1 (by omega) (by omega) (by omega) (by omega) (x3 hl) o1
        exact ⟨V3, e3, kk.trans k3, oo⟩
end

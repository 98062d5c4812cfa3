/-! letters of names; watch, teach: both -/
theorem shr_nn (a b : Nat) : shr (a : Int) (b : Int) = ((a / 2 ^ b : Nat) : Int) := by
  unfold shr
  rw [Int.toNat_natCast, ← Int.natCast_ediv]
theorem nm5_get : ∀ {l : List Int} (k : Nat), okW l → (shr (nm5 l) ((5 * k : Nat) : Int)) % 32 = l.getD k 0
  | [], k, _ => by
    have := shr_nn 0 (5 * k)
    rw [Nat.zero_div] at this
    show shr ((0 : Nat) : Int) _ % 32 = _
    rw [this]; simp
  | a :: r, k, h => by
    have ha := h a List.mem_cons_self
    have hr : okW r := fun b hb => h b (List.mem_cons_of_mem _ hb)
    obtain ⟨A, hA⟩ : ∃ A : Nat, a = (A : Int) := ⟨a.toNat, by omega⟩
    obtain ⟨R, hR⟩ : ∃ R : Nat, nm5 r = (R : Int) := ⟨(nm5 r).toNat, by have := nm5_nn hr; omega⟩
    have e : nm5 (a :: r) = ((A + 32 * R : Nat) : Int) := by
      show a + 32 * nm5 r = _
      rw [hA, hR]; omega
    rw [e, shr_nn]
    cases k with
    | zero =>
      show (((A + 32 * R) / 1 : Nat) : Int) % 32 = a
      rw [Nat.div_one, hA]; omega
    | succ k =>
      have ih := nm5_get (l := r) k hr
      rw [hR, shr_nn] at ih
      have z : (A + 32 * R) / 2 ^ (5 * (k + 1)) = R / 2 ^ (5 * k) := by
        rw [show 5 * (k + 1) = 5 + 5 * k by omega, Nat.pow_add, ← Nat.div_div_eq_div_mul]
        have : (A + 32 * R) / 2 ^ 5 = R := by
          show (A + 32 * R) / 32 = R
          omega
        rw [this]
      rw [z, ih]; rfl
theorem okW_tk {l : List Int} (h : okW l) (i : Nat) : okW (l.take i) := fun a ha => h a (List.mem_of_mem_take ha)
theorem nm27_tk {l : List Int} {i : Nat} (hi : i < l.length) : nm27 (l.take (i + 1)) = 27 * nm27 (l.take i) + l.getD i 0 := by
  rw [List.take_succ, List.getElem?_eq_getElem hi, Option.toList_some, nm27_app, List.getD_eq_getElem?_getD, List.getElem?_eq_getElem hi]; rfl
theorem okW_getD {l : List Int} (h : okW l) {i : Nat} (hi : i < l.length) : 1 ≤ l.getD i 0 ∧ l.getD i 0 ≤ 26 := by
  rw [List.getD_eq_getElem?_getD, List.getElem?_eq_getElem hi]
  exact h _ (List.getElem_mem hi)
theorem nm27_tb {l : List Int} (h : okW l) (hl : l.length ≤ 6) (i : Nat) : 0 ≤ nm27 (l.take i) ∧ nm27 (l.take i) < 387420489 :=
  nm27_b (okW_tk h i) (Nat.le_trans (by rw [List.length_take]; omega) hl)
theorem nm27_div {l : List Int} (h : okW l) (hl : l.length ≤ 6) {i : Nat} (hi : i < l.length) : (nm27 (l.take (i + 1))).tdiv 27 = nm27 (l.take i) ∧ (nm27 (l.take (i + 1))).tmod 27 = l.getD i 0 ∧ 1 ≤ nm27 (l.take (i + 1)) := by
  have a := nm27_tk hi
  have b := okW_getD h hi
  have c := nm27_tb h hl i
  have d := nm27_tb h hl (i + 1)
  rw [Int.tdiv_eq_ediv_of_nonneg d.1, Int.tmod_eq_emod_of_nonneg d.1]
  omega
section
variable {G : mG} {V V1 : mV} {cr c mo x m : Nat} {C : mCy} {M : mMo} {B : Int} {n : Int} {Z : mZ}
theorem r_lett {l : List Int} (h : okW l) (hl : l.length ≤ 6) {k : Int} (hk : 0 ≤ k ∧ k < 6) {x1 x2 : Int} : (bd (lp (fun (s : Int × Int) V => B_X10_letter_67 G m x1 x2 k (nm27 l) s.1 s.2 V) FU (0, nm27 l) V) fun V27 u28 =>
  gd (rg u28.2.1) <|
  if k < u28.2.1 then (lt (u28.2.1 - 1) fun y33 =>
  bd (lp (fun (s : Int × Int) V => B_X10_letter_102 G m x1 x2 k s.1 s.2 V) FU (nm27 l, y33) V27) fun V40 u41 =>
  gd (rl u41.2.1) <|
  some (V40, u41.2.1.tmod 27)) else (some (V27, 0))) = some (V, l.getD k.toNat 0) := by
  have full : l.take l.length = l := List.take_length
  have k1 := E_for (B := fun (s : Int × Int) V => B_X10_letter_67 G m x1 x2 k (nm27 l) s.1 s.2 V) (t := 1) (by decide) (fun i => ((i : Int), nm27 (l.take (l.length - i)))) (fun _ => V) l.length ?_ ?_ FU (by unfold FU; omega)
  · rw [Nat.sub_zero, full] at k1
    refine E_bd k1 ?_
    show gd (rg ((l.length : Nat) : Int)) (if k < ((l.length : Nat) : Int) then _ else _) = _
    refine E_gd ⟨by omega, by omega⟩ (E_if (fun q => E_lt ?_) (fun q => E_so rfl ?_))
    · have k2 := E_for (B := fun (s : Int × Int) V => B_X10_letter_102 G m x1 x2 k s.1 s.2 V) (t := 1) (by decide) (fun j => (nm27 (l.take (l.length - j)), (l.length : Int) - 1 - (j : Int))) (fun _ => V) (l.length - 1 - k.toNat) ?_ ?_ FU (by unfold FU; omega)
      · rw [Nat.sub_zero, full, show (l.length : Int) - 1 - ((0 : Nat) : Int) = (l.length : Int) - 1 by omega] at k2
        refine E_bd k2 ?_
        show gd (rl (nm27 (l.take (l.length - (l.length - 1 - k.toNat))))) (some (V, (nm27 (l.take (l.length - (l.length - 1 - k.toNat)))).tmod 27)) = _
        have e : l.length - (l.length - 1 - k.toNat) = k.toNat + 1 := by omega
        rw [e]
        have b := nm27_tb h hl (k.toNat + 1)
        exact E_gd ⟨by omega, by omega⟩ (E_so rfl (nm27_div h hl (by omega)).2.1)
      · intro j hj
        show B_X10_letter_102 G m x1 x2 k (nm27 (l.take (l.length - j))) ((l.length : Int) - 1 - (j : Int)) V = some (V, 0, (nm27 (l.take (l.length - (j + 1))), (l.length : Int) - 1 - ((j + 1 : Nat) : Int)))
        have b := nm27_tb h hl (l.length - j)
        have e : l.length - j = (l.length - (j + 1)) + 1 := by omega
        have d := (nm27_div h hl (i := l.length - (j + 1)) (by omega)).1
        rw [← e] at d
        unfold B_X10_letter_102
        refine E_gd ⟨by omega, by omega⟩ (E_gd ⟨by omega, by omega⟩ (E_if (fun q => by omega) (fun _ => E_gd ⟨by omega, by omega⟩ (E_lt (E_lt ?_)))))
        rw [d, show (l.length : Int) - 1 - (j : Int) + -1 = (l.length : Int) - 1 - ((j + 1 : Nat) : Int) by omega]
      · show B_X10_letter_102 G m x1 x2 k (nm27 (l.take (l.length - (l.length - 1 - k.toNat)))) ((l.length : Int) - 1 - ((l.length - 1 - k.toNat : Nat) : Int)) V = _
        unfold B_X10_letter_102
        exact E_gd ⟨by omega, by omega⟩ (E_gd ⟨by omega, by omega⟩ (E_if (fun _ => rfl) (fun q => by omega)))
    · rw [List.getD_eq_getElem?_getD, List.getElem?_eq_none (by omega)]; rfl
  · intro i hi
    show B_X10_letter_67 G m x1 x2 k (nm27 l) (i : Int) (nm27 (l.take (l.length - i))) V = some (V, 0, (((i + 1 : Nat) : Int), nm27 (l.take (l.length - (i + 1)))))
    have b := nm27_tb h hl (l.length - i)
    have e : l.length - i = (l.length - (i + 1)) + 1 := by omega
    have d := nm27_div h hl (i := l.length - (i + 1)) (by omega)
    rw [← e] at d
    unfold B_X10_letter_67
    refine E_gd ⟨by omega, by omega⟩ (E_if (fun q => by omega) (fun _ => E_lt (E_lt ?_)))
    rw [d.1]; rfl
  · show B_X10_letter_67 G m x1 x2 k (nm27 l) (l.length : Int) (nm27 (l.take (l.length - l.length))) V = _
    have e : nm27 (l.take (l.length - l.length)) = 0 := by rw [Nat.sub_self]; rfl
    rw [e]
    unfold B_X10_letter_67
    exact E_gd (by decide) (E_if (fun _ => rfl) (fun q => absurd (Int.le_refl _) q))
def aLet (C : mCy) (kd w k : Int) : Int := if (kd = 0 ∨ kd = 1) ∧ (0 ≤ w ∧ w < if kd = 0 then cn C else ct C) ∧ (0 ≤ k ∧ k < 6) then (if kd = 0 then cp C w else cq C w).getD k.toNat 0 else -1
theorem r_letter (hs : okS C) (hv : rC V m C) {kd w k : Int} (h1 : rg kd) (h2 : rg w) (h3 : rg k) : F_X10_letter G m kd w k V = some (V, aLet C kd w k) := by
  obtain ⟨ho, hN1, hN2⟩ := hs
  have hn := ho.1
  have ht := ho.2.1
  have i1 := r_isIn (G := G) (V := V) (x := kd) (a := 0) (b := 1) ⟨by omega, by omega⟩ ⟨by decide, by decide⟩ ⟨by decide, by decide⟩
  have i3 := r_isIn (G := G) (V := V) (x := k) (a := 0) (b := 5) ⟨by omega, by omega⟩ ⟨by decide, by decide⟩ ⟨by decide, by decide⟩
  unfold F_X10_letter aLet
  by_cases c1 : kd = 0 ∨ kd = 1
  rotate_left
  · rw [if_neg (by omega)] at i1; rw [if_neg (fun q => c1 q.1)]; exact E_gd h1 (E_n i1 rfl)
  rw [if_pos (by omega)] at i1
  have cell : gA V (m + 27) (3 + kd).toNat = if kd = 0 then cn C else ct C := by
    rcases c1 with rfl | rfl
    · exact hv.1.1
    · exact hv.1.2.1
  have hb : 0 ≤ (if kd = 0 then cn C else ct C) ∧ (if kd = 0 then cn C else ct C) ≤ 10 := by split <;> omega
  have hnm : 0 ≤ w → w < (if kd = 0 then cn C else ct C) → gL V (m + 28) ((20 + 10 * kd) + w).toNat = nm27 (if kd = 0 then cp C w else cq C w) ∧ okW (if kd = 0 then cp C w else cq C w) ∧ (if kd = 0 then cp C w else cq C w).length ≤ 6 := by
    intro w0 w1
    rcases c1 with rfl | rfl
    · rw [if_pos rfl] at w1 ⊢
      refine ⟨?_, hN1 w w0 w1⟩
      rw [← hv.2.2.2.2.2.2.1 w w0 w1, show (20 + 10 * 0 + w).toNat = (20 + w).toNat by omega]
    · rw [if_neg (by decide)] at w1 ⊢
      refine ⟨?_, hN2 w w0 w1⟩
      rw [← hv.2.2.2.2.2.2.2.1 w w0 w1, show (20 + 10 * 1 + w).toNat = (30 + w).toNat by omega]
  generalize hX : (if kd = 0 then cn C else ct C) = N at cell hb hnm ⊢
  generalize hY : (if kd = 0 then cp C w else cq C w) = L at hnm ⊢
  have i2 := r_isIn (G := G) (V := V) (x := w) (a := 0) (b := N - 1) ⟨by omega, by omega⟩ ⟨by decide, by decide⟩ ⟨by omega, by omega⟩
  have go : ∀ res, bd (F_X10_isIn G w 0 (N - 1) V) (fun V10 v11 =>
  gd (rg v11) <|
  if v11 = 0 then (some (V10, (-1))) else (gd (rg k) <|
  bd (F_X10_isIn G k 0 5 V10) fun V16 v17 =>
  gd (rg v17) <|
  if v17 = 0 then (some (V16, (-1))) else (gd (0 ≤ ((20 + (10 * kd)) + w) ∧ ((20 + (10 * kd)) + w) < (40 : Int) ∧ ((20 + (10 * kd)) + w) ≤ 2147483647) <|
  lt (gL V16 (m + 28) ((20 + (10 * kd)) + w).toNat) fun y22 =>
  bd (lp (fun (s : Int × Int) V => B_X10_letter_67 G m kd w k y22 s.1 s.2 V) FU (0, y22) V16) fun V27 u28 =>
  gd (rg u28.2.1) <|
  if k < u28.2.1 then (lt (u28.2.1 - 1) fun y33 =>
  bd (lp (fun (s : Int × Int) V => B_X10_letter_102 G m kd w k s.1 s.2 V) FU (y22, y33) V27) fun V40 u41 =>
  gd (rl u41.2.1) <|
  some (V40, u41.2.1.tmod 27)) else (some (V27, 0))))) = res → (gd (rg kd) <|
  bd (F_X10_isIn G kd 0 1 V) fun V2 v3 =>
  gd (rg v3) <|
  if v3 = 0 then (some (V2, (-1))) else (gd (rg w) <|
  gd (0 ≤ (3 + kd) ∧ (3 + kd) < (6 : Int) ∧ (3 + kd) ≤ 2147483647) <|
  gd (rg ((gA V2 (m + 27) (3 + kd).toNat) - 1)) <|
  bd (F_X10_isIn G w 0 ((gA V2 (m + 27) (3 + kd).toNat) - 1) V2) fun V10 v11 =>
  gd (rg v11) <|
  if v11 = 0 then (some (V10, (-1))) else (gd (rg k) <|
  bd (F_X10_isIn G k 0 5 V10) fun V16 v17 =>
  gd (rg v17) <|
  if v17 = 0 then (some (V16, (-1))) else (gd (0 ≤ ((20 + (10 * kd)) + w) ∧ ((20 + (10 * kd)) + w) < (40 : Int) ∧ ((20 + (10 * kd)) + w) ≤ 2147483647) <|
  lt (gL V16 (m + 28) ((20 + (10 * kd)) + w).toNat) fun y22 =>
  bd (lp (fun (s : Int × Int) V => B_X10_letter_67 G m kd w k y22 s.1 s.2 V) FU (0, y22) V16) fun V27 u28 =>
  gd (rg u28.2.1) <|
  if k < u28.2.1 then (lt (u28.2.1 - 1) fun y33 =>
  bd (lp (fun (s : Int × Int) V => B_X10_letter_102 G m kd w k s.1 s.2 V) FU (y22, y33) V27) fun V40 u41 =>
  gd (rl u41.2.1) <|
  some (V40, u41.2.1.tmod 27)) else (some (V27, 0)))))) = res := by
    intro res e
    refine E_gd h1 (E_y i1 (E_gd h2 (E_gd ⟨by omega, by omega, by omega⟩ ?_)))
    rw [cell]
    exact E_gd ⟨by omega, by omega⟩ e
  refine go _ ?_
  by_cases c2 : 0 ≤ w ∧ w < N
  rotate_left
  · rw [if_neg (by omega)] at i2; rw [if_neg (fun q => c2 q.2.1)]; exact E_n i2 rfl
  rw [if_pos (by omega)] at i2
  by_cases c3 : 0 ≤ k ∧ k < 6
  rotate_left
  · rw [if_neg (by omega)] at i3; rw [if_neg (fun q => c3 q.2.2)]; exact E_y i2 (E_gd h3 (E_n i3 rfl))
  rw [if_pos (by omega)] at i3
  rw [if_pos ⟨c1, c2, c3⟩]
  obtain ⟨a, b, d⟩ := hnm c2.1 c2.2
  refine E_y i2 (E_gd h3 (E_y i3 (E_gd ⟨by omega, by omega, by omega⟩ (E_lt ?_))))
  rw [a]
  exact r_lett b d c3
theorem aLet_0 {w k : Int} : aLet C 0 w k = if (0 ≤ w ∧ w < cn C) ∧ (0 ≤ k ∧ k < 6) then (cp C w).getD k.toNat 0 else -1 := by
  unfold aLet
  by_cases h : (0 ≤ w ∧ w < cn C) ∧ (0 ≤ k ∧ k < 6)
  · rw [if_pos h, if_pos ⟨Or.inl rfl, h.1, h.2⟩]; rfl
  · rw [if_neg h, if_neg (fun q => h ⟨q.2.1, q.2.2⟩)]
theorem aLet_1 {w k : Int} : aLet C 1 w k = if (0 ≤ w ∧ w < ct C) ∧ (0 ≤ k ∧ k < 6) then (cq C w).getD k.toNat 0 else -1 := by
  unfold aLet
  by_cases h : (0 ≤ w ∧ w < ct C) ∧ (0 ≤ k ∧ k < 6)
  · rw [if_pos h, if_pos ⟨Or.inr rfl, h.1, h.2⟩]; rfl
  · rw [if_neg h, if_neg (fun q => h ⟨q.2.1, q.2.2⟩)]
theorem aLet_n {kd w k : Int} (h : ¬ kd = 0) (h1 : ¬ kd = 1) : aLet C kd w k = -1 := if_neg (fun q => q.1.elim h h1)
theorem c_letter (hG : is9 G x) (ho : okZ Z) (hs : okS Z.1) (hv : vZ G V x Z) {kd w k : Int} (h1 : rg kd) (h2 : rg w) (h3 : rg k) : F_X9_letter G x kd w k V = some (V, aLet Z.1 kd w k) := by
  obtain ⟨-, hN1, hN2⟩ := hs
  have hn := ho.1.1
  have ht := ho.1.2.1
  have hc := s9_10s hG
  have p1 : rw' V (gR G x 10 + 1) (cn Z.1) (fun p => nm5 (cp Z.1 p)) := hv.2.1.2.1.1
  have p2 : rw' V (gR G x 10 + 11) (ct Z.1) (fun p => nm5 (cq Z.1 p)) := hv.2.1.2.2.1.1
  have fin : ∀ {l : List Int}, okW l → l.length ≤ 6 → 0 ≤ k → k < 6 → rg (nm5 l) ∧ (shr (nm5 l) (5 * k)) % 32 = l.getD k.toNat 0 := by
    intro l a b c d
    have e := nm5_b a b
    have f := nm5_get k.toNat a
    rw [show ((5 * k.toNat : Nat) : Int) = 5 * k by omega] at f
    exact ⟨⟨by omega, by omega⟩, f⟩
  unfold F_X9_letter
  by_cases c0 : kd = 0
  · subst c0
    rw [aLet_0]
    refine E_gd h1 (E_if (fun _ => ?_) (fun q => absurd rfl q))
    unfold F_X9_letter_J11
    refine E_gd h1 (E_if (fun _ => E_gd h2 (E_if (fun q => E_so rfl (by rw [if_neg (by omega)])) (fun q => E_bd p7_size ?_))) (fun q => absurd rfl q))
    rw [p1.1]
    refine E_gd ⟨by omega, by omega⟩ (E_if (fun q2 => E_so rfl (by rw [if_neg (by omega)])) (fun q2 => E_gd h3 (E_if (fun q3 => E_so rfl (by rw [if_neg (by omega)])) (fun q3 => E_if (fun q4 => ?_) (fun q4 => E_so rfl (by rw [if_neg (by omega)]))))))
    obtain ⟨y1, y2⟩ := hN1 w (by omega) (by omega)
    obtain ⟨z1, z2⟩ := fin y1 y2 (by omega) q4
    rw [if_pos ⟨⟨by omega, by omega⟩, by omega, q4⟩]
    exact E_bd (rw_get (s1_0s hc) (s1_0c hc) p1 hn.2 ⟨by omega, by omega⟩) (E_gd z1 (E_gd ⟨by omega, by omega⟩ (E_so rfl z2)))
  by_cases c1 : kd = 1
  · subst c1
    rw [aLet_1]
    refine E_gd h1 (E_if (fun q => absurd q (by decide)) (fun _ => E_if (fun _ => ?_) (fun q => absurd rfl q)))
    unfold F_X9_letter_J11
    refine E_gd h1 (E_if (fun q => absurd q (by decide)) (fun _ => E_gd h2 (E_if (fun q => E_so rfl (by rw [if_neg (by omega)])) (fun q => E_bd p7_size ?_))))
    rw [p2.1]
    refine E_gd ⟨by omega, by omega⟩ (E_if (fun q2 => E_so rfl (by rw [if_neg (by omega)])) (fun q2 => E_gd h3 (E_if (fun q3 => E_so rfl (by rw [if_neg (by omega)])) (fun q3 => E_if (fun q4 => ?_) (fun q4 => E_so rfl (by rw [if_neg (by omega)]))))))
    obtain ⟨y1, y2⟩ := hN2 w (by omega) (by omega)
    obtain ⟨z1, z2⟩ := fin y1 y2 (by omega) q4
    rw [if_pos ⟨⟨by omega, by omega⟩, by omega, q4⟩]
    exact E_bd (rw_get (s1_5s hc) (s1_5c hc) p2 ht.2 ⟨by omega, by omega⟩) (E_gd z1 (E_gd ⟨by omega, by omega⟩ (E_so rfl z2)))
  rw [aLet_n c0 c1]
  exact E_gd h1 (E_if (fun q => absurd q c0) (fun _ => E_if (fun q => absurd q c1) (fun _ => rfl)))
-- ---- acts
abbrev canW (Z : mZ) (p l : Int) : Prop := ((0 ≤ p ∧ p < cn Z.1) ∧ (l = -1 ∨ (0 ≤ l ∧ l < cn Z.1)) ∧ l ≠ p) ∧ mw Z.2.1 p ≠ l
def watchZ (Z : mZ) (p l : Int) : mZ := if canW Z p l then (Z.1, (mh Z.2.1, ml Z.2.1, uf (mw Z.2.1) p l, mp Z.2.1, me Z.2.1), (Z.2.1 :: Z.2.2.1).take 20, Z.2.2.2) else refZ Z 3
def aWatch (Z : mZ) (p l : Int) : Int := if canW Z p l then 1 else 0
abbrev canTe (Z : mZ) (p l n : Int) : Prop := ((0 ≤ p ∧ p < cn Z.1) ∧ (0 ≤ l ∧ l < cn Z.1) ∧ l ≠ p) ∧ (0 ≤ n ∧ n ≤ 99)
def teachZ (Z : mZ) (p l n : Int) : mZ := if canTe Z p l n then (Z.1, (mh Z.2.1, ml Z.2.1, mw Z.2.1, ug (mp Z.2.1) p l n, me Z.2.1), (Z.2.1 :: Z.2.2.1).take 20, Z.2.2.2) else refZ Z 3
def aTeach (Z : mZ) (p l n : Int) : Int := if canTe Z p l n then mp Z.2.1 p l else -1
theorem okZ_new {M : mMo} (h : okZ Z) (hM : okM (cn Z.1) M) : okZ (Z.1, M, (Z.2.1 :: Z.2.2.1).take 20, Z.2.2.2) := by
  refine ⟨h.1, hM, fun Q hQ => ?_⟩
  rcases List.mem_cons.mp (List.mem_of_mem_take hQ) with q | q
  · rw [q]; exact h.2.1
  · exact h.2.2 Q q
theorem okM_W (h : okM n M) {p l : Int} (hl : l = -1 ∨ (0 ≤ l ∧ l < n)) (hne : l ≠ p) : okM n (mh M, ml M, uf (mw M) p l, mp M, me M) := by
  obtain ⟨a, b, c, d, e, f, g⟩ := h
  refine ⟨a, b, c, fun q q0 q1 => ?_, e, f, g⟩
  show -1 ≤ uf (mw M) p l q ∧ uf (mw M) p l q < n ∧ uf (mw M) p l q ≠ q
  unfold uf
  by_cases z : q = p
  · rw [if_pos z]; omega
  · rw [if_neg z]; exact d q q0 q1
theorem okM_T (h : okM n M) {p l v : Int} (hne : l ≠ p) (hv : 0 ≤ v ∧ v ≤ 99) : okM n (mh M, ml M, mw M, ug (mp M) p l v, me M) := by
  obtain ⟨a, b, c, d, e, f, g⟩ := h
  refine ⟨a, b, c, d, fun q r q0 q1 r0 r1 => ?_, fun q q0 q1 => ?_, g⟩
  · show 0 ≤ ug (mp M) p l v q r ∧ ug (mp M) p l v q r ≤ 99
    unfold ug
    by_cases z : q = p ∧ r = l
    · rw [if_pos z]; exact hv
    · rw [if_neg z]; exact e q r q0 q1 r0 r1
  · show ug (mp M) p l v q q = 99
    unfold ug
    rw [if_neg (by omega)]; exact f q q0 q1
theorem okZ_watch {p l : Int} (h : okZ Z) : okZ (watchZ Z p l) := by
  unfold watchZ
  by_cases c : canW Z p l
  · rw [if_pos c]; exact okZ_new h (okM_W h.2.1 c.1.2.1 c.1.2.2)
  · rw [if_neg c]; exact h
theorem okZ_teach {p l k : Int} (h : okZ Z) : okZ (teachZ Z p l k) := by
  unfold teachZ
  by_cases c : canTe Z p l k
  · rw [if_pos c]; exact okZ_new h (okM_T h.2.1 c.1.2.2 c.2)
  · rw [if_neg c]; exact h
theorem m_setW (hm : is4 G mo) (hn : n ≤ 10) (h : vM V mo n M B) {p v : Int} (hp : 0 ≤ p ∧ p < n) :
    F_X7_put G (mo + 3) p v V = some (sA V (mo + 4) p.toNat v, 0) ∧ vM (sA V (mo + 4) p.toNat v) mo n (mh M, ml M, uf (mw M) p v, mp M, me M) B := by
  obtain ⟨a, b, c, d, e, f⟩ := h
  obtain ⟨h1, h2⟩ := rw_put (v := v) (s4_2s hm) (s4_2c hm) c hn hp
  have k : fr (fun i => i = mo + 4) V (sA V (mo + 4) p.toNat v) := fr_sA rfl
  exact ⟨h1, a, b.fr k (by omega) (by omega), h2, d.fr k (by omega) (by omega), e, f.fr k (by omega) (by omega)⟩
theorem c_watch' (hG : is9 G x) (ho : okZ Z) (hv : vZ G V x Z) {p l : Int} (hp : rg p) (hl : rg l) :
    ∃ V', F_X9_watch G x p l V = some (V', aWatch Z p l) ∧ fr (zE G x) V V' ∧ vZ G V' x (watchZ Z p l) := by
  have hn := ho.1.1
  have e1 := c_isP ho hv hp
  have e2 := c_isP ho hv hl
  have no : ¬ canW Z p l → ∃ V', F_X9_watch_J51 G x p l V = some (V', aWatch Z p l) ∧ fr (zE G x) V V' ∧ vZ G V' x (watchZ Z p l) := by
    intro c
    obtain ⟨V1, g1, k1, w1⟩ := c_refuse hG hv (k := 3) (by decide)
    refine ⟨V1, ?_, k1, by unfold watchZ; rw [if_neg c]; exact w1⟩
    unfold F_X9_watch_J51 aWatch
    rw [if_neg c]
    exact E_bd g1 rfl
  have no0 : ¬ canW Z p l → ∃ V', F_X9_watch_J30 G x p l V = some (V', aWatch Z p l) ∧ fr (zE G x) V V' ∧ vZ G V' x (watchZ Z p l) := by
    intro c
    obtain ⟨V1, g1, r1⟩ := no c
    refine ⟨V1, ?_, r1⟩
    unfold F_X9_watch_J30 F_X9_watch_J31
    exact E_gd (by decide) (E_if (fun _ => g1) (fun q => absurd rfl q))
  unfold F_X9_watch
  by_cases h1 : 0 ≤ p ∧ p < cn Z.1
  rotate_left
  · rw [if_neg h1] at e1
    obtain ⟨V1, g1, r1⟩ := no0 (fun q => h1 q.1.1)
    exact ⟨V1, E_n e1 g1, r1⟩
  rw [if_pos h1] at e1
  have j21 : (l = -1 ∨ (0 ≤ l ∧ l < cn Z.1)) → ∃ V', F_X9_watch_J21 G x p l V = some (V', aWatch Z p l) ∧ fr (zE G x) V V' ∧ vZ G V' x (watchZ Z p l) := by
    intro hl2
    unfold F_X9_watch_J21
    by_cases h3 : l = p
    · obtain ⟨V1, g1, r1⟩ := no0 (fun q => q.1.2.2 h3)
      exact ⟨V1, E_gd hl (E_gd hp (E_if (fun _ => g1) (fun q => absurd h3 q))), r1⟩
    have hw := ho.2.1.2.2.2.1 p h1.1 h1.2
    have g0 : F_X7_get G (x + 230) p V = some (V, mw Z.2.1 p) := rw_get (s4_2s (s9_8s hG)) (s4_2c (s9_8s hG)) hv.2.2.1.2.2.1 hn.2 h1
    by_cases h4 : mw Z.2.1 p = l
    · obtain ⟨V1, g1, r1⟩ := no (fun q => q.2 h4)
      refine ⟨V1, E_gd hl (E_gd hp (E_if (fun q => absurd q h3) (fun _ => ?_))), r1⟩
      unfold F_X9_watch_J31
      exact E_gd (by decide) (E_if (fun q => absurd q (by decide)) (fun _ => E_bd g0 (E_gd ⟨by omega, by omega⟩ (E_gd hl (E_if (fun _ => g1) (fun q => absurd h4 q))))))
    · have hc : canW Z p l := ⟨⟨h1, hl2, h3⟩, h4⟩
      obtain ⟨a, b, c, d, ⟨e0, f⟩, g, i, j⟩ := hv
      obtain ⟨V1, g1, k1, w1⟩ := c_remember (V := V) (y := x + 45) (mo := x + 227) (s9_7s hG) (s9_8s hG) (by omega) hn c i
      obtain ⟨g2, w2⟩ := m_setW (V := V1) (v := l) (s9_8s hG) hn.2 (c.fr k1 (fun i p q => by omega)) h1
      have k12 : fr (fun i => (x + 45 ≤ i ∧ i ≤ x + 226) ∨ i = x + 231) V (sA V1 (x + 227 + 4) p.toNat l) := (k1.mono (fun i q => Or.inl (by omega))).trans (fr_sA (Or.inr rfl))
      refine ⟨_, E_gd hl (E_gd hp (E_if (fun q => absurd q h3) (fun _ => ?_))), k12.mono (fun i q => by simp only [zE]; omega), ?_⟩
      · unfold F_X9_watch_J31 aWatch
        rw [if_pos hc]
        exact E_gd (by decide) (E_if (fun q => absurd q (by decide)) (fun _ => E_bd g0 (E_gd ⟨by omega, by omega⟩ (E_gd hl (E_if (fun q => absurd q h4) (fun _ => E_bd g1 (E_bd g2 rfl)))))))
      · unfold watchZ
        rw [if_pos hc]
        exact ⟨a, b.fr k12 (fun j p q _ => by omega), w2, d.fr k12 (by omega) (by omega), ⟨e0, f.fr k12 (fun j p q => by omega)⟩, by rw [k12.I (by omega)]; exact g, w1.fr (fr_sA (S := fun i => i = x + 231) rfl) (fun j p q w => by omega), j.fr k12 (by omega) (by omega)⟩
  by_cases h2 : l = -1
  · obtain ⟨V1, g1, r1⟩ := j21 (Or.inl h2)
    exact ⟨V1, E_y e1 (E_gd hl (E_if (fun _ => g1) (fun q => absurd h2 q))), r1⟩
  by_cases h3 : 0 ≤ l ∧ l < cn Z.1
  · rw [if_pos h3] at e2
    obtain ⟨V1, g1, r1⟩ := j21 (Or.inr h3)
    exact ⟨V1, E_y e1 (E_gd hl (E_if (fun q => absurd q h2) (fun _ => E_y e2 g1))), r1⟩
  · rw [if_neg h3] at e2
    obtain ⟨V1, g1, r1⟩ := no0 (fun q => q.1.2.1.elim h2 h3)
    exact ⟨V1, E_y e1 (E_gd hl (E_if (fun q => absurd q h2) (fun _ => E_n e2 g1))), r1⟩
theorem r_watch' (ho : okZ Z) (hv : rZ V m Z) {p l : Int} (hp : rg p) (hl : rg l) :
    ∃ V', F_X10_watch G m p l V = some (V', aWatch Z p l) ∧ rG m V V' ∧ rZ V' m (watchZ Z p l) := by
  have hn := ho.1.1
  have e1 := r_isP (G := G) ho.1 hv.1 hp
  have e2 := r_isP (G := G) ho.1 hv.1 hl
  have no : ¬ canW Z p l → ∃ V', F_X10_watch_J35 G m p l V = some (V', aWatch Z p l) ∧ rG m V V' ∧ rZ V' m (watchZ Z p l) := by
    intro c
    obtain ⟨V1, g1, hV1, w1⟩ := r_refuse (G := G) hv (k := 3) (by decide)
    refine ⟨V1, ?_, by rw [hV1]; exact rG_sA rfl, by unfold watchZ; rw [if_neg c]; exact w1⟩
    unfold F_X10_watch_J35 aWatch
    rw [if_neg c, hV1]
    have := hv.2.2.2.1 3 (by decide) (by decide)
    rw [show (3 : Int).toNat = 3 from rfl] at this ⊢
    rw [this]; rfl
  unfold F_X10_watch
  by_cases h1 : 0 ≤ p ∧ p < cn Z.1
  rotate_left
  · rw [if_neg h1] at e1
    obtain ⟨V1, g1, r1⟩ := no (fun q => h1 q.1.1)
    exact ⟨V1, E_n e1 g1, r1⟩
  rw [if_pos h1] at e1
  have j21 : (l = -1 ∨ (0 ≤ l ∧ l < cn Z.1)) → ∃ V', F_X10_watch_J21 G m p l V = some (V', aWatch Z p l) ∧ rG m V V' ∧ rZ V' m (watchZ Z p l) := by
    intro hl2
    unfold F_X10_watch_J21
    by_cases h3 : p = l
    · obtain ⟨V1, g1, r1⟩ := no (fun q => q.1.2.2 h3.symm)
      exact ⟨V1, E_gd hp (E_gd hl (E_if (fun _ => g1) (fun q => absurd h3 q))), r1⟩
    have hw := ho.2.1.2.2.2.1 p h1.1 h1.2
    have g0 := r_wat (G := G) hv.2.1 hn.2 h1
    by_cases h4 : mw Z.2.1 p = l
    · obtain ⟨V1, g1, r1⟩ := no (fun q => q.2 h4)
      exact ⟨V1, E_gd hp (E_gd hl (E_if (fun q => absurd q h3) (fun _ => E_bd g0 (E_gd ⟨by omega, by omega⟩ (E_if (fun _ => g1) (fun q => absurd h4 q)))))), r1⟩
    · have hc : canW Z p l := ⟨⟨h1, hl2, fun q => h3 q.symm⟩, h4⟩
      obtain ⟨a, b, c, d, d5⟩ := hv
      obtain ⟨V1, g1, k1, w1⟩ := r_keeps (G := G) hn.2 b ho.2.1.2.2.2.2.2.2 c (fun Q hQ => (ho.2.2 Q hQ).2.2.2.2.2.2)
      have kc : rCs m V V1 := ⟨fun i p q => k1.1 i (by omega), by rw [k1.2.2.2]⟩
      have hM1 : rM (gA V1 (m + 37)) (cn Z.1) Z.2.1 := by rw [k1.1 _ (by omega)]; exact b
      have o : ∀ i, i ≠ m + 37 → gA (sA V1 (m + 37) (2 + 12 * p).toNat l) i = gA V1 i := fun i hi => gA_sAo hi
      refine ⟨_, E_gd hp (E_gd hl (E_if (fun q => absurd q h3) (fun _ => E_bd g0 (E_gd ⟨by omega, by omega⟩ (E_if (fun q => absurd q h4) (fun _ => E_bd g1 (E_gd ⟨by omega, by omega, by omega⟩ (E_lt ?_)))))))), k1.out.trans ⟨fun i _ q => o i (by omega), fun _ _ _ => rfl, fun _ _ _ => rfl, fun _ _ => rfl⟩, ?_⟩
      · unfold aWatch
        rw [if_pos hc]
      · unfold watchZ
        rw [if_pos hc]
        obtain ⟨p1, p2, p3, p4⟩ := w1
        refine ⟨(a.fr kc).fr ⟨fun i _ q => o i (by omega), rfl⟩, ?_, ⟨p1, p2, p3, fun i hi => ?_⟩, fun j q r => ?_, ?_⟩
        · rw [gA_sAe]
          show rM (uN (gA V1 (m + 37)) (2 + 12 * p).toNat l) (cn Z.1) (mh Z.2.1, ml Z.2.1, uf (mw Z.2.1) p l, mp Z.2.1, me Z.2.1)
          obtain ⟨q0, q1, q2, q3, q4⟩ := hM1
          refine ⟨?_, fun q a b => ⟨?_, ?_⟩, fun q r a b c d => ?_, ?_, fun i hi => ⟨?_, ?_, ?_, ?_⟩⟩
          · unfold uN; rw [if_neg (by omega)]; exact q0
          · unfold uN; rw [if_neg (by omega)]; exact (q1 q a b).1
          · show uN _ _ _ _ = uf (mw Z.2.1) p l q
            unfold uN uf
            by_cases z : q = p
            · rw [if_pos (by rw [z]), if_pos z]
            · rw [if_neg (by omega), if_neg z]; exact (q1 q a b).2
          · unfold uN; rw [if_neg (by omega)]; exact q2 q r a b c d
          · unfold uN; rw [if_neg (by omega)]; exact q3
          · unfold uN; rw [if_neg (by omega)]; exact (q4 i hi).1
          · unfold uN; rw [if_neg (by omega)]; exact (q4 i hi).2.1
          · unfold uN; rw [if_neg (by omega)]; exact (q4 i hi).2.2.1
          · unfold uN; rw [if_neg (by omega)]; exact (q4 i hi).2.2.2
        · rw [o _ (by omega)]; exact p4 i hi
        · rw [o _ (by omega), k1.1 _ (by omega)]; exact d j q r
        · show gI V1 m 61 = -1 ∨ gI V1 m 61 = 0 ∨ gI V1 m 61 = 1
          rw [k1.2.1 m 61 (by omega)]; exact d5
  by_cases h2 : l = -1
  · obtain ⟨V1, g1, r1⟩ := j21 (Or.inl h2)
    exact ⟨V1, E_y e1 (E_gd hl (E_if (fun _ => g1) (fun q => absurd h2 q))), r1⟩
  by_cases h3 : 0 ≤ l ∧ l < cn Z.1
  · rw [if_pos h3] at e2
    obtain ⟨V1, g1, r1⟩ := j21 (Or.inr h3)
    exact ⟨V1, E_y e1 (E_gd hl (E_if (fun q => absurd q h2) (fun _ => E_y e2 g1))), r1⟩
  · rw [if_neg h3] at e2
    obtain ⟨V1, g1, r1⟩ := no (fun q => q.1.2.1.elim h2 h3)
    exact ⟨V1, E_y e1 (E_gd hl (E_if (fun q => absurd q h2) (fun _ => E_n e2 g1))), r1⟩
theorem c_teach (hG : is9 G x) (ho : okZ Z) (hv : vZ G V x Z) {p l k : Int} (hp : rg p) (hl : rg l) (hk : rg k) :
    ∃ V', F_X9_teach G x p l k V = some (V', aTeach Z p l k) ∧ fr (zE G x) V V' ∧ vZ G V' x (teachZ Z p l k) := by
  have hn := ho.1.1
  have e1 := c_isP ho hv hp
  have e2 := c_isP ho hv hl
  have no : ¬ canTe Z p l k → ∃ V', F_X9_teach_J43 G x p l k V = some (V', aTeach Z p l k) ∧ fr (zE G x) V V' ∧ vZ G V' x (teachZ Z p l k) := by
    intro c
    obtain ⟨V1, g1, k1, w1⟩ := c_refuse hG hv (k := 3) (by decide)
    refine ⟨V1, ?_, k1, by unfold teachZ; rw [if_neg c]; exact w1⟩
    unfold F_X9_teach_J43 aTeach
    rw [if_neg c]
    exact E_bd g1 rfl
  have no0 : ¬ canTe Z p l k → ∃ V', F_X9_teach_J25 G x p l k V = some (V', aTeach Z p l k) ∧ fr (zE G x) V V' ∧ vZ G V' x (teachZ Z p l k) := by
    intro c
    obtain ⟨V1, g1, r1⟩ := no c
    refine ⟨V1, ?_, r1⟩
    unfold F_X9_teach_J25 F_X9_teach_J26
    exact E_gd (by decide) (E_if (fun _ => g1) (fun q => absurd rfl q))
  unfold F_X9_teach
  by_cases h1 : 0 ≤ p ∧ p < cn Z.1
  rotate_left
  · rw [if_neg h1] at e1
    obtain ⟨V1, g1, r1⟩ := no0 (fun q => h1 q.1.1)
    exact ⟨V1, E_n e1 g1, r1⟩
  rw [if_pos h1] at e1
  by_cases h2 : 0 ≤ l ∧ l < cn Z.1
  rotate_left
  · rw [if_neg h2] at e2
    obtain ⟨V1, g1, r1⟩ := no0 (fun q => h2 q.1.2.1)
    exact ⟨V1, E_y e1 (E_n e2 g1), r1⟩
  rw [if_pos h2] at e2
  by_cases h3 : l = p
  · obtain ⟨V1, g1, r1⟩ := no0 (fun q => q.1.2.2 h3)
    exact ⟨V1, E_y e1 (E_y e2 (E_gd hl (E_gd hp (E_if (fun _ => g1) (fun q => absurd h3 q))))), r1⟩
  by_cases h4 : 0 ≤ k ∧ k ≤ 99
  rotate_left
  · obtain ⟨V1, g1, r1⟩ := no (fun q => h4 q.2)
    refine ⟨V1, E_y e1 (E_y e2 (E_gd hl (E_gd hp (E_if (fun q => absurd q h3) (fun _ => ?_))))), r1⟩
    unfold F_X9_teach_J26
    exact E_gd (by decide) (E_if (fun q => absurd q (by decide)) (fun _ => E_gd hk (E_if (fun _ => g1) (fun q => E_if (fun q2 => absurd ⟨by omega, q2⟩ h4) (fun _ => g1)))))
  have hc : canTe Z p l k := ⟨⟨h1, h2, h3⟩, h4⟩
  have g0 := m_points (s9_8s hG) hn.2 hv.2.2.1 h1 h2
  obtain ⟨a, b, c, d, ⟨e0, f⟩, g, i, j⟩ := hv
  obtain ⟨V1, g1, k1, w1⟩ := c_remember (V := V) (y := x + 45) (mo := x + 227) (s9_7s hG) (s9_8s hG) (by omega) hn c i
  obtain ⟨V2, g2, k2, w2⟩ := m_setP (V := V1) (v := k) (s9_8s hG) hn.2 (c.fr k1 (fun i p q => by omega)) h1 h2 hk
  rw [show max 0 (min 99 k) = k by omega] at w2
  have k12 : fr (fun i => (x + 45 ≤ i ∧ i ≤ x + 226) ∨ i = x + 233) V V2 := (k1.mono (fun i q => Or.inl (by omega))).trans (k2.mono (fun i q => Or.inr (by omega)))
  refine ⟨V2, E_y e1 (E_y e2 (E_gd hl (E_gd hp (E_if (fun q => absurd q h3) (fun _ => ?_))))), k12.mono (fun i q => by simp only [zE]; omega), ?_⟩
  · unfold F_X9_teach_J26 aTeach
    rw [if_pos hc]
    exact E_gd (by decide) (E_if (fun q => absurd q (by decide)) (fun _ => E_gd hk (E_if (fun q => by omega) (fun _ => E_if (fun _ => E_bd g0 (E_bd g1 (E_bd g2 rfl))) (fun q => absurd h4.2 q)))))
  · unfold teachZ
    rw [if_pos hc]
    exact ⟨a, b.fr k12 (fun j p q _ => by omega), w2, d.fr k12 (by omega) (by omega), ⟨e0, f.fr k12 (fun j p q => by omega)⟩, by rw [k12.I (by omega)]; exact g, w1.fr k2 (fun j p q w => by omega), j.fr k12 (by omega) (by omega)⟩
theorem r_teach (ho : okZ Z) (hv : rZ V m Z) {p l k : Int} (hp : rg p) (hl : rg l) (hk : rg k) :
    ∃ V', F_X10_teach G m p l k V = some (V', aTeach Z p l k) ∧ rG m V V' ∧ rZ V' m (teachZ Z p l k) := by
  have hn := ho.1.1
  have e1 := r_isP (G := G) ho.1 hv.1 hp
  have e2 := r_isP (G := G) ho.1 hv.1 hl
  have ei := r_isIn (G := G) (V := V) (x := k) (a := 0) (b := 99) ⟨by omega, by omega⟩ ⟨by decide, by decide⟩ ⟨by decide, by decide⟩
  have no : ¬ canTe Z p l k → ∃ V', F_X10_teach_J33 G m p l k V = some (V', aTeach Z p l k) ∧ rG m V V' ∧ rZ V' m (teachZ Z p l k) := by
    intro c
    obtain ⟨V1, g1, hV1, w1⟩ := r_refuse (G := G) hv (k := 3) (by decide)
    refine ⟨V1, ?_, by rw [hV1]; exact rG_sA rfl, by unfold teachZ; rw [if_neg c]; exact w1⟩
    unfold F_X10_teach_J33 aTeach
    rw [if_neg c]
    exact E_bd g1 rfl
  unfold F_X10_teach
  by_cases h1 : 0 ≤ p ∧ p < cn Z.1
  rotate_left
  · rw [if_neg h1] at e1
    obtain ⟨V1, g1, r1⟩ := no (fun q => h1 q.1.1)
    exact ⟨V1, E_n e1 g1, r1⟩
  rw [if_pos h1] at e1
  by_cases h2 : 0 ≤ l ∧ l < cn Z.1
  rotate_left
  · rw [if_neg h2] at e2
    obtain ⟨V1, g1, r1⟩ := no (fun q => h2 q.1.2.1)
    exact ⟨V1, E_y e1 (E_n e2 g1), r1⟩
  rw [if_pos h2] at e2
  by_cases h3 : p = l
  · obtain ⟨V1, g1, r1⟩ := no (fun q => q.1.2.2 h3.symm)
    exact ⟨V1, E_y e1 (E_y e2 (E_gd hp (E_gd hl (E_if (fun _ => g1) (fun q => absurd h3 q))))), r1⟩
  by_cases h4 : 0 ≤ k ∧ k ≤ 99
  rotate_left
  · rw [if_neg h4] at ei
    obtain ⟨V1, g1, r1⟩ := no (fun q => h4 q.2)
    exact ⟨V1, E_y e1 (E_y e2 (E_gd hp (E_gd hl (E_if (fun q => absurd q h3) (fun _ => E_gd hk (E_n ei g1)))))), r1⟩
  rw [if_pos h4] at ei
  have hc : canTe Z p l k := ⟨⟨h1, h2, fun q => h3 q.symm⟩, h4⟩
  obtain ⟨a, b, c, d, d5⟩ := hv
  obtain ⟨V1, g1, k1, w1⟩ := r_keeps (G := G) hn.2 b ho.2.1.2.2.2.2.2.2 c (fun Q hQ => (ho.2.2 Q hQ).2.2.2.2.2.2)
  have kc : rCs m V V1 := ⟨fun i p q => k1.1 i (by omega), by rw [k1.2.2.2]⟩
  have hM1 : rM (gA V1 (m + 37)) (cn Z.1) Z.2.1 := by rw [k1.1 _ (by omega)]; exact b
  have o : ∀ i, i ≠ m + 37 → gA (sA V1 (m + 37) (3 + 12 * p + l).toNat k) i = gA V1 i := fun i hi => gA_sAo hi
  refine ⟨_, E_y e1 (E_y e2 (E_gd hp (E_gd hl (E_if (fun q => absurd q h3) (fun _ => E_gd hk (E_y ei (E_bd g1 (E_bd (r_pts hM1 hn.2 h1 h2) (E_bd (r_knows hn.2 h1 h2) ?_))))))))), k1.out.trans ⟨fun i _ q => o i (by omega), fun _ _ _ => rfl, fun _ _ _ => rfl, fun _ _ => rfl⟩, ?_⟩
  · unfold aTeach
    rw [if_pos hc]
  · unfold teachZ
    rw [if_pos hc]
    obtain ⟨p1, p2, p3, p4⟩ := w1
    refine ⟨(a.fr kc).fr ⟨fun i _ q => o i (by omega), rfl⟩, ?_, ⟨p1, p2, p3, fun i hi => ?_⟩, fun j q r => ?_, ?_⟩
    · rw [gA_sAe]; exact rM_setP hM1 hn.2 h1 h2
    · rw [o _ (by omega)]; exact p4 i hi
    · rw [o _ (by omega), k1.1 _ (by omega)]; exact d j q r
    · show gI V1 m 61 = -1 ∨ gI V1 m 61 = 0 ∨ gI V1 m 61 = 1
      rw [k1.2.1 m 61 (by omega)]; exact d5
end

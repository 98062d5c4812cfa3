/-! people and tasks told, both sides -/
/-- behind the word: a new name, a word, a number -/
def aGv (C : mCy) (T : mT2) (w mx : Int) (p : Nat) : (Int × Int) ⊕ Nat := thn (thn (nNw C T p) (nWd T w)) (nNu T mx)
theorem nWd_i {T : mT2} {w : Int} {p q : Nat} (h : nWd T w p = .inr q) : q = nxT T p := by
  unfold nWd at h
  split at h
  · cases h; rfl
  · cases h
theorem nNw_i {C : mCy} {T : mT2} {p q : Nat} (h : nNw C T p = .inr q) : nNa T p = .inr q := by
  unfold nNw at h
  cases hN : nNa T p with
  | inl e => rw [hN] at h; cases h
  | inr q' =>
    rw [hN] at h
    have h' : (if fl (cp C) (ltr T p (lnT T p)) 0 (cn C).toNat = -1 ∧ fl (cq C) (ltr T p (lnT T p)) 0 (ct C).toNat = -1 then .inr q' else .inl (3, (p : Int)) : (Int × Int) ⊕ Nat) = .inr q := h
    split at h'
    · exact h'
    · cases h'
theorem aGv_i {C : mCy} {T : mT2} {w mx : Int} {p q : Nat} (h : aGv C T w mx p = .inr q) : nNw C T p = .inr (nxT T p) ∧ nNu T mx (nxT T (nxT T p)) = .inr q ∧ vlT T p = nm5 (ltr T p (lnT T p)) ∧ (okW (ltr T p (lnT T p)) ∧ (ltr T p (lnT T p)).length ≤ 6) ∧ (0 ≤ vlT T (nxT T (nxT T p)) ∧ vlT T (nxT T (nxT T p)) ≤ mx) ∧ thn (nNw C T p) (nWd T w) = .inr (nxT T (nxT T p)) := by
  unfold aGv at h
  obtain ⟨p3, h1, h2⟩ := thn_r h
  obtain ⟨p2, h3, h4⟩ := thn_r h1
  have a := nNw_i h3
  obtain ⟨n1, n2, n3, n4, n5⟩ := nNa_ok a
  have b := nWd_i h4
  subst n3
  subst b
  have i := nNu_i h2
  have v := vl_1r i.1
  exact ⟨h3, h2, n4, ⟨n5, by rw [ltr_len]; exact n2⟩, ⟨v.1, i.2.2.1⟩, h1⟩
section
variable {G : mG} {V V' : mV} {c r m : Nat} {C : mCy} {T : mT2}
/-- the class's: sort 0 a person, 2 a task -/
theorem c_given (hG : is6 G r) (hc : is1 G c) (hT : tOk T) (hd : r + 12 < c) (h : bC V c C) {p : Nat} (hs : rs6 V r T (.inr p)) {sort : Int} (hso : (sort = 0 ∧ cn C < 10) ∨ (sort = 2 ∧ ct C < 8)) :
    ∃ V', F_X6_readGiven G r c sort V = some (V', 0) ∧ fr (fun i => i = r ∨ (c + 1 ≤ i ∧ i ≤ c + 14)) V V' ∧ gI V' r 10 = gI V r 10 ∧
      rs6 V' r T (aGv C T (if sort = 0 then 1 else 3) (if sort = 0 then 9 else 99) (nxT T p)) ∧ (∀ e, aGv C T (if sort = 0 then 1 else 3) (if sort = 0 then 9 else 99) (nxT T p) = .inl e → bC V' c C) ∧ (∀ q, aGv C T (if sort = 0 then 1 else 3) (if sort = 0 then 9 else 99) (nxT T p) = .inr q → bC V' c (if sort = 0 then addP C (ltr T (nxT T p) (lnT T (nxT T p))) (vlT T (nxT T (nxT T (nxT T p)))) else addT C (ltr T (nxT T p) (lnT T (nxT T p))) (vlT T (nxT T (nxT T (nxT T p)))))) := by
  have srt0 : rg sort := by rcases hso with ⟨z, -⟩ | ⟨z, -⟩ <;> rw [z] <;> decide
  obtain ⟨V1, e1, k1, r1⟩ := S_take hG hs
  have r1' : rs6 V1 r T (.inr (nxT T p)) := r1
  have h1 := h.fr k1.1 (fun i a b => by omega)
  obtain ⟨V2, e2, k2, r2⟩ := c_new (C := C) hG hT hc hd ⟨h1.1.1, h1.1.2.1⟩ ⟨h1.2.2.1.2.1.1, h1.2.2.1.2.2.1.1⟩ h1.2.1 r1'
  obtain ⟨V3, e3, k3, r3⟩ := S_wd hG r2 (w := if sort = 0 then 1 else 3) (by split <;> decide)
  obtain ⟨V4, v4, e4, k4, r4, b4, c4⟩ := S_nu hG hT r3 (mx := if sort = 0 then 9 else 99) (by split <;> decide)
  have kk := ((k1.trans k2).trans k3).trans k4
  have h4 := h.fr kk.1 (fun i a b => by omega)
  have r4' : rs6 V4 r T (aGv C T (if sort = 0 then 1 else 3) (if sort = 0 then 9 else 99) (nxT T p)) := r4
  have top : ∀ V', (bd (F_X6_fine G r V4) fun V25 v26 =>
      gd (rg v26) <|
      if v26 = 0 then (some (V25, (0 : Int))) else (gd (rg sort) <|
      if sort = 0 then (bd (F_X1_addPerson G c (vlT T (nxT T p)) v4 V25) fun V35 v36 =>
      some (V35, 0)) else (bd (F_X1_addTask G c (vlT T (nxT T p)) v4 V25) fun V32 v33 =>
      some (V32, 0)))) = some (V', 0) → F_X6_readGiven G r c sort V = some (V', 0) := by
    intro V' e
    unfold F_X6_readGiven
    refine E_bd e1 (E_bd (k6_here hG r1'.1) (e2 (fun v V => F_X6_readGiven_J30 G r c sort v V) _ ?_))
    show F_X6_readGiven_J30 G r c sort (vlT T (nxT T p)) V2 = _
    have j40 : F_X6_readGiven_J40 G r c sort (vlT T (nxT T p)) (if sort = 0 then 1 else 3) V2 = some (V', 0) := by
      unfold F_X6_readGiven_J40
      have j55 : F_X6_readGiven_J55 G r c sort (vlT T (nxT T p)) (if sort = 0 then 9 else 99) V3 = some (V', 0) := by
        unfold F_X6_readGiven_J55
        exact E_bd e4 e
      refine E_bd e3 (E_gd srt0 (E_if (fun y => ?_) (fun y => ?_)))
      · rw [if_pos y] at j55; exact j55
      · rw [if_neg y] at j55; exact j55
    unfold F_X6_readGiven_J30
    refine E_gd srt0 (E_if (fun y => ?_) (fun y => ?_))
    · rw [if_pos y] at j40; exact j40
    · rw [if_neg y] at j40; exact j40
  cases hA : aGv C T (if sort = 0 then 1 else 3) (if sort = 0 then 9 else 99) (nxT T p) with
  | inl e =>
    rw [hA] at r4'
    refine ⟨V4, top V4 (E_bd (k6_bad r4'.bad.1 r4'.bad.2) (E_gd (by decide) (E_if (fun _ => rfl) (fun y => absurd rfl y)))), kk.1.mono (fun i q => Or.inl q), kk.2, r4', fun _ _ => h4, fun q z => by cases z⟩
  | inr q =>
    rw [hA] at r4'
    obtain ⟨i1, i2, i3, i4, i5, i6⟩ := aGv_i hA
    have v4e : v4 = vlT T (nxT T (nxT T (nxT T p))) := c4 _ i6
    rcases hso with ⟨z, zn⟩ | ⟨z, zn⟩
    · subst z
      rw [if_pos rfl] at i5
      obtain ⟨V5, e5, k5, h5⟩ := c_addP hc h4 zn i4 (w := v4) (by rw [v4e]; exact i5)
      rw [← i3] at e5
      refine ⟨V5, top V5 (E_bd (k6_fine r4'.2) (E_gd (by decide) (E_if (fun y => absurd y (by decide)) (fun _ => E_gd srt0 (E_if (fun _ => E_bd e5 rfl) (fun y => absurd rfl y)))))), (kk.1.mono (fun i q => Or.inl q)).trans (k5.mono (fun i q => by omega)), by rw [k5.I (by omega)]; exact kk.2, rs6.w r4' k5 (fun i a b => by omega), (fun e y => by cases y), fun q' _ => ?_⟩
      rw [if_pos rfl, ← v4e]; exact h5
    · subst z
      rw [if_neg (by decide)] at i5
      obtain ⟨V5, e5, k5, -, h5⟩ := c_addT hc h4 zn i4 (w := v4) (by rw [v4e]; exact i5)
      rw [← i3] at e5
      refine ⟨V5, top V5 (E_bd (k6_fine r4'.2) (E_gd (by decide) (E_if (fun y => absurd y (by decide)) (fun _ => E_gd srt0 (E_if (fun y => absurd y (by decide)) (fun _ => E_bd e5 rfl)))))), (kk.1.mono (fun i q => Or.inl q)).trans (k5.mono (fun i q => by omega)), by rw [k5.I (by omega)]; exact kk.2, rs6.w r4' k5 (fun i a b => by omega), (fun e y => by cases y), fun q' _ => ?_⟩
      rw [if_neg (by decide), ← v4e]; exact h5
/-- a city so far, in the reference's cells -/
def rFb (V : mV) (m w K : Nat) (cs : List Int) : Prop := (cs = [] ∧ gA V (m + 34) w = -1) ∨ (cs ≠ [] ∧ ∃ a b : Nat, gA V (m + 34) w = (a : Int) ∧ gA V (m + 35) w = (b : Int) ∧ a + cs.length = b ∧ b ≤ K ∧ clr (gA V (m + 36)) a cs)
def lnC (C : mCy) : Nat := (co C 0).length + (co C 1).length + (co C 2).length + (co C 3).length
def rBd (V : mV) (m : Nat) (C : mCy) : Prop := (rNm V m 0 (cn C) (cp C) ∧ rNm V m 1 (ct C) (cq C) ∧ gA V (m + 27) 2 = ((cd C).length : Int)) ∧
  (∀ p : Nat, (p : Int) < cn C → gA V (m + 29) p = cw C (p : Int)) ∧ (∀ t : Nat, (t : Int) < ct C → gA V (m + 29) (10 + t) = ch C (t : Int)) ∧
  (∀ k : Nat, k < (cd C).length → gA V (m + 30) (3 * k) = ((cd C).getD k d0).1 ∧ gA V (m + 30) (3 * k + 1) = ((cd C).getD k d0).2.1 ∧ gA V (m + 30) (3 * k + 2) = ((cd C).getD k d0).2.2) ∧
  (∀ p : Nat, (p : Int) < cn C → gA V (m + 31) p = cc C (p : Int) ∧ gA V (m + 32) p = cb C (p : Int)) ∧
  (∀ a b : Nat, (a : Int) < cn C → (b : Int) < cn C → gA V (m + 33) (10 * a + b) = ck C (a : Int) (b : Int)) ∧
  (gI V m 46 = (lnC C : Int) ∧ ∀ w : Nat, w < 4 → rFb V m w (lnC C) (co C w)) ∧ gI V m 47 = cu C
theorem rBd.lk (h : rBd V m C) (k : rLk m V V') : rBd V' m C := by
  obtain ⟨⟨a1, a2, a3⟩, b1, b2, b3, b4, b5, ⟨c1, c2⟩, d⟩ := h
  unfold rBd rFb
  rw [k.1, k.2.2.2 m 46 (by omega), k.2.2.2 m 47 (by omega)]
  exact ⟨⟨a1.of (by rw [k.1]) (by rw [k.2.2.1]), a2.of (by rw [k.1]) (by rw [k.2.2.1]), a3⟩, b1, b2, b3, b4, b5, ⟨c1, c2⟩, d⟩
theorem rBd.b (h : rBd V m C) (k : rB m V V') : rBd V' m C := by
  obtain ⟨⟨a1, a2, a3⟩, b1, b2, b3, b4, b5, ⟨c1, c2⟩, d⟩ := h
  have q : ∀ i, m + 27 ≤ i → i ≤ m + 36 → gA V' i = gA V i := fun i x y => k.2.2.1 i (by omega) (by omega)
  unfold rBd rFb
  rw [q _ (show m + 27 ≤ m + 27 by omega) (by omega), q _ (show m + 27 ≤ m + 29 by omega) (by omega), q _ (show m + 27 ≤ m + 30 by omega) (by omega), q _ (show m + 27 ≤ m + 31 by omega) (by omega), q _ (show m + 27 ≤ m + 32 by omega) (by omega), q _ (show m + 27 ≤ m + 33 by omega) (by omega), q _ (show m + 27 ≤ m + 34 by omega) (by omega), q _ (show m + 27 ≤ m + 35 by omega) (by omega), q _ (show m + 27 ≤ m + 36 by omega) (by omega), k.2.2.2 m 46 (by omega), k.2.2.2 m 47 (by omega)]
  exact ⟨⟨a1.of (q _ (by omega) (by omega)) (by rw [k.2.1]), a2.of (q _ (by omega) (by omega)) (by rw [k.2.1]), a3⟩, b1, b2, b3, b4, b5, ⟨c1, c2⟩, d⟩
/-- telling a city touches these alone -/
def hfA (a : Nat) : Nat := if a = 27 then 3 else if a = 29 then 20 else if a = 30 then 72 else if a = 33 then 100 else if a = 36 then 1600 else if a ≤ 32 then 10 else 4
/-- what stands stays -/
def rHf (m : Nat) (V V' : mV) : Prop := (∀ a k, 27 ≤ a → a ≤ 36 → hfA a ≤ k → gA V' (m + a) k = gA V (m + a) k) ∧ ∀ k, 20 ≤ k → gL V' (m + 28) k = gL V (m + 28) k
theorem rHf.trans {V1 : mV} (h : rHf m V V') (k : rHf m V' V1) : rHf m V V1 := ⟨fun a j x y z => (k.1 a j x y z).trans (h.1 a j x y z), fun j z => (k.2 j z).trans (h.2 j z)⟩
theorem rHf_eq (h : gA V' = gA V) (k : gL V' = gL V) : rHf m V V' := ⟨fun _ _ _ _ _ => by rw [h], fun _ _ => by rw [k]⟩
def rSt (m : Nat) (V V' : mV) : Prop := gJ V' = gJ V ∧ (∀ i, i ≠ m + 28 → gL V' i = gL V i) ∧ (∀ i, i ≠ m + 68 → i ≠ m + 69 → (i < m + 27 ∨ m + 36 < i) → gA V' i = gA V i) ∧ (∀ i k, (i ≠ m ∨ (k ≠ 2 ∧ k ≠ 4 ∧ k ≠ 5 ∧ k ≠ 6 ∧ k ≠ 10 ∧ k ≠ 35 ∧ k ≠ 46 ∧ k ≠ 47 ∧ k ≠ 48 ∧ k ≠ 98 ∧ k ≠ 100 ∧ k ≠ 101 ∧ k ≠ 102)) → gI V' i k = gI V i k) ∧ rHf m V V'
theorem rSt_refl : rSt m V V := ⟨rfl, fun _ _ => rfl, fun _ _ _ _ => rfl, fun _ _ _ => rfl, rHf_eq rfl rfl⟩
theorem rSt.trans {V1 V2 : mV} (h : rSt m V V1) (k : rSt m V1 V2) : rSt m V V2 := ⟨k.1.trans h.1, fun i a => (k.2.1 i a).trans (h.2.1 i a), fun i a b d => (k.2.2.1 i a b d).trans (h.2.2.1 i a b d), fun i j q => (k.2.2.2.1 i j q).trans (h.2.2.2.1 i j q), fun a j x y z => (k.2.2.2.2.1 a j x y z).trans (h.2.2.2.2.1 a j x y z), fun j z => (k.2.2.2.2.2 j z).trans (h.2.2.2.2.2 j z)⟩
theorem rB.S (h : rB m V V') : rSt m V V' := ⟨h.1, fun i _ => by rw [h.2.1], fun i a b _ => h.2.2.1 i a b, fun i k q => h.2.2.2 i k (by omega), fun a j x y z => by rw [h.2.2.1 (m + a) (by omega) (by omega)], fun j z => by rw [h.2.1]⟩
theorem rLk.S (h : rLk m V V') : rSt m V V' := h.B.S
theorem rHf_sA {a k : Nat} {x : Int} (hk : k < hfA a) : rHf m V (sA V (m + a) k x) :=
  ⟨fun b j _ _ z => by rw [gA_sA, if_neg (fun q => by obtain ⟨q1, q2⟩ := q; have e : b = a := (by omega); rw [e] at z; omega)], fun _ _ => rfl⟩
theorem rSt_sA {a k : Nat} {x : Int} (ha : 27 ≤ a ∧ a ≤ 36) (hk : k < hfA a) : rSt m V (sA V (m + a) k x) := ⟨rfl, fun _ _ => rfl, fun i _ _ h => gA_sAo (by omega), fun _ _ _ => rfl, rHf_sA hk⟩
theorem rSt_sI {k : Nat} {x : Int} (hk : k = 46 ∨ k = 47 ∨ k = 48 ∨ k = 98 ∨ k = 100 ∨ k = 101 ∨ k = 102) : rSt m V (sI V m k x) := ⟨rfl, fun _ _ => rfl, fun _ _ _ _ => rfl, fun i j q => by rw [gI_sI, if_neg (by omega)], rHf_eq rfl rfl⟩
theorem rWd.S (h : rWd V m) (k : rSt m V V') : rWd V' m := h.of (fun i hi => by unfold isW at hi; exact k.2.2.1 _ (by omega) (by omega) (by omega))
/-- is there room -/
theorem r_full {k : Nat} {room begun : Int} (hk : k ≤ 2) {n : Int} (hn : gA V (m + 27) k = n) (hr : rg n ∧ rg room) (h0 : gI V m 5 = 0) : ∃ V', F_X10_isFull G m (k : Int) room begun V = some (V', if n = room then 1 else 0) ∧ rLk m V V' ∧ (if n = room then rs10 V' m T (.inl (5, begun)) else V' = V) := by
  unfold F_X10_isFull
  by_cases c : n = room
  · obtain ⟨V1, e1, k1, r1⟩ := r_fail (G := G) (T := T) h0 (k := 5) (w := begun) ⟨by decide, by decide⟩
    simp only [if_pos c]
    refine ⟨V1, ?_, k1, r1⟩
    refine E_gd (by rw [h0]; decide) (E_if (fun _ => E_gd ⟨by omega, by omega, by omega⟩ ?_) (fun y => absurd h0 y))
    rw [Int.toNat_natCast, hn]
    refine E_gd hr.1 (E_gd hr.2 (E_if (fun _ => E_bd e1 ?_) (fun y => absurd c y)))
    unfold F_X10_isFull_J23
    exact E_gd r1.bad.2 (E_if (fun y => absurd y r1.bad.1) (fun _ => rfl))
  · simp only [if_neg c]
    refine ⟨V, ?_, rLk_refl, rfl⟩
    refine E_gd (by rw [h0]; decide) (E_if (fun _ => E_gd ⟨by omega, by omega, by omega⟩ ?_) (fun y => absurd h0 y))
    rw [Int.toNat_natCast, hn]
    refine E_gd hr.1 (E_gd hr.2 (E_if (fun y => absurd y c) (fun _ => ?_)))
    unfold F_X10_isFull_J23
    exact E_gd (by rw [h0]; decide) (E_if (fun _ => rfl) (fun y => absurd h0 y))
end

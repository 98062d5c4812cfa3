/-! a city read: what it may be -/
def eB (n : Nat) (y : tR) : Prop := match y with
  | .inl e => (0 ≤ e.1 ∧ e.1 ≤ 9) ∧ 0 ≤ e.2 ∧ e.2 ≤ (n : Int) + 6
  | .inr x => x.2 ≤ n
def eN (n : Nat) (y : (Int × Int) ⊕ Nat) : Prop := match y with
  | .inl e => (0 ≤ e.1 ∧ e.1 ≤ 9) ∧ 0 ≤ e.2 ∧ e.2 ≤ (n : Int) + 6
  | .inr x => x ≤ n
def eC (n : Nat) (y : tC) : Prop := match y with
  | .inl e => (0 ≤ e.1 ∧ e.1 ≤ 9) ∧ 0 ≤ e.2 ∧ e.2 ≤ (n : Int) + 6
  | .inr x => x.2 ≤ n
section
variable {n : Nat} {K : mK}
theorem eB_seq {a : tR} {f : List Int → Nat → tR} (ha : eB n a) (hf : ∀ c q, q ≤ n → eB n (f c q)) : eB n (seqR a f) := by
  cases a with
  | inl e => exact ha
  | inr x => exact hf x.1 x.2 ha
theorem eB_e {k w : Int} (h : 0 ≤ w ∧ w ≤ (n : Int) + 6) (hk : 0 ≤ k ∧ k ≤ 9 := by decide) : eB n (.inl (k, w)) := ⟨hk, h⟩
theorem eB_lo {P : Nat → tR} {cd : Nat → Int} (hK : okK n K) (hcd : ∀ p, cd p ≠ 0 → kcl K p ≠ 0) (hP : ∀ p, p ≤ n → eB n (P p)) : ∀ (k : Nat) (c : List Int) (p : Nat), p ≤ n → eB n (loR P cd K k c p)
  | 0, _, _, h => h
  | k + 1, c, p, h => by
    unfold loR
    by_cases e : cd p = 0
    · rw [if_pos e]; exact h
    · rw [if_neg e]
      exact eB_seq (hP _ (hK p (hcd p e)).2.2) (fun c2 q hq => eB_lo hK hcd hP k _ q hq)
theorem eB_rd (hK : okK n K) : ∀ (f w o p : Nat), p ≤ n → eB n (rd K f w o p)
  | 0, _, _, _, _ => eB_e ⟨Int.le_refl _, by omega⟩
  | f + 1, w, o, p, h => by
    have ih := eB_rd hK f
    have kn : ∀ {q k : Nat}, kcl K q = k → k ≠ 0 → knx K q ≤ n := fun {q k} e hk => (hK q (by omega)).2.2
    unfold rd
    by_cases w0 : w = 0
    · rw [if_pos w0]; exact eB_seq (ih _ _ _ h) (fun c q hq => eB_lo hK (fun p => orc_ne) (fun p hp => ih _ _ _ hp) _ _ _ hq)
    rw [if_neg w0]
    by_cases w1 : w = 1
    · rw [if_pos w1]; exact eB_seq (ih _ _ _ h) (fun c q hq => eB_lo hK (fun p => andc_ne) (fun p hp => ih _ _ _ hp) _ _ _ hq)
    rw [if_neg w1]
    by_cases w2 : w = 2
    · rw [if_pos w2]
      unfold rdF
      by_cases c1 : kcl K p = 18
      · rw [if_pos c1]
        by_cases o6 : 6 ≤ o
        · rw [if_pos o6]; exact eB_e ⟨by omega, by omega⟩
        · rw [if_neg o6]; exact eB_seq (ih _ _ _ (kn c1 (by decide))) (fun c q hq => hq)
      rw [if_neg c1]
      by_cases c2 : kcl K p = 16
      · rw [if_pos c2]
        by_cases o6 : 6 ≤ o
        · rw [if_pos o6]; exact eB_e ⟨by omega, by omega⟩
        · rw [if_neg o6]
          refine eB_seq (ih _ _ _ (kn c2 (by decide))) (fun c q hq => ?_)
          by_cases c3 : kcl K q = 17
          · rw [if_pos c3]; exact kn c3 (by decide)
          · rw [if_neg c3]; exact eB_e ⟨by omega, by omega⟩
      rw [if_neg c2]
      by_cases c4 : kcl K p = 19
      · rw [if_pos c4]; exact kn c4 (by decide)
      rw [if_neg c4]
      refine eB_seq (ih _ _ _ h) (fun c q hq => ?_)
      by_cases c5 : cmpc K q = 0
      · rw [if_pos c5]; exact eB_e ⟨by omega, by omega⟩
      · rw [if_neg c5]; exact eB_seq (ih _ _ _ (hK q (cmpc_ne c5)).2.2) (fun c2 q2 h2 => h2)
    rw [if_neg w2]
    by_cases w3 : w = 3
    · rw [if_pos w3]; exact eB_seq (ih _ _ _ h) (fun c q hq => eB_lo hK (fun p => addc_ne) (fun p hp => ih _ _ _ hp) _ _ _ hq)
    rw [if_neg w3]
    by_cases w4 : w = 4
    · rw [if_pos w4]; exact eB_seq (ih _ _ _ h) (fun c q hq => eB_lo hK (fun p => mulc_ne) (fun p hp => ih _ _ _ hp) _ _ _ hq)
    rw [if_neg w4]
    unfold rdP
    by_cases c1 : kcl K p = 1
    · rw [if_pos c1]
      by_cases l4 : 4 < kln K p
      · rw [if_pos l4]; exact eB_e ⟨by omega, by omega⟩
      · rw [if_neg l4]; exact kn c1 (by decide)
    rw [if_neg c1]
    by_cases c2 : kcl K p = 2
    · rw [if_pos c2]
      by_cases o6 : 6 ≤ o
      · rw [if_pos o6]; exact eB_e ⟨by omega, by omega⟩
      · rw [if_neg o6]
        refine eB_seq (ih _ _ _ (kn c2 (by decide))) (fun c q hq => ?_)
        by_cases c3 : kcl K q = 7
        · rw [if_pos c3]; exact kn c3 (by decide)
        · rw [if_neg c3]; exact eB_e ⟨by omega, by omega⟩
    rw [if_neg c2]
    by_cases c34 : kcl K p = 3 ∨ kcl K p = 4
    · rw [if_pos c34]
      have k1 : knx K p ≤ n := (hK p (by omega)).2.2
      unfold rdM
      by_cases c3 : kcl K (knx K p) ≠ 2
      · rw [if_pos c3]; exact eB_e ⟨by omega, by omega⟩
      rw [if_neg c3]
      by_cases o6 : 6 ≤ o
      · rw [if_pos o6]; exact eB_e ⟨by omega, by omega⟩
      rw [if_neg o6]
      refine eB_seq (ih _ _ _ (kn (Decidable.not_not.mp c3) (by decide))) (fun c q hq => ?_)
      by_cases c8 : kcl K q ≠ 8
      · rw [if_pos c8]; exact eB_e ⟨by omega, by omega⟩
      rw [if_neg c8]
      refine eB_seq (ih _ _ _ (kn (Decidable.not_not.mp c8) (by decide))) (fun c2 q2 hq2 => ?_)
      by_cases c7 : kcl K q2 ≠ 7
      · rw [if_pos c7]; exact eB_e ⟨by omega, by omega⟩
      · rw [if_neg c7]; exact kn (Decidable.not_not.mp c7) (by decide)
    rw [if_neg c34]
    by_cases c5 : kcl K p = 5
    · rw [if_pos c5]
      by_cases o6 : 6 ≤ o
      · rw [if_pos o6]; exact eB_e ⟨by omega, by omega⟩
      · rw [if_neg o6]; exact eB_seq (ih _ _ _ (kn c5 (by decide))) (fun c q hq => hq)
    rw [if_neg c5]
    by_cases c6 : kcl K p = 6
    · rw [if_pos c6]; exact kn c6 (by decide)
    · rw [if_neg c6]; exact eB_e ⟨by omega, by omega⟩
end
section
variable {T : mT2} {C : mCy}
theorem nx_le1 {p : Nat} (h : p ≤ T.2) : nxT T p ≤ T.2 := (bsk_spec (te_le h).2).2.1
theorem eN_e {k w : Int} {n : Nat} (h : 0 ≤ w ∧ w ≤ (n : Int) + 6) (hk : 0 ≤ k ∧ k ≤ 9 := by decide) : eN n (.inl (k, w)) := ⟨hk, h⟩
theorem eN_thn {n : Nat} {a : (Int × Int) ⊕ Nat} {f : Nat → (Int × Int) ⊕ Nat} (ha : eN n a) (hf : ∀ q, q ≤ n → eN n (f q)) : eN n (thn a f) := by
  cases a with
  | inl e => exact ha
  | inr x => exact hf x ha
theorem eN_sg {s : Int} {p : Nat} (h : p ≤ T.2) : eN T.2 (nSg T s p) := by
  unfold nSg
  by_cases c : kdT T p = 2 ∧ T.1 p = s
  · rw [if_pos c]; exact nx_le1 h
  · rw [if_neg c]; exact eN_e ⟨by omega, by omega⟩
theorem eN_wd {s : Int} {p : Nat} (h : p ≤ T.2) : eN T.2 (nWd T s p) := by
  unfold nWd
  by_cases c : nmT T p = s
  · rw [if_pos c]; exact nx_le1 h
  · rw [if_neg c]; exact eN_e ⟨by omega, by omega⟩
theorem eN_nu {s : Int} {p : Nat} (h : p ≤ T.2) : eN T.2 (nNu T s p) := by
  unfold nNu
  by_cases c : kdT T p ≠ 1
  · rw [if_pos c]; exact eN_e ⟨by omega, by omega⟩
  rw [if_neg c]
  by_cases c : 4 < lnT T p
  · rw [if_pos c]; exact eN_e ⟨by omega, by omega⟩
  rw [if_neg c]
  by_cases c : s < vlT T p
  · rw [if_pos c]; exact eN_e ⟨by omega, by omega⟩
  · rw [if_neg c]; exact nx_le1 h
theorem eN_na {p : Nat} (h : p ≤ T.2) : eN T.2 (nNa T p) := by
  unfold nNa
  by_cases c : kdT T p = 0 ∧ (nmT T p = -1 ∨ 24 ≤ nmT T p)
  · rw [if_pos c]
    by_cases l : lnT T p ≤ 6
    · rw [if_pos l]; exact nx_le1 h
    · rw [if_neg l]; exact eN_e ⟨by omega, by omega⟩
  · rw [if_neg c]; exact eN_e ⟨by omega, by omega⟩
theorem eN_kn {f : Int → List Int} {n : Int} {p : Nat} (h : p ≤ T.2) : eN T.2 (nKn f n T p) := by
  have q := eN_na h
  unfold nKn
  cases e : nNa T p with
  | inl x => rw [e] at q; exact q
  | inr x =>
    rw [e] at q
    show eN T.2 (if _ then _ else _)
    by_cases c : fl f (ltr T p (lnT T p)) 0 n.toNat = -1
    · rw [if_pos c]; exact eN_e ⟨by omega, by omega⟩
    · rw [if_neg c]; exact q
theorem eN_nw {p : Nat} (h : p ≤ T.2) : eN T.2 (nNw C T p) := by
  have q := eN_na h
  unfold nNw
  cases e : nNa T p with
  | inl x => rw [e] at q; exact q
  | inr x =>
    rw [e] at q
    show eN T.2 (if _ then _ else _)
    by_cases c : fl (cp C) (ltr T p (lnT T p)) 0 (cn C).toNat = -1 ∧ fl (cq C) (ltr T p (lnT T p)) 0 (ct C).toNat = -1
    · rw [if_pos c]; exact q
    · rw [if_neg c]; exact eN_e ⟨by omega, by omega⟩
theorem eN_gv {w mx : Int} {p : Nat} (h : p ≤ T.2) : eN T.2 (aGv C T w mx p) := eN_thn (eN_thn (eN_nw h) (fun _ => eN_wd)) (fun _ => eN_nu)
theorem eN_du {p : Nat} (h : p ≤ T.2) : eN T.2 (aDu C T p) := by
  refine eN_thn (eN_thn (eN_thn (eN_thn (eN_kn h) (fun _ => eN_kn)) (fun _ => eN_wd)) (fun _ => eN_nu)) (fun q hq => ?_)
  have := nx_le1 (nx_le1 (nx_le1 h))
  by_cases c : aDuD C T p ∈ cd C
  · rw [if_pos c]; exact eN_e ⟨by omega, by omega⟩
  · rw [if_neg c]; exact hq
theorem eN_co {p : Nat} (h : p ≤ T.2) : eN T.2 (aCo C T p) := by
  have := nx_le1 h
  refine eN_thn (eN_thn (eN_thn (eN_kn h) (fun q hq => ?_)) (fun _ => eN_kn)) (fun q hq => ?_)
  · by_cases c : cc C (aPi C T p) = -1
    · rw [if_pos c]; exact hq
    · rw [if_neg c]; exact eN_e ⟨by omega, by omega⟩
  · by_cases c : aPi C T (nxT T p) ≠ aPi C T p ∧ cb C (aPi C T (nxT T p)) = -1
    · rw [if_pos c]; exact hq
    · rw [if_neg c]; exact eN_e ⟨by omega, by omega⟩
theorem eN_kk {p : Nat} (h : p ≤ T.2) : eN T.2 (aKn C T p) := by
  have := nx_le1 h
  refine eN_thn (eN_thn (eN_thn (eN_kn h) (fun _ => eN_kn)) (fun q hq => ?_)) (fun _ => eN_nu)
  by_cases c : aPi C T (nxT T p) = aPi C T p
  · rw [if_pos c]; exact eN_e ⟨by omega, by omega⟩
  · rw [if_neg c]; exact hq
theorem eC_to {n : Nat} {x : (Int × Int) ⊕ Nat} (h : eN n x) : eC n (toC x C) := by cases x <;> exact h
theorem eC_e {k w : Int} {n : Nat} (h : 0 ≤ w ∧ w ≤ (n : Int) + 6) (hk : 0 ≤ k ∧ k ≤ 9) : eC n (.inl (k, w)) := ⟨hk, h⟩
theorem eC_ru {w p : Nat} (hK : okK T.2 (kT (w - 1) T)) (h : p ≤ T.2) : eC T.2 (aRu C T w p) := by
  have q := eB_rd hK 64 (if w ≤ 1 then 3 else 0) 0 p h
  unfold aRu
  cases e : rd (kT (w - 1) T) 64 (if w ≤ 1 then 3 else 0) 0 p with
  | inl x => rw [e] at q; exact q
  | inr x => rw [e] at q; exact q
theorem eC_st1 (hK : ∀ w, okK T.2 (kT w T)) {p : Nat} (h : p ≤ T.2) : eC T.2 (aSt1 C T p) := by
  have hx := nx_le1 h
  have bad : ∀ k, 0 ≤ k ∧ k ≤ 9 → eC T.2 (.inl (k, (p : Int))) := fun k hk => eC_e ⟨by omega, by omega⟩ hk
  unfold aSt1
  by_cases c : cu C = 70
  · rw [if_pos c]; exact bad _ (by decide)
  rw [if_neg c]
  by_cases c : nmT T p = 0
  · rw [if_pos c]
    by_cases d : cn C = 10
    · rw [if_pos d]; exact bad _ (by decide)
    · rw [if_neg d]; exact eC_to (eN_gv hx)
  rw [if_neg c]
  by_cases c : nmT T p = 2
  · rw [if_pos c]
    by_cases d : ct C = 8
    · rw [if_pos d]; exact bad _ (by decide)
    · rw [if_neg d]; exact eC_to (eN_gv hx)
  rw [if_neg c]
  by_cases c : nmT T p = 4
  · rw [if_pos c]
    by_cases d : (cd C).length = 24
    · rw [if_pos d]; exact bad _ (by decide)
    · rw [if_neg d]; exact eC_to (eN_du hx)
  rw [if_neg c]
  by_cases c : nmT T p = 6
  · rw [if_pos c]; exact eC_to (eN_co hx)
  rw [if_neg c]
  by_cases c : nmT T p = 7
  · rw [if_pos c]; exact eC_to (eN_kk hx)
  rw [if_neg c]
  by_cases c : 8 ≤ nmT T p ∧ nmT T p ≤ 11
  · rw [if_pos c]
    by_cases d : co C (nmT T p - 8).toNat ≠ []
    · rw [if_pos d]; exact bad _ (by decide)
    · rw [if_neg d]; exact eC_ru (hK _) hx
  · rw [if_neg c]; exact bad _ (by decide)
theorem eC_st (hK : ∀ w, okK T.2 (kT w T)) {p : Nat} (h : p ≤ T.2) : eC T.2 (aSt C T p) := by
  have q := eC_st1 (C := C) hK h
  unfold aSt
  cases e : aSt1 C T p with
  | inl x => rw [e] at q; exact q
  | inr x => rw [e] at q; exact eC_to (eN_sg q)
/-- the city that is read -/
def aCk (T : mT2) (y : tC) : Prop := match y with
  | .inl e => (0 ≤ e.1 ∧ e.1 ≤ 9) ∧ 0 ≤ e.2 ∧ e.2 ≤ (T.2 : Int) + 6
  | .inr y => okS y.1 ∧ (0 ≤ cu y.1 ∧ cu y.1 ≤ 70)
theorem aCi_ok (hT : tOk T) (hK : ∀ w, okK T.2 (kT w T)) : ∀ (f : Nat) (C : mCy) (p : Nat), okS C → 0 ≤ cu C ∧ cu C ≤ 70 → p ≤ T.2 → aCk T (aCi T f C p)
  | 0, C, p, h, hu, _ => ⟨h, hu⟩
  | f + 1, C, p, h, hu, hp => by
    unfold aCi
    by_cases c : kdT T p = 3
    · rw [if_pos c]; exact ⟨h, hu⟩
    rw [if_neg c]
    have hp2 : p < T.2 := by
      rcases Nat.lt_or_ge p T.2 with q | q
      · exact q
      · exact absurd (by unfold kdT; rw [if_pos q]) c
    have q := eC_st (C := C) hK hp
    cases e : aSt C T p with
    | inl x => rw [e] at q; exact q
    | inr x =>
      rw [e] at q
      obtain ⟨C', p'⟩ := x
      have a := aSt_ok hT h hp2 e
      have b := aSt_cu e
      exact aCi_ok hT hK f C' p' a.1 ⟨by omega, by omega⟩ q
theorem okM_0 (h : okC C) : okM (cn C) (M0 C) :=
  ⟨⟨Int.le_refl _, by show (0 : Int) ≤ 9999; decide⟩, fun p a b => ⟨by show (-1 : Int) ≤ p; omega, b⟩, fun p q _ _ _ _ e _ => e, fun p a b => ⟨Int.le_refl _, by show (-1 : Int) < _; omega, by show (-1 : Int) ≠ p; omega⟩, h.2.2.2.2.2.2.2.1, h.2.2.2.2.2.2.2.2.1, Nat.zero_le _⟩
end
/-! a city told: one side -/
section
variable {x e m : Nat} {G G' : mG} {i : Nat}
theorem gE.k4 {r : Nat} (h : gE r e G G') (k : is4 G i) : is4 G' i := by
  obtain ⟨a, a1, b1, c1, a2, b2, c2, a3, b3, c3, a4, b4, c4⟩ := k
  exact ⟨by rw [h.1]; exact a, (h.lo _ _ (by decide)).trans a1, h.k7 b1, (h.q _).trans c1, (h.lo _ _ (by decide)).trans a2, h.k7 b2, (h.q _).trans c2, (h.lo _ _ (by decide)).trans a3, h.k7 b3, (h.q _).trans c3, (h.lo _ _ (by decide)).trans a4, h.k7 b4, (h.q _).trans c4⟩
theorem gE.k0 {r : Nat} (h : gE r e G G') (k : is0 G i) : is0 G' i := by
  obtain ⟨a, a1, b1, c1, a2, b2, c2, a3, b3, c3⟩ := k
  exact ⟨by rw [h.1]; exact a, (h.lo _ _ (by decide)).trans a1, h.k7 b1, (h.q _).trans c1, (h.lo _ _ (by decide)).trans a2, h.k7 b2, (h.q _).trans c2, (h.lo _ _ (by decide)).trans a3, h.k7 b3, (h.q _).trans c3⟩
theorem gE.k2 {r : Nat} (h : gE r e G G') (k : is2 G i) : is2 G' i := by
  obtain ⟨a, a1, b1, c1, a2, b2, c2, a3, b3, c3, a4, b4, c4, a5, b5, c5⟩ := k
  exact ⟨by rw [h.1]; exact a, (h.lo _ _ (by decide)).trans a1, h.k7 b1, (h.q _).trans c1, (h.lo _ _ (by decide)).trans a2, h.k7 b2, (h.q _).trans c2, (h.lo _ _ (by decide)).trans a3, h.k7 b3, (h.q _).trans c3, (h.lo _ _ (by decide)).trans a4, h.k7 b4, (h.q _).trans c4, (h.lo _ _ (by decide)).trans a5, h.k7 b5, (h.q _).trans c5⟩
theorem gE.k5 {r : Nat} (h : gE r e G G') (k : is5 G i) : is5 G' i := by
  obtain ⟨a, a1, b1, c1, d1⟩ := k
  exact ⟨by rw [h.1]; exact a, (h.lo _ _ (by decide)).trans a1, by rw [h.1]; exact b1, fun j hj => by rw [h.2.1]; exact c1 j hj, fun j hj => h.k4 (d1 j hj)⟩
theorem gE.k9 {a b : Nat} (h : gE (x + 9) e G G') (k : is9 G x) (h6 : is6 G' (x + 9)) (h10 : G'.2.1 x 10 = .ref a) (ha : is1 G' a) (h11 : G'.2.1 x 11 = .ref b) (hb : is1 G' b) : is9 G' x := by
  have o : ∀ j, j ≤ 9 → G'.2.1 x j = G.2.1 x j := fun j hj => h.2.2 x j (fun q => by omega) (fun q => by omega)
  have e10 : gR G' x 10 = a := by unfold gR; rw [h10]
  have e11 : gR G' x 11 = b := by unfold gR; rw [h11]
  refine ⟨by rw [h.1]; exact k.1, (o _ (by decide)).trans (s9_0r k), h.k7 (s9_0s k), (h.q _).trans (s9_0c k), (o _ (by decide)).trans (s9_1r k), h.k7 (s9_1s k), (h.q _).trans (s9_1c k), (o _ (by decide)).trans (s9_2r k), h.k7 (s9_2s k), (h.q _).trans (s9_2c k), (o _ (by decide)).trans (s9_3r k), h.k7 (s9_3s k), (h.q _).trans (s9_3c k), (o _ (by decide)).trans (s9_4r k), h6, (o _ (by decide)).trans (s9_5r k), h.k2 (s9_5s k), (o _ (by decide)).trans (s9_6r k), h.k0 (s9_6s k), (o _ (by decide)).trans (s9_7r k), h.k5 (s9_7s k), (o _ (by decide)).trans (s9_8r k), h.k4 (s9_8s k), (o _ (by decide)).trans (s9_9r k), h.k4 (s9_9s k), ?_, ?_, ?_, ?_⟩
  · rw [e10]; exact h10
  · rw [e10]; exact ha
  · rw [e11]; exact h11
  · rw [e11]; exact hb
theorem gE.k10 {r : Nat} (h : gE r e G G') (k : is10 G m) (hr : m ≠ r) (hx : m ≠ e) : is10 G' m := by
  have o : ∀ j, G'.2.1 m j = G.2.1 m j := fun j => h.2.2 m j (fun q => hr q.1) (fun q => hx q.1)
  unfold is10 at k ⊢
  rw [h.1]
  simp only [o]
  exact k
theorem frj.to {r : Nat} {S : Nat → Prop} {V V' : mV} (h : frj r S V V') : fr S V (V'.1, V.2.1, V'.2.2) := ⟨rfl, h.2.1, fun i hi => h.2.2 i hi⟩
end
section
variable {G G' : mG} {V V' : mV} {x m N c : Nat} {C : mCy} {Y : mY}
theorem vC_z (hc : is1 G c) (ho : okC C) (h : vC V c C) : zC G V c := by
  obtain ⟨⟨f1, f2, f3, f4⟩, ⟨n1, n2, n3, n4, n5⟩, hT, hD, hU⟩ := h
  have hn := ho.1
  have ht := ho.2.1
  have hl := Nat.le_trans (srt_len (cn C).toNat (cd C)) ho.2.2.1.1
  exact ⟨⟨rw_rz (s1_0c hc) n1.1 hn, rw_rz (s1_1c hc) n2.1 hn, rw_rz (s1_2c hc) n3.1 hn, rw_rz (s1_3c hc) n4.1 hn, rw_rz (s1_5c hc) hT.1.1 ht, rw_rz (s1_6c hc) hT.2.1 ht, rw_rz (s1_7c hc) hD.1.1 ⟨by omega, by omega⟩, rw_rz (s1_8c hc) hD.2.1.1 ⟨by omega, by omega⟩, rw_rz (s1_9c hc) hD.2.2.1 ⟨by omega, by omega⟩⟩,
    ⟨rw_rz (s3_0c (s1_10s hc)) f1.1 ⟨by omega, by have := f1.2.1; omega⟩, rw_rz (s3_0c (s1_11s hc)) f2.1 ⟨by omega, by have := f2.2.1; omega⟩, rw_rz (s3_0c (s1_12s hc)) f3.1 ⟨by omega, by have := f3.2.1; omega⟩, rw_rz (s3_0c (s1_13s hc)) f4.1 ⟨by omega, by have := f4.2.1; omega⟩⟩, f1.2.2.2, f2.2.2.2, f3.2.2.2, f4.2.2.2⟩
theorem cA_z {r : Nat} {T : mT2} {p : Nat} (hG : is6 G r) (h : cA V r T p) : zRd G V r := by
  obtain ⟨cnt, i, ⟨a1, a2, a3, a4, a5⟩, -, hc, -⟩ := h
  have b : (0 : Int) ≤ ((cnt + 1 : Nat) : Int) ∧ ((cnt + 1 : Nat) : Int) ≤ ((1601 : Nat) : Int) := ⟨by omega, by omega⟩
  exact ⟨rw_rz (s6_0c hG) a1.1 b, rw_rz (s6_1c hG) a2.1 b, rw_rz (s6_2c hG) a3.1 b, rw_rz (s6_3c hG) a4.1 b, rw_rz (s6_4c hG) a5.1 b⟩
theorem rs6_z {r : Nat} {T : mT2} {y : (Int × Int) ⊕ Nat} (hG : is6 G r) (h : rs6 V r T y) : zRd G V r := by
  cases y with
  | inl e => obtain ⟨⟨p, hp⟩, -⟩ := h; exact cA_z hG hp
  | inr q => exact cA_z hG h.1
def yCity (Y : mY) : mY := match aCity (yT Y) with
  | .inl e => (refZ (yZ Y) 1, ((yT Y).1, 0), e, yI Y, yS Y, yE Y)
  | .inr y => ((y.1, M0 y.1, [], (yZ Y).2.2.2), ((yT Y).1, 0), (0, -1), yI Y, (0, []), yE Y)
def aCit (Y : mY) : Int := match aCity (yT Y) with
  | .inl _ => -1
  | .inr y => cu y.1
/-- the reader's cells, the tape's row, the spare city alone -/
def sCt (x c : Nat) (i : Nat) : Prop := (x + 9 ≤ i ∧ i ≤ x + 19) ∨ i = x + 1 ∨ (c ≤ i ∧ i ≤ c + 40)
theorem vY_ct {U : mV} {F : Int × Int} {c0 c1 : Nat} (h : vY G V x Y) (e0 : gR G x 10 = c0) (e1 : gR G x 11 = c1) (g0 : gR G' x 10 = c0) (g1 : gR G' x 11 = c1) (hq : ∀ a, qG G' a = qG G a) (k : fr (sCt x c1) V U) (hz : zC G' U c1) (hr : zRd G' U (x + 9)) (hT : rw' U (x + 1) 0 (fun k => (yT Y).1 k.toNat)) (hF : gI U (x + 9) 11 = F.1 ∧ gI U (x + 9) 12 = F.2) :
    vY G' U x (yZ Y, ((yT Y).1, 0), F, yI Y, yS Y, yE Y) := by
  obtain ⟨⟨p1, p2, p3, p4, ⟨s0, p5⟩, p6, p7, p8⟩, ⟨b1, b2⟩, c, d, e, ⟨f1, f2⟩, g, i, ⟨j1, j2, j3, j4⟩⟩ := h
  rw [e0, e1] at b1
  rw [e0] at p1 p2
  have n : ∀ q, x ≤ q → q < x + 245 → ¬ (x + 9 ≤ q ∧ q ≤ x + 19) → q ≠ x + 1 → ¬ sCt x c1 q := by
    intro q q0 q1 q2 q3 z
    unfold sCt at z
    omega
  have kI : ∀ q, ¬ sCt x c1 q → gI U q = gI V q := fun q hq => (k.2.2 q hq).1
  have p8' := p8.fr k (n _ (by omega) (by omega) (by omega) (by omega)) (n _ (by omega) (by omega) (by omega) (by omega))
  refine ⟨⟨by rw [g0]; exact p1, ?_, ?_, ?_, ⟨s0, ?_⟩, ?_, ?_, p8'⟩, ⟨by rw [g0, g1]; exact b1, by rw [g1]; exact hz⟩, hT, hF, ?_, ⟨?_, fun q => ?_⟩, by rw [k.1]; exact g, ?_, ⟨hr, ?_, ?_, ?_⟩⟩
  · rw [g0]; exact p2.fr k (fun j q0 q1 _ => by unfold sCt; omega)
  · exact p3.fr k (fun j q0 q1 => n _ (by omega) (by omega) (by omega) (by omega))
  · exact p4.fr k (n _ (by omega) (by omega) (by omega) (by omega)) (n _ (by omega) (by omega) (by omega) (by omega))
  · exact p5.fr k (fun j q0 q1 => n _ (by omega) (by omega) (by omega) (by omega))
  · rw [kI _ (n _ (by omega) (by omega) (by omega) (by omega))]; exact p6
  · exact p7.fr k (fun j q0 q1 => n _ (by omega) (by omega) (by omega) (by omega))
  · exact e.fr k (n _ (by omega) (by omega) (by omega) (by omega)) (n _ (by omega) (by omega) (by omega) (by omega))
  · exact f1.fr k (n _ (by omega) (by omega) (by omega) (by omega)) (n _ (by omega) (by omega) (by omega) (by omega))
  · rw [kI _ (n _ (by omega) (by omega) (by omega) (by omega))]; exact f2 q
  · show 0 ≤ gI U (x + 43) 1 ∧ gI U (x + 43) 1 ≤ 10
    rw [kI _ (n _ (by omega) (by omega) (by omega) (by omega))]; exact i
  · exact j2.fr k (n _ (by omega) (by omega) (by omega) (by omega)) (n _ (by omega) (by omega) (by omega) (by omega))
  · unfold rz at j3 ⊢
    rw [kI _ (n _ (by omega) (by omega) (by omega) (by omega)), hq]; exact j3
  · rw [kI _ (n _ (by omega) (by omega) (by omega) (by omega))]; exact j4
theorem vY_J {J : Nat → Nat → Int} (h : vY G (V.1, J, V.2.2) x Y) (k : gJ V x 13 = J x 13) : vY G V x Y :=
  ⟨h.1, h.2.1, h.2.2.1, h.2.2.2.1, h.2.2.2.2.1, h.2.2.2.2.2.1, k.trans h.2.2.2.2.2.2.1, h.2.2.2.2.2.2.2.1, h.2.2.2.2.2.2.2.2⟩
theorem c_city {n z : Nat} (hG : is9 G x) (hG10 : is10 G m) (hm : m = x + 327) (h : okA N Y) (hv : vY G V x Y) :
    ∃ G' V', F_X9_city x (n, z, G, V) = some ((n, z, G', V'), aCit Y) ∧ is9 G' x ∧ is10 G' m ∧ (∀ i, m ≤ i → gI V' i = gI V i ∧ gA V' i = gA V i ∧ gJ V' i = gJ V i ∧ gL V' i = gL V i) ∧ vY G' V' x (yCity Y) := by
  have hT := h.1.2.2.1
  obtain ⟨c0, e0⟩ : ∃ c0, gR G x 10 = c0 := ⟨_, rfl⟩
  obtain ⟨c1, e1⟩ : ∃ c1, gR G x 11 = c1 := ⟨_, rfl⟩
  have b := hv.2.1.1
  rw [e0, e1] at b
  have hc0 : is1 G c0 := by rw [← e0]; exact s9_10s hG
  have hc1 : is1 G c1 := by rw [← e1]; exact s9_11s hG
  have r10 : G.2.1 x 10 = .ref c0 := by rw [← e0]; exact s9_10r hG
  have r11 : G.2.1 x 11 = .ref c1 := by rw [← e1]; exact s9_11r hG
  have hvx : vTx V (x + 1) (yT Y) := ⟨hv.2.2.1.1, hT.1, fun j hj => by have := hv.2.2.1.2 (j : Int) (by omega) (by omega); exact this, hT.2⟩
  obtain ⟨V1, g1, k1, a1, b1, d1, -⟩ := p6_start (s9_4s hG) (s9_0s hG) (s9_0c hG) (by omega) hvx hv.2.2.2.2.2.2.2.2.1 hv.2.2.2.2.2.2.2.2.2.1
  obtain ⟨V2, g2, k2, t2⟩ := rw_cut0 (V := V1) (f := fun k => (yT Y).1 k.toNat) (s9_0s hG) (rw_rz (n := ((yT Y).2 : Int)) (s9_0c hG) (by rw [k1.I (by omega)]; exact hv.2.2.1.1) ⟨by omega, by have := hT.1; show ((yT Y).2 : Int) ≤ 1600; omega⟩)
  have z1 : zC G V2 c1 := by
    have := hv.2.1.2
    rw [e1] at this
    exact this.fr (fun i q0 q1 => (k2.2.2 i (by omega)).1.trans (k1.2.2 i (by omega)).1)
  have b2 : gI V2 (x + 9) 11 = 0 := by rw [k2.I (by omega)]; exact b1
  have d2 : gI V2 (x + 9) 12 = -1 := by rw [k2.I (by omega)]; exact d1
  have s2 : rs6 V2 (x + 9) (yT Y) (.inr (bsk (yT Y) 0)) := by
    obtain ⟨cnt, i, w1, w2, w3, w4, w5, w6⟩ := a1
    exact ⟨⟨cnt, i, w1.fr k2 (fun j q0 q1 => by omega), w2, w3, by rw [k2.I (by omega)]; exact w4, w5, w6⟩, b2⟩
  obtain ⟨G3, V3, g3, E3, ⟨h63, hc13⟩, k3, -, O3⟩ := c_readCity (x := x + 10) (n := n) (z := z) (s9_4s hG) hc1 hT (by omega) (by omega) z1 s2
  have I3 : Ik (x + 9) 11 V3 := pk_F_X6_readCity (hW := show Ik (x + 9) 11 (n, z, G, V2).2.2.2 from fun _ => d2) _ _ g3
  have q10 : G3.2.1 x 10 = .ref c0 := by rw [E3.2.2 x 10 (fun q => by omega) (fun q => by omega)]; exact r10
  have q11 : G3.2.1 x 11 = .ref c1 := by rw [E3.2.2 x 11 (fun q => by omega) (fun q => by omega)]; exact r11
  have f0 : gR G3 x 10 = c0 := by unfold gR; rw [q10]
  have f1 : gR G3 x 11 = c1 := by unfold gR; rw [q11]
  have hc03 : is1 G3 c0 := E3.k1 hc0 (by omega) (by omega)
  have hG3 : is9 G3 x := E3.k9 hG h63 q10 hc03 q11 hc13
  have hG103 : is10 G3 m := E3.k10 hG10 (by omega) (by omega)
  have K : fr (sCt x c1) V (V3.1, V.2.1, V3.2.2) := by
    have kk : fr (sCt x c1) V V2 := (k1.mono (fun i q => Or.inl ⟨by omega, by omega⟩)).trans (k2.mono (fun i q => Or.inr (Or.inl q)))
    have k3' : frj (x + 9) (sCt x c1) V2 V3 := k3.mono (fun i q => by unfold sCt; omega)
    have k4 := k3'.to
    refine ⟨rfl, k4.2.1.trans kk.2.1, fun i hi => ⟨(k4.2.2 i hi).1.trans (kk.2.2 i hi).1, (k4.2.2 i hi).2.trans (kk.2.2 i hi).2⟩⟩
  have J3 : ∀ i k, ¬ (i = x + 9 ∧ k = 8) → gJ V3 i k = gJ V i k := fun i k q => by rw [k3.1 i k q, k2.1, k1.1]
  have hi3 : ∀ i, m ≤ i → gI V3 i = gI V i ∧ gA V3 i = gA V i ∧ gJ V3 i = gJ V i ∧ gL V3 i = gL V i := by
    intro i hi
    obtain ⟨y1, y2⟩ := K.2.2 i (by unfold sCt; omega)
    exact ⟨y1, y2, by funext k; exact J3 i k (by omega), congrFun K.2.1 i⟩
  have t3 : rw' V3 (x + 1) 0 (fun k => (yT Y).1 k.toNat) := t2.fr (V1 := (V3.1, V2.2.1, V3.2.2)) k3.to (by omega) (by omega)
  have start : ∀ {r : Option (mW × Int)}, (gd (rg (gI V3 (x + 9) 11)) <| if (gI V3 (x + 9) 11) = 0 then (lt (sR G3 x 11 (.ref (gR G3 x 10))) fun G14 =>
  gd (is9 G14 x ∧ is1 G14 (gR G3 x 11)) <|
  lt (sR G14 x 10 (.ref (gR G3 x 11))) fun G17 =>
  gd (is9 G17 x ∧ is1 G17 (gR G3 x 11)) <|
  bd (F_X4_begin G17 (x + 227) (gR G17 x 10) V3) fun V20 v21 =>
  bd (F_X5_clear G17 (x + 45) V20) fun V23 v24 =>
  bd (F_X7_cut G17 (x + 7) 0 V23) fun V26 v27 =>
  lt (sI V26 x 12 (-1)) fun V29 =>
  some ((n, z, G17, V29), gI V29 (gR G17 x 10) 14)) else (bd (F_X9_refuse G3 x 1 V3) fun V30 v31 =>
  some ((n, z, G3, V30), v31))) = r → F_X9_city x (n, z, G, V) = r := by
    intro r hr
    unfold F_X9_city
    refine E_gd hG (E_bd g1 (E_bd g2 ?_))
    rw [e1]
    exact E_bd g3 (E_gd hG3 hr)
  unfold oC at O3
  unfold yCity aCit
  cases hA : aCity (yT Y) with
  | inl e =>
    rw [hA] at O3
    obtain ⟨s3, zz⟩ := O3
    obtain ⟨hp, w1, w2, w3, w4⟩ := s3
    have v3 : vY G3 V3 x (yZ Y, ((yT Y).1, 0), e, yI Y, yS Y, yE Y) := vY_J (vY_ct (U := (V3.1, V.2.1, V3.2.2)) hv e0 e1 f0 f1 E3.q K zz (by obtain ⟨p, hp⟩ := hp; exact cA_z h63 hp) t3 ⟨w1, w2⟩) (J3 x 13 (by omega))
    have R := CL_ref (Y := (yZ Y, ((yT Y).1, 0), e, yI Y, yS Y, yE Y)) (k := 1) (a := -1) (f := fun U => F_X9_refuse G3 x 1 U) hG3 hm ⟨by decide, by decide⟩ (fun U U1 _ e => e)
    obtain ⟨V4, e4, k4, v4⟩ := R V3 v3
    refine ⟨G3, V4, start (E_gd (by rw [w1]; exact w3) (E_if (fun q => absurd (w1 ▸ q) w4) (fun _ => E_bd e4 rfl))), hG3, hG103, fun i hi => ?_, v4⟩
    obtain ⟨y1, y2, y3, y4⟩ := k4 i hi
    obtain ⟨u1, u2, u3, u4⟩ := hi3 i hi
    exact ⟨y1.trans u1, y2.trans u2, y3.trans u3, y4.trans u4⟩
  | inr y =>
    rw [hA] at O3
    obtain ⟨⟨s3, w1⟩, hb⟩ := O3
    have w2 : gI V3 (x + 9) 12 = -1 := I3 w1
    obtain ⟨G4, hG4⟩ : ∃ G4, G4 = sR G3 x 11 (.ref c0) := ⟨_, rfl⟩
    obtain ⟨G5, hG5⟩ : ∃ G5, G5 = sR G4 x 10 (.ref c1) := ⟨_, rfl⟩
    have sE : ∀ {H : mG} {j c : Nat}, j = 10 ∨ j = 11 → gE (x + 9) x H (sR H x j (.ref c)) := by
      intro H j c hj
      refine ⟨rfl, rfl, fun i k a d => ?_⟩
      show u2 H.2.1 x j (.ref c) i k = _
      unfold u2
      rw [if_neg (by rintro ⟨q1, q2⟩; exact d ⟨q1, by omega⟩)]
    have E4 : gE (x + 9) x G3 G4 := by rw [hG4]; exact sE (Or.inr rfl)
    have E5 : gE (x + 9) x G4 G5 := by rw [hG5]; exact sE (Or.inl rfl)
    have u10 : G4.2.1 x 10 = .ref c0 := by
      rw [hG4]
      show u2 G3.2.1 x 11 (.ref c0) x 10 = _
      unfold u2
      rw [if_neg (by omega)]; exact q10
    have u11 : G4.2.1 x 11 = .ref c0 := by
      rw [hG4]
      show u2 G3.2.1 x 11 (.ref c0) x 11 = _
      unfold u2
      rw [if_pos ⟨rfl, rfl⟩]
    have x10 : G5.2.1 x 10 = .ref c1 := by
      rw [hG5]
      show u2 G4.2.1 x 10 (.ref c1) x 10 = _
      unfold u2
      rw [if_pos ⟨rfl, rfl⟩]
    have x11 : G5.2.1 x 11 = .ref c0 := by
      rw [hG5]
      show u2 G4.2.1 x 10 (.ref c1) x 11 = _
      unfold u2
      rw [if_neg (by omega)]; exact u11
    have k6 : ∀ {A B : mG}, gE (x + 9) x A B → B.2.1 (x + 9) 7 = A.2.1 (x + 9) 7 → is6 A (x + 9) → is6 B (x + 9) := fun hE h7 hA => hE.k6 hA (by omega) (h7.trans (s6_7r hA)) (s6_7s hA)
    have h64 : is6 G4 (x + 9) := k6 E4 (by rw [hG4]; show u2 G3.2.1 x 11 (.ref c0) (x + 9) 7 = _; unfold u2; rw [if_neg (by omega)]) h63
    have h65 : is6 G5 (x + 9) := k6 E5 (by rw [hG5]; show u2 G4.2.1 x 10 (.ref c1) (x + 9) 7 = _; unfold u2; rw [if_neg (by omega)]) h64
    have c04 : is1 G4 c0 := E4.k1 hc03 (by omega) (by omega)
    have c14 : is1 G4 c1 := E4.k1 hc13 (by omega) (by omega)
    have c05 : is1 G5 c0 := E5.k1 c04 (by omega) (by omega)
    have c15 : is1 G5 c1 := E5.k1 c14 (by omega) (by omega)
    have hG94 : is9 G4 x := E4.k9 hG3 h64 u10 c04 u11 c04
    have hG95 : is9 G5 x := E5.k9 hG94 h65 x10 c15 x11 c05
    have hG105 : is10 G5 m := E5.k10 (E4.k10 hG103 (by omega) (by omega)) (by omega) (by omega)
    have f10 : gR G5 x 10 = c1 := by unfold gR; rw [x10]
    have f11 : gR G5 x 11 = c0 := by unfold gR; rw [x11]
    have v3 : vY G3 V3 x (yZ Y, ((yT Y).1, 0), (0, -1), yI Y, yS Y, yE Y) := vY_J (vY_ct (U := (V3.1, V.2.1, V3.2.2)) hv e0 e1 f0 f1 E3.q K (hb.z hc13) (cA_z h63 s3) t3 ⟨w1, w2⟩) (J3 x 13 (by omega))
    have ho := hb.1
    obtain ⟨V4, g4, k4, m4⟩ := m_begin (V := V3) (mo := x + 227) (s9_8s hG95) c15 (Or.inl (by omega)) ho hb.2.2.1
    obtain ⟨V5, hV5⟩ : ∃ V5, V5 = sI V4 (x + 45) 1 0 := ⟨_, rfl⟩
    have k5 : fr (fun i => i = x + 45) V4 V5 := by rw [hV5]; exact fr_sI rfl
    have k45 : fr (fun i => (x + 227 ≤ i ∧ i ≤ x + 235) ∨ i = x + 45) V3 V5 := (k4.mono (fun i q => Or.inl ⟨by omega, by omega⟩)).trans (k5.mono (fun i q => Or.inr q))
    have qq : ∀ a, qG G5 a = qG G3 a := fun a => by rw [E5.q, E4.q]
    have rS : rz G5 V5 (x + 7) := by
      refine rw_rz (s9_3c hG95) (n := ((yS Y).2.length : Int)) ?_ ⟨by omega, by have := h.1.2.2.2.2.2.1.1; show (((yS Y).2.length : Nat) : Int) ≤ 60; omega⟩
      rw [k45.I (by omega)]
      exact v3.2.2.2.2.2.1.1.1
    obtain ⟨V6, g6, k6', s6⟩ := rw_cut0 (f := fun k => ([] : List Int).getD k.toNat 0) (s9_3s hG95) rS
    obtain ⟨V7, hV7⟩ : ∃ V7, V7 = sI V6 x 12 (-1) := ⟨_, rfl⟩
    have k7 : fr (fun i => i = x) V6 V7 := by rw [hV7]; exact fr_sI rfl
    have k57 : fr (fun i => i = x + 7 ∨ i = x) V5 V7 := (k6'.mono (fun i q => Or.inl q)).trans (k7.mono (fun i q => Or.inr q))
    have k37 : fr (fun i => (x + 227 ≤ i ∧ i ≤ x + 235) ∨ i = x + 45 ∨ i = x + 7 ∨ i = x) V3 V7 := (k45.mono (fun i q => by omega)).trans (k57.mono (fun i q => by omega))
    have cu7 : gI V7 c1 14 = cu y.1 := by rw [k37.I (by omega)]; exact hb.2.2.1.2.2.2.2
    refine ⟨G5, V7, start (E_gd (by rw [w1]; exact ⟨by decide, by decide⟩) (E_if (fun _ => ?_) (fun q => absurd w1 q))), hG95, hG105, fun i hi => ?_, ?_⟩
    · rw [f0, f1]
      refine E_lt ?_
      rw [← hG4]
      refine E_gd ⟨hG94, c14⟩ (E_lt ?_)
      rw [← hG5]
      refine E_gd ⟨hG95, c15⟩ ?_
      rw [f10]
      refine E_bd g4 (E_bd (show F_X5_clear G5 (x + 45) V4 = some (V5, 0) by rw [hV5]; rfl) (E_bd g6 (E_lt ?_)))
      rw [← hV7]
      exact E_so rfl cu7
    · obtain ⟨y1, y2⟩ := k37.2.2 i (by omega)
      obtain ⟨u1, u2, u3, u4⟩ := hi3 i hi
      exact ⟨y1.trans u1, y2.trans u2, by rw [k37.1]; exact u3, by rw [k37.2.1]; exact u4⟩
    · obtain ⟨⟨p1, p2, p3, p4, ⟨s0, p5⟩, p6, p7, p8⟩, ⟨bb1, bb2⟩, c, d, e, ⟨ff1, ff2⟩, g, i, ⟨j1, j2, j3, j4⟩⟩ := v3
      rw [f0] at p1 p2
      have rzg : ∀ {a : Nat}, rz G3 V3 a → ¬ ((x + 227 ≤ a ∧ a ≤ x + 235) ∨ a = x + 45 ∨ a = x + 7 ∨ a = x) → rz G5 V7 a := by
        intro a ha hn
        unfold rz at ha ⊢
        rw [k37.I hn, qq]; exact ha
      refine ⟨⟨by rw [f10]; omega, ?_, ?_, p4.fr k37 (by omega) (by omega), ⟨s0, p5.fr k37 (fun j q0 q1 => by omega)⟩, ?_, ⟨?_, Nat.zero_le _, ?_, fun i hi => by have hi' : i < 0 := hi; omega⟩, p8.fr k37 (by omega) (by omega)⟩, ⟨by rw [f10, f11]; omega, ?_⟩, c.fr k37 (by omega) (by omega), ⟨?_, ?_⟩, e.fr k37 (by omega) (by omega), ⟨s6.fr k7 (by omega) (by omega), fun q => absurd rfl q⟩, by rw [k37.1]; exact g, ?_, ⟨?_, j2.fr k37 (by omega) (by omega), rzg j3 (by omega), by rw [k37.I (by omega)]; exact j4⟩⟩
      · rw [f10]; exact hb.2.2.1.fr k37 (fun j q0 q1 _ => by omega)
      · have m7 := (m4.fr k5 (fun j q0 q1 => by omega)).fr k57 (fun j q0 q1 => by omega)
        exact m7.more (Int.le_refl _)
      · rw [k37.I (by omega)]; exact p6
      · rw [k57.I (by omega), hV5, gI_sI, if_pos ⟨rfl, rfl⟩]; rfl
      · rw [k57.I (by omega), hV5, gI_sI, if_neg (by omega), k4.I (by omega)]; exact p7.2.2.1
      · rw [f11]
        exact (vC_z c05 h.1.1.1 (p2.fr k37 (fun j q0 q1 _ => by omega)))
      · rw [k37.I (by omega)]; exact d.1
      · rw [k37.I (by omega)]; exact d.2
      · show 0 ≤ gI V7 (x + 43) 1 ∧ gI V7 (x + 43) 1 ≤ 10
        rw [k37.I (by omega)]; exact i
      · obtain ⟨z1, z2, z3, z4, z5⟩ := j1
        exact ⟨rzg z1 (by omega), rzg z2 (by omega), rzg z3 (by omega), rzg z4 (by omega), rzg z5 (by omega)⟩
theorem okA_city (h : okA N Y) : okA (N + 1) (yCity Y) ∧ rg (aCit Y) := by
  have hT := h.1.2.2.1
  have hT1 := hT.1
  have k := aCi_ok hT (fun w => okK_T) 71 C00 (bsk (yT Y) 0) okS_00 ⟨Int.le_refl _, by decide⟩ (bsk_spec (Nat.zero_le _)).2.1
  have t0 : tOk ((yT Y).1, 0) := ⟨Nat.zero_le _, fun j hj => by have hj' : j < 0 := hj; omega⟩
  unfold yCity aCit
  have k' : aCk (yT Y) (aCity (yT Y)) := k
  cases hA : aCity (yT Y) with
  | inl e =>
    rw [hA] at k'
    obtain ⟨⟨k1, k2⟩, k3, k4⟩ := (show (0 ≤ e.1 ∧ e.1 ≤ 9) ∧ 0 ≤ e.2 ∧ e.2 ≤ ((yT Y).2 : Int) + 6 from k')
    obtain ⟨⟨a1, a2, a3, a4, a5, a6, a7⟩, b, c, d⟩ := okA_ref (k := 1) h
    exact ⟨⟨⟨a1, a2, t0, ⟨⟨by show _ ≤ e.1; omega, by show e.1 ≤ _; omega⟩, ⟨by show _ ≤ e.2; omega, by show e.2 ≤ _; omega⟩⟩, a5, a6, a7⟩, b, c, d⟩, (⟨by decide, by decide⟩ : rg (-1))⟩
  | inr y =>
    rw [hA] at k'
    obtain ⟨⟨a1, a2, a3, a4, a5, a6, a7⟩, b, c, d⟩ := okA_s h
    exact ⟨⟨⟨⟨k'.1.1, okM_0 k'.1.1, fun Q hQ => absurd hQ (List.not_mem_nil)⟩, k'.1, t0, ⟨(⟨by decide, by decide⟩ : rg 0), (⟨by decide, by decide⟩ : rg (-1))⟩, a5, ⟨Nat.zero_le _, rfl, fun q => absurd rfl q, fun i hi => by have hi' : 3 * i + 2 < 0 := hi; omega⟩, a7⟩, ⟨fun e he => absurd he (List.not_mem_nil), fun Q hQ => absurd hQ (List.not_mem_nil)⟩, c, Nat.zero_le _⟩, by have := k'.2; exact ⟨by show _ ≤ cu y.1; omega, by show cu y.1 ≤ _; omega⟩⟩
end

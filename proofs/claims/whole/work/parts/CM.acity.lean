/-! a city read: what it may be -/
def eB (n : Nat) (y : tR) : Prop := match y with
  | .inl e => 0 ≤ e.2 ∧ e.2 ≤ (n : Int) + 6
  | .inr x => x.2 ≤ n
def eN (n : Nat) (y : (Int × Int) ⊕ Nat) : Prop := match y with
  | .inl e => 0 ≤ e.2 ∧ e.2 ≤ (n : Int) + 6
  | .inr x => x ≤ n
def eC (n : Nat) (y : tC) : Prop := match y with
  | .inl e => 0 ≤ e.2 ∧ e.2 ≤ (n : Int) + 6
  | .inr x => x.2 ≤ n
section
variable {n : Nat} {K : mK}
theorem eB_seq {a : tR} {f : List Int → Nat → tR} (ha : eB n a) (hf : ∀ c q, q ≤ n → eB n (f c q)) : eB n (seqR a f) := by
  cases a with
  | inl e => exact ha
  | inr x => exact hf x.1 x.2 ha
theorem eB_e {k w : Int} (h : 0 ≤ w ∧ w ≤ (n : Int) + 6) : eB n (.inl (k, w)) := h
theorem eB_lo {P : Nat → tR} {cd : Nat → Int} (hK : okK n K) (hcd : ∀ p, cd p ≠ 0 → kcl K p ≠ 0) (hP : ∀ p, p ≤ n → eB n (P p)) : ∀ (k : Nat) (c : List Int) (p : Nat), p ≤ n → eB n (loR P cd K k c p)
  | 0, _, _, h => h
  | k + 1, c, p, h => by
    unfold loR
    by_cases e : cd p = 0
    · rw [if_pos e]; exact h
    · rw [if_neg e]
      exact eB_seq (hP _ (hK p (hcd p e)).2.2) (fun c2 q hq => eB_lo hK hcd hP k _ q hq)
theorem eB_rd (hK : okK n K) : ∀ (f w o p : Nat), p ≤ n → eB n (rd K f w o p)
  | 0, _, _, _, _ => eB_e ⟨Int.le_refl _, by omega⟩
  | f + 1, w, o, p, h => by
    have ih := eB_rd hK f
    have kn : ∀ {q k : Nat}, kcl K q = k → k ≠ 0 → knx K q ≤ n := fun {q k} e hk => (hK q (by omega)).2.2
    unfold rd
    by_cases w0 : w = 0
    · rw [if_pos w0]; exact eB_seq (ih _ _ _ h) (fun c q hq => eB_lo hK (fun p => orc_ne) (fun p hp => ih _ _ _ hp) _ _ _ hq)
    rw [if_neg w0]
    by_cases w1 : w = 1
    · rw [if_pos w1]; exact eB_seq (ih _ _ _ h) (fun c q hq => eB_lo hK (fun p => andc_ne) (fun p hp => ih _ _ _ hp) _ _ _ hq)
    rw [if_neg w1]
    by_cases w2 : w = 2
    · rw [if_pos w2]
      unfold rdF
      by_cases c1 : kcl K p = 18
      · rw [if_pos c1]
        by_cases o6 : 6 ≤ o
        · rw [if_pos o6]; exact eB_e ⟨by omega, by omega⟩
        · rw [if_neg o6]; exact eB_seq (ih _ _ _ (kn c1 (by decide))) (fun c q hq => hq)
      rw [if_neg c1]
      by_cases c2 : kcl K p = 16
      · rw [if_pos c2]
        by_cases o6 : 6 ≤ o
        · rw [if_pos o6]; exact eB_e ⟨by omega, by omega⟩
        · rw [if_neg o6]
          refine eB_seq (ih _ _ _ (kn c2 (by decide))) (fun c q hq => ?_)
          by_cases c3 : kcl K q = 17
          · rw [if_pos c3]; exact kn c3 (by decide)
          · rw [if_neg c3]; exact eB_e ⟨by omega, by omega⟩
      rw [if_neg c2]
      by_cases c4 : kcl K p = 19
      · rw [if_pos c4]; exact kn c4 (by decide)
      rw [if_neg c4]
      refine eB_seq (ih _ _ _ h) (fun c q hq => ?_)
      by_cases c5 : cmpc K q = 0
      · rw [if_pos c5]; exact eB_e ⟨by omega, by omega⟩
      · rw [if_neg c5]; exact eB_seq (ih _ _ _ (hK q (cmpc_ne c5)).2.2) (fun c2 q2 h2 => h2)
    rw [if_neg w2]
    by_cases w3 : w = 3
    · rw [if_pos w3]; exact eB_seq (ih _ _ _ h) (fun c q hq => eB_lo hK (fun p => addc_ne) (fun p hp => ih _ _ _ hp) _ _ _ hq)
    rw [if_neg w3]
    by_cases w4 : w = 4
    · rw [if_pos w4]; exact eB_seq (ih _ _ _ h) (fun c q hq => eB_lo hK (fun p => mulc_ne) (fun p hp => ih _ _ _ hp) _ _ _ hq)
    rw [if_neg w4]
    unfold rdP
    by_cases c1 : kcl K p = 1
    · rw [if_pos c1]
      by_cases l4 : 4 < kln K p
      · rw [if_pos l4]; exact eB_e ⟨by omega, by omega⟩
      · rw [if_neg l4]; exact kn c1 (by decide)
    rw [if_neg c1]
    by_cases c2 : kcl K p = 2
    · rw [if_pos c2]
      by_cases o6 : 6 ≤ o
      · rw [if_pos o6]; exact eB_e ⟨by omega, by omega⟩
      · rw [if_neg o6]
        refine eB_seq (ih _ _ _ (kn c2 (by decide))) (fun c q hq => ?_)
        by_cases c3 : kcl K q = 7
        · rw [if_pos c3]; exact kn c3 (by decide)
        · rw [if_neg c3]; exact eB_e ⟨by omega, by omega⟩
    rw [if_neg c2]
    by_cases c34 : kcl K p = 3 ∨ kcl K p = 4
    · rw [if_pos c34]
      have k1 : knx K p ≤ n := (hK p (by omega)).2.2
      unfold rdM
      by_cases c3 : kcl K (knx K p) ≠ 2
      · rw [if_pos c3]; exact eB_e ⟨by omega, by omega⟩
      rw [if_neg c3]
      by_cases o6 : 6 ≤ o
      · rw [if_pos o6]; exact eB_e ⟨by omega, by omega⟩
      rw [if_neg o6]
      refine eB_seq (ih _ _ _ (kn (Decidable.not_not.mp c3) (by decide))) (fun c q hq => ?_)
      by_cases c8 : kcl K q ≠ 8
      · rw [if_pos c8]; exact eB_e ⟨by omega, by omega⟩
      rw [if_neg c8]
      refine eB_seq (ih _ _ _ (kn (Decidable.not_not.mp c8) (by decide))) (fun c2 q2 hq2 => ?_)
      by_cases c7 : kcl K q2 ≠ 7
      · rw [if_pos c7]; exact eB_e ⟨by omega, by omega⟩
      · rw [if_neg c7]; exact kn (Decidable.not_not.mp c7) (by decide)
    rw [if_neg c34]
    by_cases c5 : kcl K p = 5
    · rw [if_pos c5]
      by_cases o6 : 6 ≤ o
      · rw [if_pos o6]; exact eB_e ⟨by omega, by omega⟩
      · rw [if_neg o6]; exact eB_seq (ih _ _ _ (kn c5 (by decide))) (fun c q hq => hq)
    rw [if_neg c5]
    by_cases c6 : kcl K p = 6
    · rw [if_pos c6]; exact kn c6 (by decide)
    · rw [if_neg c6]; exact eB_e ⟨by omega, by omega⟩
end
section
variable {T : mT2} {C : mCy}
theorem nx_le1 {p : Nat} (h : p ≤ T.2) : nxT T p ≤ T.2 := (bsk_spec (te_le h).2).2.1
theorem eN_e {k w : Int} {n : Nat} (h : 0 ≤ w ∧ w ≤ (n : Int) + 6) : eN n (.inl (k, w)) := h
theorem eN_thn {n : Nat} {a : (Int × Int) ⊕ Nat} {f : Nat → (Int × Int) ⊕ Nat} (ha : eN n a) (hf : ∀ q, q ≤ n → eN n (f q)) : eN n (thn a f) := by
  cases a with
  | inl e => exact ha
  | inr x => exact hf x ha
theorem eN_sg {s : Int} {p : Nat} (h : p ≤ T.2) : eN T.2 (nSg T s p) := by
  unfold nSg
  by_cases c : kdT T p = 2 ∧ T.1 p = s
  · rw [if_pos c]; exact nx_le1 h
  · rw [if_neg c]; exact eN_e ⟨by omega, by omega⟩
theorem eN_wd {s : Int} {p : Nat} (h : p ≤ T.2) : eN T.2 (nWd T s p) := by
  unfold nWd
  by_cases c : nmT T p = s
  · rw [if_pos c]; exact nx_le1 h
  · rw [if_neg c]; exact eN_e ⟨by omega, by omega⟩
theorem eN_nu {s : Int} {p : Nat} (h : p ≤ T.2) : eN T.2 (nNu T s p) := by
  unfold nNu
  by_cases c : kdT T p ≠ 1
  · rw [if_pos c]; exact eN_e ⟨by omega, by omega⟩
  rw [if_neg c]
  by_cases c : 4 < lnT T p
  · rw [if_pos c]; exact eN_e ⟨by omega, by omega⟩
  rw [if_neg c]
  by_cases c : s < vlT T p
  · rw [if_pos c]; exact eN_e ⟨by omega, by omega⟩
  · rw [if_neg c]; exact nx_le1 h
theorem eN_na {p : Nat} (h : p ≤ T.2) : eN T.2 (nNa T p) := by
  unfold nNa
  by_cases c : kdT T p = 0 ∧ (nmT T p = -1 ∨ 24 ≤ nmT T p)
  · rw [if_pos c]
    by_cases l : lnT T p ≤ 6
    · rw [if_pos l]; exact nx_le1 h
    · rw [if_neg l]; exact eN_e ⟨by omega, by omega⟩
  · rw [if_neg c]; exact eN_e ⟨by omega, by omega⟩
theorem eN_kn {f : Int → List Int} {n : Int} {p : Nat} (h : p ≤ T.2) : eN T.2 (nKn f n T p) := by
  have q := eN_na h
  unfold nKn
  cases e : nNa T p with
  | inl x => rw [e] at q; exact q
  | inr x =>
    rw [e] at q
    show eN T.2 (if _ then _ else _)
    by_cases c : fl f (ltr T p (lnT T p)) 0 n.toNat = -1
    · rw [if_pos c]; exact eN_e ⟨by omega, by omega⟩
    · rw [if_neg c]; exact q
theorem eN_nw {p : Nat} (h : p ≤ T.2) : eN T.2 (nNw C T p) := by
  have q := eN_na h
  unfold nNw
  cases e : nNa T p with
  | inl x => rw [e] at q; exact q
  | inr x =>
    rw [e] at q
    show eN T.2 (if _ then _ else _)
    by_cases c : fl (cp C) (ltr T p (lnT T p)) 0 (cn C).toNat = -1 ∧ fl (cq C) (ltr T p (lnT T p)) 0 (ct C).toNat = -1
    · rw [if_pos c]; exact q
    · rw [if_neg c]; exact eN_e ⟨by omega, by omega⟩
theorem eN_gv {w mx : Int} {p : Nat} (h : p ≤ T.2) : eN T.2 (aGv C T w mx p) := eN_thn (eN_thn (eN_nw h) (fun _ => eN_wd)) (fun _ => eN_nu)
theorem eN_du {p : Nat} (h : p ≤ T.2) : eN T.2 (aDu C T p) := by
  refine eN_thn (eN_thn (eN_thn (eN_thn (eN_kn h) (fun _ => eN_kn)) (fun _ => eN_wd)) (fun _ => eN_nu)) (fun q hq => ?_)
  have := nx_le1 (nx_le1 (nx_le1 h))
  by_cases c : aDuD C T p ∈ cd C
  · rw [if_pos c]; exact eN_e ⟨by omega, by omega⟩
  · rw [if_neg c]; exact hq
theorem eN_co {p : Nat} (h : p ≤ T.2) : eN T.2 (aCo C T p) := by
  have := nx_le1 h
  refine eN_thn (eN_thn (eN_thn (eN_kn h) (fun q hq => ?_)) (fun _ => eN_kn)) (fun q hq => ?_)
  · by_cases c : cc C (aPi C T p) = -1
    · rw [if_pos c]; exact hq
    · rw [if_neg c]; exact eN_e ⟨by omega, by omega⟩
  · by_cases c : aPi C T (nxT T p) ≠ aPi C T p ∧ cb C (aPi C T (nxT T p)) = -1
    · rw [if_pos c]; exact hq
    · rw [if_neg c]; exact eN_e ⟨by omega, by omega⟩
theorem eN_kk {p : Nat} (h : p ≤ T.2) : eN T.2 (aKn C T p) := by
  have := nx_le1 h
  refine eN_thn (eN_thn (eN_thn (eN_kn h) (fun _ => eN_kn)) (fun q hq => ?_)) (fun _ => eN_nu)
  by_cases c : aPi C T (nxT T p) = aPi C T p
  · rw [if_pos c]; exact eN_e ⟨by omega, by omega⟩
  · rw [if_neg c]; exact hq
theorem eC_to {n : Nat} {x : (Int × Int) ⊕ Nat} (h : eN n x) : eC n (toC x C) := by cases x <;> exact h
theorem eC_e {k w : Int} {n : Nat} (h : 0 ≤ w ∧ w ≤ (n : Int) + 6) : eC n (.inl (k, w)) := h
theorem eC_ru {w p : Nat} (hK : okK T.2 (kT (w - 1) T)) (h : p ≤ T.2) : eC T.2 (aRu C T w p) := by
  have q := eB_rd hK 64 (if w ≤ 1 then 3 else 0) 0 p h
  unfold aRu
  cases e : rd (kT (w - 1) T) 64 (if w ≤ 1 then 3 else 0) 0 p with
  | inl x => rw [e] at q; exact q
  | inr x => rw [e] at q; exact q
theorem eC_st1 (hK : ∀ w, okK T.2 (kT w T)) {p : Nat} (h : p ≤ T.2) : eC T.2 (aSt1 C T p) := by
  have hx := nx_le1 h
  have bad : ∀ k, eC T.2 (.inl (k, (p : Int))) := fun k => eC_e ⟨by omega, by omega⟩
  unfold aSt1
  by_cases c : cu C = 70
  · rw [if_pos c]; exact bad _
  rw [if_neg c]
  by_cases c : nmT T p = 0
  · rw [if_pos c]
    by_cases d : cn C = 10
    · rw [if_pos d]; exact bad _
    · rw [if_neg d]; exact eC_to (eN_gv hx)
  rw [if_neg c]
  by_cases c : nmT T p = 2
  · rw [if_pos c]
    by_cases d : ct C = 8
    · rw [if_pos d]; exact bad _
    · rw [if_neg d]; exact eC_to (eN_gv hx)
  rw [if_neg c]
  by_cases c : nmT T p = 4
  · rw [if_pos c]
    by_cases d : (cd C).length = 24
    · rw [if_pos d]; exact bad _
    · rw [if_neg d]; exact eC_to (eN_du hx)
  rw [if_neg c]
  by_cases c : nmT T p = 6
  · rw [if_pos c]; exact eC_to (eN_co hx)
  rw [if_neg c]
  by_cases c : nmT T p = 7
  · rw [if_pos c]; exact eC_to (eN_kk hx)
  rw [if_neg c]
  by_cases c : 8 ≤ nmT T p ∧ nmT T p ≤ 11
  · rw [if_pos c]
    by_cases d : co C (nmT T p - 8).toNat ≠ []
    · rw [if_pos d]; exact bad _
    · rw [if_neg d]; exact eC_ru (hK _) hx
  · rw [if_neg c]; exact bad _
theorem eC_st (hK : ∀ w, okK T.2 (kT w T)) {p : Nat} (h : p ≤ T.2) : eC T.2 (aSt C T p) := by
  have q := eC_st1 (C := C) hK h
  unfold aSt
  cases e : aSt1 C T p with
  | inl x => rw [e] at q; exact q
  | inr x => rw [e] at q; exact eC_to (eN_sg q)
/-- the city that is read -/
def aCk (T : mT2) (y : tC) : Prop := match y with
  | .inl e => 0 ≤ e.2 ∧ e.2 ≤ (T.2 : Int) + 6
  | .inr y => okS y.1 ∧ (0 ≤ cu y.1 ∧ cu y.1 ≤ 70)
theorem aCi_ok (hT : tOk T) (hK : ∀ w, okK T.2 (kT w T)) : ∀ (f : Nat) (C : mCy) (p : Nat), okS C → 0 ≤ cu C ∧ cu C ≤ 70 → p ≤ T.2 → aCk T (aCi T f C p)
  | 0, C, p, h, hu, _ => ⟨h, hu⟩
  | f + 1, C, p, h, hu, hp => by
    unfold aCi
    by_cases c : kdT T p = 3
    · rw [if_pos c]; exact ⟨h, hu⟩
    rw [if_neg c]
    have hp2 : p < T.2 := by
      rcases Nat.lt_or_ge p T.2 with q | q
      · exact q
      · exact absurd (by unfold kdT; rw [if_pos q]) c
    have q := eC_st (C := C) hK hp
    cases e : aSt C T p with
    | inl x => rw [e] at q; exact q
    | inr x =>
      rw [e] at q
      obtain ⟨C', p'⟩ := x
      have a := aSt_ok hT h hp2 e
      have b := aSt_cu e
      exact aCi_ok hT hK f C' p' a.1 ⟨by omega, by omega⟩ q
theorem okM_0 (h : okC C) : okM (cn C) (M0 C) :=
  ⟨⟨Int.le_refl _, by show (0 : Int) ≤ 9999; decide⟩, fun p a b => ⟨by show (-1 : Int) ≤ p; omega, b⟩, fun p q _ _ _ _ e _ => e, fun p a b => ⟨Int.le_refl _, by show (-1 : Int) < _; omega, by show (-1 : Int) ≠ p; omega⟩, h.2.2.2.2.2.2.2.1, h.2.2.2.2.2.2.2.2.1, Nat.zero_le _⟩
end

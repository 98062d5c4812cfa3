/-! a moment's picture; keep, points, home -/
theorem gD_l {α : Type} (a b : List α) (d : α) (i : Nat) (h : i < a.length) : (a ++ b).getD i d = a.getD i d := by
  rw [List.getD_eq_getElem?_getD, List.getD_eq_getElem?_getD, List.getElem?_append_left h]
theorem gD_r {α : Type} (a b : List α) (d : α) (i : Nat) (h : a.length ≤ i) : (a ++ b).getD i d = b.getD (i - a.length) d := by
  rw [List.getD_eq_getElem?_getD, List.getD_eq_getElem?_getD, List.getElem?_append_right h]
def e0 : Int × Int × Int × Int := (0, 0, 0, 0)
/-- what is kept, in the class's ring: K ever -/
def vK (V : mV) (mo : Nat) (K : Int) (l : List (Int × Int × Int × Int)) : Prop := gI V (mo + 7) 1 = 160 ∧ (l.length : Int) = min K 40 ∧ ∀ i : Nat, i < l.length → rc V (mo + 7) ((K - l.length + i) % 40 * 4) = (l.getD i e0).1 ∧ rc V (mo + 7) ((K - l.length + i) % 40 * 4 + 1) = (l.getD i e0).2.1 ∧ rc V (mo + 7) ((K - l.length + i) % 40 * 4 + 2) = (l.getD i e0).2.2.1 ∧ rc V (mo + 7) ((K - l.length + i) % 40 * 4 + 3) = (l.getD i e0).2.2.2
def vP (V : mV) (r : Nat) (n : Int) (g : Int → Int → Int) : Prop := gI V r 1 = 100 ∧ ∀ a b, 0 ≤ a → a < n → 0 ≤ b → b < n → rc V r (a * 10 + b) = g a b
def vM (V : mV) (mo : Nat) (n : Int) (M : mMo) (B : Int) : Prop := gI V mo 0 = mh M ∧ rw' V (mo + 1) n (ml M) ∧ rw' V (mo + 3) n (mw M) ∧ vP V (mo + 5) n (mp M) ∧ (0 ≤ gI V mo 5 ∧ gI V mo 5 ≤ B) ∧ vK V mo (gI V mo 5) (me M)
def okM (n : Int) (M : mMo) : Prop := (0 ≤ mh M ∧ mh M ≤ 9999) ∧ (∀ p, 0 ≤ p → p < n → -1 ≤ ml M p ∧ ml M p < n) ∧ (∀ p q, 0 ≤ p → p < n → 0 ≤ q → q < n → ml M p = ml M q → ml M p ≠ -1 → p = q) ∧ (∀ p, 0 ≤ p → p < n → -1 ≤ mw M p ∧ mw M p < n ∧ mw M p ≠ p) ∧ (∀ p l, 0 ≤ p → p < n → 0 ≤ l → l < n → 0 ≤ mp M p l ∧ mp M p l ≤ 99) ∧ (∀ p, 0 ≤ p → p < n → mp M p p = 99) ∧ (me M).length ≤ 40
theorem vP.fr {S : Nat → Prop} {V V1 : mV} {r : Nat} {n : Int} {g : Int → Int → Int} (h : vP V r n g) (k : fr S V V1) (h1 : ¬ S r) (h2 : ¬ S (r + 1)) : vP V1 r n g :=
  ⟨by rw [k.I h1]; exact h.1, fun a b p q s t => by rw [rc_fr k h2]; exact h.2 a b p q s t⟩
theorem vK.fr {S : Nat → Prop} {V V1 : mV} {mo : Nat} {K : Int} {l : List (Int × Int × Int × Int)} (h : vK V mo K l) (k : fr S V V1) (h1 : ¬ S (mo + 7)) (h2 : ¬ S (mo + 8)) : vK V1 mo K l := by
  refine ⟨by rw [k.I h1]; exact h.1, h.2.1, fun i hi => ?_⟩
  rw [rc_fr k h2]; exact h.2.2 i hi
theorem vM.fr {S : Nat → Prop} {V V1 : mV} {mo : Nat} {n B : Int} {M : mMo} (h : vM V mo n M B) (k : fr S V V1) (hS : ∀ i, mo ≤ i → i ≤ mo + 8 → ¬ S i) : vM V1 mo n M B := by
  obtain ⟨a, b, c, d, e, f⟩ := h
  have hm := hS mo (by omega) (by omega)
  refine ⟨by rw [k.I hm]; exact a, b.fr k (hS _ (by omega) (by omega)) (hS _ (by omega) (by omega)), c.fr k (hS _ (by omega) (by omega)) (hS _ (by omega) (by omega)), d.fr k (hS _ (by omega) (by omega)) (hS _ (by omega) (by omega)), by rw [k.I hm]; exact e, ?_⟩
  rw [k.I hm]
  exact f.fr k (hS _ (by omega) (by omega)) (hS _ (by omega) (by omega))
section
variable {G : mG} {V : mV} {mo : Nat} {n B : Int} {M : mMo}
theorem m_points (hG : is4 G mo) (hn : n ≤ 10) (h : vM V mo n M B) {p l : Int} (hp : 0 ≤ p ∧ p < n) (hl : 0 ≤ l ∧ l < n) : F_X4_pointsOf G mo p l V = some (V, mp M p l) := by
  obtain ⟨-, -, -, ⟨d1, d2⟩, -⟩ := h
  unfold F_X4_pointsOf
  refine E_bd (p7_get (s4_3s hG) (rw_rz (s4_3c hG) d1 ⟨by decide, by decide⟩) ⟨by omega, by omega⟩) (E_so rfl ?_)
  rw [rget_in (by omega) (by rw [d1]; omega)]
  exact d2 p l hp.1 hp.2 hl.1 hl.2
theorem m_setP (hG : is4 G mo) (hn : n ≤ 10) (h : vM V mo n M B) {p l v : Int} (hp : 0 ≤ p ∧ p < n) (hl : 0 ≤ l ∧ l < n) (hv : rg v) :
    ∃ V', F_X4_setPoints G mo p l v V = some (V', 0) ∧ fr (fun i => i = mo + 6) V V' ∧ vM V' mo n (mh M, ml M, mw M, ug (mp M) p l (max 0 (min 99 v)), me M) B := by
  obtain ⟨a, b, c, ⟨d1, d2⟩, e, f⟩ := h
  have k : fr (fun i => i = mo + 6) V (sA V (mo + 6) (p * 10 + l).toNat (max 0 (min 99 v))) := fr_sA rfl
  refine ⟨_, ?_, k, ?_⟩
  · unfold F_X4_setPoints
    refine E_gd hv (E_gd ⟨by omega, by omega⟩ (E_bd (p7_put (s4_3s hG) (rw_rz (s4_3c hG) d1 ⟨by decide, by decide⟩) ⟨by omega, by omega⟩) (E_so ?_ rfl)))
    unfold rput
    rw [if_pos ⟨by omega, by rw [d1]; omega⟩]
  · refine ⟨a, b.fr k (by omega) (by omega), c.fr k (by omega) (by omega), ⟨d1, fun x y hx1 hx2 hy1 hy2 => ?_⟩, e, f.fr k (by omega) (by omega)⟩
    show gA (sA V (mo + 6) (p * 10 + l).toNat (max 0 (min 99 v))) (mo + 6) (x * 10 + y).toNat = ug (mp M) p l (max 0 (min 99 v)) x y
    rw [gA_sA]
    unfold ug
    by_cases e1 : x = p ∧ y = l
    · rw [if_pos ⟨rfl, by rw [e1.1, e1.2]⟩, if_pos e1]
    · rw [if_neg (by rintro ⟨-, q⟩; exact e1 ⟨by omega, by omega⟩), if_neg e1]
      exact d2 x y hx1 hx2 hy1 hy2
theorem m_keep (hG : is4 G mo) (h : vM V mo n M B) (hB : B ≤ 100000000) {w l p : Int} :
    ∃ V', F_X4_keep G mo w l p V = some (V', 0) ∧ fr (fun i => i = mo ∨ i = mo + 8) V V' ∧ vM V' mo n (keepM M w l p) (B + 1) := by
  obtain ⟨a, b, c, d, e, f1, f2, f3⟩ := h
  have hK : (gI V mo 5).tmod 40 = gI V mo 5 % 40 := Int.tmod_eq_emod_of_nonneg e.1
  have put : ∀ (U : mV) (k v : Int), gI U (mo + 7) 1 = 160 → 0 ≤ k ∧ k < 160 → F_X7_put G (mo + 7) k v U = some (sA U (mo + 8) k.toNat v, 0) := by
    intro U k v hu hk
    rw [p7_put (s4_4s hG) (rw_rz (s4_4c hG) hu ⟨by decide, by decide⟩) ⟨by omega, by omega⟩]
    unfold rput
    rw [if_pos ⟨hk.1, by rw [hu]; exact hk.2⟩]
  have t0 : 0 ≤ gI V mo 5 % 40 ∧ gI V mo 5 % 40 < 40 := ⟨by omega, by omega⟩
  refine ⟨sI (sA (sA (sA (sA V (mo + 8) (gI V mo 5 % 40 * 4).toNat (gI V mo 0)) (mo + 8) (gI V mo 5 % 40 * 4 + 1).toNat w) (mo + 8) (gI V mo 5 % 40 * 4 + 2).toNat l) (mo + 8) (gI V mo 5 % 40 * 4 + 3).toNat p) mo 5 (gI V mo 5 + 1), ?_, ?_, ?_⟩
  · unfold F_X4_keep
    refine E_gd ⟨by omega, by omega⟩ (E_lt ?_)
    rw [hK]
    refine E_bd (put _ _ _ f1 ⟨by omega, by omega⟩) (E_bd (put _ _ _ f1 ⟨by omega, by omega⟩) (E_bd (put _ _ _ f1 ⟨by omega, by omega⟩) (E_bd (put _ _ _ f1 ⟨by omega, by omega⟩) ?_)))
    rfl
  · exact ((((fr_sA (Or.inr rfl)).trans (fr_sA (Or.inr rfl))).trans (fr_sA (Or.inr rfl))).trans (fr_sA (Or.inr rfl))).trans (fr_sI (Or.inl rfl))
  · have k : fr (fun i => i = mo + 8) V (sA (sA (sA (sA V (mo + 8) (gI V mo 5 % 40 * 4).toNat (gI V mo 0)) (mo + 8) (gI V mo 5 % 40 * 4 + 1).toNat w) (mo + 8) (gI V mo 5 % 40 * 4 + 2).toNat l) (mo + 8) (gI V mo 5 % 40 * 4 + 3).toNat p) := (((fr_sA (S := fun i => i = mo + 8) rfl).trans (fr_sA (S := fun i => i = mo + 8) rfl)).trans (fr_sA (S := fun i => i = mo + 8) rfl)).trans (fr_sA (S := fun i => i = mo + 8) rfl)
    have k2 : fr (fun i => i = mo ∨ i = mo + 8) V (sI (sA (sA (sA (sA V (mo + 8) (gI V mo 5 % 40 * 4).toNat (gI V mo 0)) (mo + 8) (gI V mo 5 % 40 * 4 + 1).toNat w) (mo + 8) (gI V mo 5 % 40 * 4 + 2).toNat l) (mo + 8) (gI V mo 5 % 40 * 4 + 3).toNat p) mo 5 (gI V mo 5 + 1)) := (k.mono (fun i q => Or.inr q)).trans (fr_sI (Or.inl rfl))
    have hR : ∀ j, 0 ≤ j → rc (sI (sA (sA (sA (sA V (mo + 8) (gI V mo 5 % 40 * 4).toNat (gI V mo 0)) (mo + 8) (gI V mo 5 % 40 * 4 + 1).toNat w) (mo + 8) (gI V mo 5 % 40 * 4 + 2).toNat l) (mo + 8) (gI V mo 5 % 40 * 4 + 3).toNat p) mo 5 (gI V mo 5 + 1)) (mo + 7) j = if j = gI V mo 5 % 40 * 4 + 3 then p else if j = gI V mo 5 % 40 * 4 + 2 then l else if j = gI V mo 5 % 40 * 4 + 1 then w else if j = gI V mo 5 % 40 * 4 then mh M else rc V (mo + 7) j := by
      intro j hj
      rw [← a]
      show gA (sA (sA (sA (sA V (mo + 8) (gI V mo 5 % 40 * 4).toNat (gI V mo 0)) (mo + 8) (gI V mo 5 % 40 * 4 + 1).toNat w) (mo + 8) (gI V mo 5 % 40 * 4 + 2).toNat l) (mo + 8) (gI V mo 5 % 40 * 4 + 3).toNat p) (mo + 8) j.toNat = _
      simp only [gA_sA, true_and]
      (repeat' split) <;> first | rfl | omega
    have hL : (keepM M w l p).2.2.2.2 = (if (me M).length = 40 then (me M).tail else me M) ++ [(mh M, w, l, p)] := rfl
    refine ⟨?_, b.fr k2 (by omega) (by omega), c.fr k2 (by omega) (by omega), d.fr k2 (by omega) (by omega), ?_, ?_⟩
    · show gI (sI _ mo 5 _) mo 0 = mh M
      rw [gI_sI, if_neg (by rintro ⟨-, q⟩; cases q)]; exact a
    · rw [gI_sI, if_pos ⟨rfl, rfl⟩]; omega
    · rw [gI_sI, if_pos ⟨rfl, rfl⟩]
      have hm : me (keepM M w l p) = (if (me M).length = 40 then (me M).tail else me M) ++ [(mh M, w, l, p)] := rfl
      by_cases h40 : (me M).length = 40
      · rw [hm, if_pos h40]
        have hl : ((me M).tail ++ [(mh M, w, l, p)]).length = 40 := by rw [List.length_append, List.length_tail, h40]; rfl
        refine ⟨by rw [gI_sI, if_neg (by rintro ⟨q, -⟩; omega)]; exact f1, by rw [hl]; omega, fun i hi => ?_⟩
        rw [hl] at hi ⊢
        rw [hR _ (by omega), hR _ (by omega), hR _ (by omega), hR _ (by omega)]
        by_cases hi2 : i = 39
        · subst hi2
          have eg : ((me M).tail ++ [(mh M, w, l, p)]).getD 39 e0 = (mh M, w, l, p) := by
            rw [gD_r _ _ _ _ (by rw [List.length_tail, h40]; omega)]
            rw [List.length_tail, h40]; rfl
          rw [eg]
          have ep : (gI V mo 5 + 1 - ((40 : Nat) : Int) + ((39 : Nat) : Int)) % 40 = gI V mo 5 % 40 := by omega
          rw [ep]
          refine ⟨?_, ?_, ?_, ?_⟩
          · rw [if_neg (by omega), if_neg (by omega), if_neg (by omega), if_pos rfl]
          · rw [if_neg (by omega), if_neg (by omega), if_pos rfl]
          · rw [if_neg (by omega), if_pos rfl]
          · rw [if_pos rfl]
        · have eg : ((me M).tail ++ [(mh M, w, l, p)]).getD i e0 = (me M).getD (i + 1) e0 := by
            rw [gD_l _ _ _ _ (by rw [List.length_tail, h40]; omega)]
            simp [List.getD_eq_getElem?_getD, List.getElem?_tail]
          have q := f3 (i + 1) (by omega)
          rw [h40] at q
          rw [eg]
          have ep : (gI V mo 5 + 1 - ((40 : Nat) : Int) + (i : Int)) % 40 = (gI V mo 5 - ((40 : Nat) : Int) + ((i + 1 : Nat) : Int)) % 40 := by congr 1; omega
          rw [ep]
          have ne : (gI V mo 5 - ((40 : Nat) : Int) + ((i + 1 : Nat) : Int)) % 40 ≠ gI V mo 5 % 40 := by omega
          obtain ⟨q1, q2, q3, q4⟩ := q
          refine ⟨?_, ?_, ?_, ?_⟩
          · rw [if_neg (by omega), if_neg (by omega), if_neg (by omega), if_neg (by omega)]; exact q1
          · rw [if_neg (by omega), if_neg (by omega), if_neg (by omega), if_neg (by omega)]; exact q2
          · rw [if_neg (by omega), if_neg (by omega), if_neg (by omega), if_neg (by omega)]; exact q3
          · rw [if_neg (by omega), if_neg (by omega), if_neg (by omega), if_neg (by omega)]; exact q4
      · rw [hm, if_neg h40]
        have hl : (me M ++ [(mh M, w, l, p)]).length = (me M).length + 1 := by rw [List.length_append]; rfl
        have hlk : ((me M).length : Int) = gI V mo 5 := by omega
        refine ⟨by rw [gI_sI, if_neg (by rintro ⟨q, -⟩; omega)]; exact f1, by rw [hl]; omega, fun i hi => ?_⟩
        rw [hl] at hi
        rw [hl, hR _ (by omega), hR _ (by omega), hR _ (by omega), hR _ (by omega)]
        by_cases hi2 : i = (me M).length
        · subst hi2
          have eg : (me M ++ [(mh M, w, l, p)]).getD (me M).length e0 = (mh M, w, l, p) := by
            rw [gD_r _ _ _ _ (Nat.le_refl _), Nat.sub_self]; rfl
          rw [eg]
          have ep : (gI V mo 5 + 1 - (((me M).length + 1 : Nat) : Int) + (((me M).length : Nat) : Int)) % 40 = gI V mo 5 % 40 := by congr 1; omega
          rw [ep]
          refine ⟨?_, ?_, ?_, ?_⟩
          · rw [if_neg (by omega), if_neg (by omega), if_neg (by omega), if_pos rfl]
          · rw [if_neg (by omega), if_neg (by omega), if_pos rfl]
          · rw [if_neg (by omega), if_pos rfl]
          · rw [if_pos rfl]
        · have eg : (me M ++ [(mh M, w, l, p)]).getD i e0 = (me M).getD i e0 := gD_l _ _ _ _ (by omega)
          obtain ⟨q1, q2, q3, q4⟩ := f3 i (by omega)
          rw [eg]
          have ep : (gI V mo 5 + 1 - (((me M).length + 1 : Nat) : Int) + (i : Int)) % 40 = (gI V mo 5 - ((me M).length : Int) + (i : Int)) % 40 := by congr 1; omega
          rw [ep]
          have ne : (gI V mo 5 - ((me M).length : Int) + (i : Int)) % 40 ≠ gI V mo 5 % 40 := by omega
          refine ⟨?_, ?_, ?_, ?_⟩
          · rw [if_neg (by omega), if_neg (by omega), if_neg (by omega), if_neg (by omega)]; exact q1
          · rw [if_neg (by omega), if_neg (by omega), if_neg (by omega), if_neg (by omega)]; exact q2
          · rw [if_neg (by omega), if_neg (by omega), if_neg (by omega), if_neg (by omega)]; exact q3
          · rw [if_neg (by omega), if_neg (by omega), if_neg (by omega), if_neg (by omega)]; exact q4
end

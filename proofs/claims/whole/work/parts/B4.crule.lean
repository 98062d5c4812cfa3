/-! rules and statements (class) -/
abbrev tC : Type := (Int × Int) ⊕ (mCy × Nat)
def toC (x : (Int × Int) ⊕ Nat) (C : mCy) : tC := match x with
  | .inl e => .inl e
  | .inr q => .inr (C, q)
def addR (C : mCy) (w : Nat) (c : List Int) : mCy := (C.1, C.2.1, ck C, cd C, (fun j => if j = w then c else co C j), cp C, cq C)
def addU (C : mCy) : mCy := ((cn C, ct C, cu C + 1), C.2)
def aRu (C : mCy) (T : mT2) (w p : Nat) : tC := match rd (kT (w - 1) T) 64 (if w ≤ 1 then 3 else 0) 0 p with
  | .inl e => .inl e
  | .inr y => .inr (addR C w y.1, y.2)
theorem okc_ne {b : Bool} {c : List Int} {h : Nat} (hh : h ≤ 64) (k : okc b h c) : c ≠ [] := by
  rintro rfl
  obtain ⟨x, a, -⟩ := k k0 k0 ⟨fun _ => (by decide : (-1000000 : Int) ≤ 0 ∧ (0 : Int) ≤ 1000000), fun _ => (by decide : (-1000000 : Int) ≤ 0 ∧ (0 : Int) ≤ 1000000)⟩ [] (by simpa using hh)
  cases a
theorem fok_rd {T : mT2} {w p q : Nat} {c : List Int} (hw : w ≤ 3) (h : rd (kT (w - 1) T) 64 (if w ≤ 1 then 3 else 0) 0 p = .inr (c, q)) : c ≠ [] ∧ okc (decide (2 ≤ w)) 40 c ∧ pok (alS (w - 1)) c := by
  obtain ⟨a, b⟩ := rd_ok (okK3_T (T := T) (md := w - 1)) 64 (if w ≤ 1 then 3 else 0) 0 p c q (by decide) (by split <;> decide) h
  have e : (w - 1 = 3) = False := by
    refine propext ⟨fun z => by omega, fun z => z.elim⟩
  rw [e] at b
  have a' : okc (decide (2 ≤ w)) 40 c := by
    by_cases z : w ≤ 1
    · rw [if_pos z] at a
      have e2 : decide (2 ≤ w) = false := by simp; omega
      rw [e2]
      exact okc_up a (by decide)
    · rw [if_neg z] at a
      have e2 : decide (2 ≤ w) = true := by simp; omega
      rw [e2]
      exact okc_up a (by decide)
  exact ⟨okc_ne (by decide) a', a', pkS_pok b⟩
theorem okC_R {C : mCy} {w : Nat} {c : List Int} (h : okC C) (hw : w ≤ 3) (hc : okc (decide (2 ≤ w)) 40 c ∧ pok (alS (w - 1)) c) : okC (addR C w c) := by
  obtain ⟨a1, a2, a3, a5, a6, a7, a8, a9, a10, b0, b1, b2, b3⟩ := h
  have o : ∀ j, j ≠ w → co (addR C w c) j = co C j := fun j hj => if_neg hj
  have e : co (addR C w c) w = c := if_pos rfl
  refine ⟨a1, a2, a3, a5, a6, a7, a8, a9, a10, ?_, ?_, ?_, ?_⟩
  · by_cases z : w = 0
    · subst z; rw [e]; exact Or.inr hc
    · rw [o 0 (fun q => z q.symm)]; exact b0
  · by_cases z : w = 1
    · subst z; rw [e]; exact Or.inr hc
    · rw [o 1 (fun q => z q.symm)]; exact b1
  · by_cases z : w = 2
    · subst z; rw [e]; exact Or.inr hc
    · rw [o 2 (fun q => z q.symm)]; exact b2
  · by_cases z : w = 3
    · subst z; rw [e]; exact Or.inr hc
    · rw [o 3 (fun q => z q.symm)]; exact b3
section
variable {G : mG} {V V' : mV} {c r x : Nat} {C : mCy} {T : mT2}
/-- what has been read stands, or a fault -/
def oC (G : mG) (V : mV) (r c : Nat) (T : mT2) (y : tC) : Prop := match y with
  | .inl e => rs6 V r T (.inl e) ∧ zC G V c
  | .inr y => rs6 V r T (.inr y.2) ∧ bC V c y.1
theorem c_rule0 {n z : Nat} (hG : is6 G r) (hc : is1 G c) (hT : tOk T) (hd : r + 12 < c) (hx : r ≠ x) (h : bC V c C) {w : Nat} (hw : w ≤ 3) (hcs : co C w = []) {p : Nat} (hs : rs6 V r T (.inr p)) :
    ∃ V' v, FR (sR G r 7 (.ref (c + 21 + 5 * w))) r 64 (if w ≤ 1 then 3 else 0) 0 0 (sJ V r 8 (msk (w - 1))) = some (V', v) ∧ (is6 (sR G r 7 (.ref (c + 21 + 5 * w))) r ∧ is1 (sR G r 7 (.ref (c + 21 + 5 * w))) c) ∧ frj r (fun i => i = r ∨ (c + 21 ≤ i ∧ i ≤ c + 40)) V V' ∧ gI V' r 10 = gI V r 10 ∧ oC (sR G r 7 (.ref (c + 21 + 5 * w))) V' r c T (aRu C T w p) := by
  have h3 : is3 G (c + 21 + 5 * w) := by
    have : w = 0 ∨ w = 1 ∨ w = 2 ∨ w = 3 := by omega
    rcases this with rfl | rfl | rfl | rfl
    · exact s1_10s hc
    · exact s1_11s hc
    · exact s1_12s hc
    · exact s1_13s hc
  have h6' := is6_7 hG h3 hx
  have h1' := is1_7 (v := .ref (c + 21 + 5 * w)) hc hG
  have e7 : gR (sR G r 7 (.ref (c + 21 + 5 * w))) r 7 = c + 21 + 5 * w := gR_7
  obtain ⟨G', hG'⟩ : ∃ G', G' = sR G r 7 (.ref (c + 21 + 5 * w)) := ⟨_, rfl⟩
  rw [← hG'] at h6' h1' e7 ⊢
  have vf : vF V (c + 21 + 5 * w) [] := by
    obtain ⟨f1, f2, f3, f4⟩ := h.2.2.1.1
    have : w = 0 ∨ w = 1 ∨ w = 2 ∨ w = 3 := by omega
    rcases this with rfl | rfl | rfl | rfl
    · rw [hcs] at f1; exact f1
    · rw [hcs] at f2; exact f2
    · rw [hcs] at f3; exact f3
    · rw [hcs] at f4; exact f4
  have hcF : cF G' (sJ V r 8 (msk (w - 1))) r T (w - 1) p [] := by
    refine ⟨hs.1, hs.2, by rw [e7]; exact vf, Nat.zero_le _, ?_⟩
    show u2 (gJ V) r 8 _ r 8 = _
    unfold u2
    rw [if_pos ⟨rfl, rfl⟩]
  have ho : oR G' r := by unfold oR; rw [e7]; omega
  obtain ⟨V', v, e, k, hq⟩ := (FR_ok (md := w - 1) h6' hT ho (by omega) 64).1 (if w ≤ 1 then 3 else 0) 0 (by split <;> decide) (by decide) (by unfold need8; split <;> decide) _ p [] hcF
  obtain ⟨k1, k2⟩ := k
  rw [e7] at k1
  have kj : frj r (fun i => i = r ∨ (c + 21 ≤ i ∧ i ≤ c + 40)) V V' := (frj_sJ (v := msk (w - 1))).trans ((k1.mono (fun i q => by omega)).j)
  refine ⟨V', v, e, ⟨h6', h1'⟩, kj, k2, ?_⟩
  have ki : ∀ i, c ≤ i → i ≠ c + 22 + 5 * w → i ≠ c + 23 + 5 * w → gI V' i = gI V i ∧ gA V' i = gA V i := fun i a b d => k1.2.2 i (by omega)
  have gi : ∀ i, i ≠ r → i ≠ c + 22 + 5 * w → i ≠ c + 23 + 5 * w → gI V' i = gI V i := fun i a b d => (k1.2.2 i (by omega)).1
  unfold aRu
  cases hR : rd (kT (w - 1) T) 64 (if w ≤ 1 then 3 else 0) 0 p with
  | inl e0 =>
    rw [hR] at hq
    obtain ⟨q1, q2, q3⟩ := hq
    rw [e7] at q2
    refine ⟨q1, ?_⟩
    have hz := bC.z hc h
    have q2' : rz G V' (c + 22 + 5 * w) := by
      unfold rz at q2 ⊢
      rw [hG'] at q2
      rw [show c + 22 + 5 * w = c + 21 + 5 * w + 1 by omega]
      exact q2
    obtain ⟨⟨a1, a2, a3, a4, a5, a6, a7, a8, a9⟩, ⟨b1, b2, b3, b4⟩, d1, d2, d3, d4⟩ := hz
    have rzo : ∀ i, rz G V i → c + 1 ≤ i → i ≠ c + 23 + 5 * w → rz G V' i := by
      intro i hi h1 h2
      by_cases z : i = c + 22 + 5 * w
      · rw [z]; exact q2'
      · unfold rz at hi ⊢
        rw [gi i (by omega) z h2]; exact hi
    have zz : zC G V' c := by
      refine ⟨⟨rzo _ a1 (by omega) (by omega), rzo _ a2 (by omega) (by omega), rzo _ a3 (by omega) (by omega), rzo _ a4 (by omega) (by omega), rzo _ a5 (by omega) (by omega), rzo _ a6 (by omega) (by omega), rzo _ a7 (by omega) (by omega), rzo _ a8 (by omega) (by omega), rzo _ a9 (by omega) (by omega)⟩, ⟨rzo _ b1 (by omega) (by omega), rzo _ b2 (by omega) (by omega), rzo _ b3 (by omega) (by omega), rzo _ b4 (by omega) (by omega)⟩, ?_, ?_, ?_, ?_⟩
      · rw [gi _ (by omega) (by omega) (by omega)]; exact d1
      · rw [gi _ (by omega) (by omega) (by omega)]; exact d2
      · rw [gi _ (by omega) (by omega) (by omega)]; exact d3
      · rw [gi _ (by omega) (by omega) (by omega)]; exact d4
    rw [hG']
    exact zz.g (gE_7 (x := r))
  | inr y =>
    obtain ⟨cs, q⟩ := y
    rw [hR] at hq
    obtain ⟨q1, q2, q3, q4, q5⟩ := hq
    rw [e7] at q3
    have q3' : vF V' (c + 21 + 5 * w) cs := q3
    obtain ⟨-, fo⟩ := fok_rd hw hR
    refine ⟨⟨q1, q2⟩, okC_R h.1 hw fo, h.2.1, ?_, ?_⟩
    · obtain ⟨ho, hN, ⟨⟨f1, f2, f3, f4⟩, ⟨n1, n2, n3, n4, n5⟩, hT', hD, hU⟩, hz⟩ := h
      have kc : fr (fun i => i = r ∨ i = c + 22 + 5 * w ∨ i = c + 23 + 5 * w) (sJ V r 8 (msk (w - 1))) V' := k1.mono (fun i q => by omega)
      have vf' : ∀ j, j ≤ 3 → vF V (c + 21 + 5 * j) (co C j) → vF V' (c + 21 + 5 * j) (co (addR C w cs) j) := by
        intro j hj hv
        by_cases z : j = w
        · rw [z, show co (addR C w cs) w = cs from if_pos rfl]; exact q3'
        · rw [show co (addR C w cs) j = co C j from if_neg z]
          exact vF.fr (V := sJ V r 8 (msk (w - 1))) hv kc (by omega) (by omega) (by omega)
      have rwf : ∀ {row : Nat} {n : Int} {f : Int → Int}, rw' V row n f → c + 1 ≤ row → row ≤ c + 19 → rw' V' row n f := fun hr a b => rw'.fr (V := sJ V r 8 (msk (w - 1))) hr kc (by omega) (by omega)
      refine ⟨⟨vf' 0 (by decide) f1, vf' 1 (by decide) f2, vf' 2 (by decide) f3, vf' 3 (by decide) f4⟩, ⟨rwf n1 (by omega) (by omega), rwf n2 (by omega) (by omega), rwf n3 (by omega) (by omega), rwf n4 (by omega) (by omega), ?_⟩, ⟨rwf hT'.1 (by omega) (by omega), rwf hT'.2 (by omega) (by omega)⟩, ⟨rwf hD.1 (by omega) (by omega), rwf hD.2.1 (by omega) (by omega), rwf hD.2.2 (by omega) (by omega)⟩, ?_⟩
      · exact vP.fr (V := sJ V r 8 (msk (w - 1))) n5 kc (by omega) (by omega)
      · rw [gi c (by omega) (by omega) (by omega)]; exact hU
    · intro a b a0 a1 b0 b1 z
      have hz := h.2.2.2 a b a0 a1 b0 b1 z
      rw [← hz]
      show gA V' (c + 9 + 1) _ = gA V (c + 9 + 1) _
      rw [(ki (c + 9 + 1) (by omega) (by omega) (by omega)).2]
/-- the class reads a rule -/
theorem c_rule {n z : Nat} (hG : is6 G r) (hc : is1 G c) (hT : tOk T) (hd : r + 12 < c) (hx : r ≠ x) (h : bC V c C) {w : Nat} (hw : w ≤ 3) (hcs : co C w = []) {p : Nat} (hs : rs6 V r T (.inr p)) :
    ∃ G' V', F_X6_readRule r c (8 + (w : Int)) (n, z, G, V) = some ((n, z, G', V'), 0) ∧ gE r x G G' ∧ (is6 G' r ∧ is1 G' c) ∧ frj r (fun i => i = r ∨ (c + 21 ≤ i ∧ i ≤ c + 40)) V V' ∧ gI V' r 10 = gI V r 10 ∧ oC G' V' r c T (aRu C T w (nxT T p)) := by
  obtain ⟨V1, e1, k1, r1⟩ := S_take hG hs
  have r1' : rs6 V1 r T (.inr (nxT T p)) := r1
  have h1 := h.fr k1.1 (fun i a b => by omega)
  obtain ⟨V', v, e, hi, kj, k10, o⟩ := c_rule0 (x := x) (n := n) (z := z) hG hc hT hd hx h1 hw hcs r1'
  refine ⟨sR G r 7 (.ref (c + 21 + 5 * w)), V', ?_, gE_7, hi, ((k1.1.mono (fun i q => Or.inl q)).j).trans kj, k10.trans k1.2, o⟩
  have : w = 0 ∨ w = 1 ∨ w = 2 ∨ w = 3 := by omega
  unfold F_X6_readRule
  rcases this with rfl | rfl | rfl | rfl
  · refine E_gd ⟨hG, hc⟩ (E_bd e1 (E_gd (by decide) (E_if (fun _ => ?_) (fun y => absurd (by decide) y))))
    unfold F_X6_readRule_J16
    exact E_gd ⟨hG, hc⟩ (E_gd (by decide) (E_if (fun _ => E_lt (E_gd hi (E_lt (E_bd e rfl)))) (fun y => absurd (by decide) y)))
  · refine E_gd ⟨hG, hc⟩ (E_bd e1 (E_gd (by decide) (E_if (fun y => absurd y (by decide)) (fun _ => E_if (fun _ => ?_) (fun y => absurd (by decide) y)))))
    unfold F_X6_readRule_J16
    exact E_gd ⟨hG, hc⟩ (E_gd (by decide) (E_if (fun y => absurd y (by decide)) (fun _ => E_lt (E_gd hi (E_lt (E_bd e rfl))))))
  · exact E_gd ⟨hG, hc⟩ (E_bd e1 (E_gd (by decide) (E_if (fun y => absurd y (by decide)) (fun _ => E_if (fun y => absurd y (by decide)) (fun _ => E_if (fun _ => E_lt (E_gd hi (E_if (fun _ => E_lt (E_bd e rfl)) (fun y => absurd (by decide) y)))) (fun y => absurd (by decide) y))))))
  · exact E_gd ⟨hG, hc⟩ (E_bd e1 (E_gd (by decide) (E_if (fun y => absurd y (by decide)) (fun _ => E_if (fun y => absurd y (by decide)) (fun _ => E_if (fun y => absurd y (by decide)) (fun _ => E_lt (E_gd hi (E_if (fun y => absurd y (by decide)) (fun _ => E_lt (E_bd e rfl))))))))))
end

/-! statements go on, and keep a city in order -/
def upT (T : mT2) (p : Nat) (x : (Int × Int) ⊕ Nat) : Prop := ∀ q, x = .inr q → p < q ∧ q ≤ T.2
section
variable {C : mCy} {T : mT2} {p : Nat}
theorem up_thn {x : (Int × Int) ⊕ Nat} {f : Nat → (Int × Int) ⊕ Nat} (h : upT T p x) (k : ∀ p, upT T p (f p)) : upT T p (thn x f) := by
  intro q hq
  obtain ⟨p1, a, b⟩ := thn_r hq
  have := h _ a
  have := k p1 _ b
  omega
theorem up_if {x : (Int × Int) ⊕ Nat} {f : Nat → (Int × Int) ⊕ Nat} (h : upT T p x) (k : ∀ r q, f r = .inr q → q = r) : upT T p (thn x f) := by
  intro q hq
  obtain ⟨p1, a, b⟩ := thn_r hq
  rw [k _ _ b]
  exact h _ a
theorem up_na : upT T p (nNa T p) := by
  intro q h
  obtain ⟨a, -, b, -⟩ := nNa_ok h
  rw [b]; exact nxT_gt a
theorem up_kn {f : Int → List Int} {n : Int} : upT T p (nKn f n T p) := by
  intro q h
  have e := (nKn_i h).1
  unfold nKn at h
  cases hN : nNa T p with
  | inl e => rw [hN] at h; cases h
  | inr q' =>
    rw [e]; exact nxT_gt (nNa_ok hN).1
theorem up_nw : upT T p (nNw C T p) := fun q h => up_na q (nNw_i h)
theorem up_wd {w : Int} (hw : 0 ≤ w) : upT T p (nWd T w p) := by
  intro q h
  have e := nWd_i h
  unfold nWd at h
  by_cases z : nmT T p = w
  · have k : kdT T p = 0 := by rcases nm_rg (T := T) (p := p) with y | y <;> omega
    rw [e]; exact nxT_gt (kd_0 k).1
  · rw [if_neg z] at h; cases h
theorem up_nu {mx : Int} : upT T p (nNu T mx p) := by
  intro q h
  obtain ⟨a, -, -, b⟩ := nNu_i h
  rw [b]; exact nxT_gt (kd_1 a).1
theorem nSg_i {s : Int} {q : Nat} (h : nSg T s p = .inr q) : q = nxT T p ∧ p < T.2 := by
  unfold nSg at h
  by_cases z : kdT T p = 2 ∧ T.1 p = s
  · rw [if_pos z] at h; cases h
    exact ⟨rfl, (kd_2.mp z.1).1⟩
  · rw [if_neg z] at h; cases h
theorem up_sg {s : Int} : upT T p (nSg T s p) := by
  intro q h
  obtain ⟨a, b⟩ := nSg_i h
  rw [a]; exact nxT_gt b
theorem up_gv {w mx : Int} (hw : 0 ≤ w) : upT T p (aGv C T w mx p) := up_thn (up_thn up_nw (fun _ => up_wd hw)) (fun _ => up_nu)
theorem up_du : upT T p (aDu C T p) := by
  unfold aDu aDu4
  refine up_if (up_thn (up_thn (up_thn up_kn (fun _ => up_kn)) (fun _ => up_wd (by decide))) (fun _ => up_nu)) (fun r q h => ?_)
  split at h
  · cases h
  · cases h; rfl
theorem up_co : upT T p (aCo C T p) := by
  unfold aCo aCo1
  refine up_if (up_thn (up_if up_kn (fun r q h => ?_)) (fun _ => up_kn)) (fun r q h => ?_)
  · split at h
    · cases h; rfl
    · cases h
  · split at h
    · cases h; rfl
    · cases h
theorem up_k : upT T p (aKn C T p) := by
  unfold aKn aKn2
  refine up_thn (up_if (up_thn up_kn (fun _ => up_kn)) (fun r q h => ?_)) (fun _ => up_nu)
  split at h
  · cases h
  · cases h; rfl
/-- a city so far, in order -/
def okS (C : mCy) : Prop := okC C ∧ okN (cp C) (cn C) ∧ okN (cq C) (ct C)
theorem aSt1_ok (hT : tOk T) (h : okS C) {C' : mCy} {q : Nat} (hp : p < T.2) (hA : aSt1 C T p = .inr (C', q)) : okS C' ∧ (p < q ∧ q ≤ T.2) ∧ (lnC C ≤ p → lnC C' ≤ q) := by
  obtain ⟨ho, o1, o2⟩ := h
  have hx := nxT_gt hp
  unfold aSt1 at hA
  by_cases u70 : cu C = 70
  · rw [if_pos u70] at hA; cases hA
  rw [if_neg u70] at hA
  by_cases w0 : nmT T p = 0
  · rw [if_pos w0] at hA
    by_cases z : cn C = 10
    · rw [if_pos z] at hA; cases hA
    · rw [if_neg z] at hA
      obtain ⟨e1, e2⟩ := toC_i hA
      obtain ⟨i1, i2, i3, i4, i5, i6⟩ := aGv_i e2
      have up := up_gv (by decide) _ e2
      subst e1
      exact ⟨⟨okC_P ho (by have := ho.1; omega) i5, okN_u o1 i4, o2⟩, by omega, fun hl => by show lnC C ≤ q; omega⟩
  rw [if_neg w0] at hA
  by_cases w2 : nmT T p = 2
  · rw [if_pos w2] at hA
    by_cases z : ct C = 8
    · rw [if_pos z] at hA; cases hA
    · rw [if_neg z] at hA
      obtain ⟨e1, e2⟩ := toC_i hA
      obtain ⟨i1, i2, i3, i4, i5, i6⟩ := aGv_i e2
      have up := up_gv (by decide) _ e2
      subst e1
      exact ⟨⟨okC_T ho (by have := ho.2.1; omega) i5, o1, okN_u o2 i4⟩, by omega, fun hl => by show lnC C ≤ q; omega⟩
  rw [if_neg w2] at hA
  by_cases w4 : nmT T p = 4
  · rw [if_pos w4] at hA
    by_cases z : (cd C).length = 24
    · rw [if_pos z] at hA; cases hA
    · rw [if_neg z] at hA
      obtain ⟨e1, e2⟩ := toC_i hA
      have up := up_du _ e2
      have hA4 : aDu4 C T (nxT T p) = .inr q := by
        unfold aDu at e2
        obtain ⟨q', h1, h2⟩ := thn_r e2
        by_cases z : aDuD C T (nxT T p) ∈ cd C
        · rw [if_pos z] at h2; cases h2
        · rw [if_neg z] at h2; cases h2; exact h1
      subst e1
      exact ⟨⟨okC_D ho (by have := ho.2.2.1.1; omega) (okD_d ho hA4), o1, o2⟩, by omega, fun hl => by show lnC C ≤ q; omega⟩
  rw [if_neg w4] at hA
  by_cases w6 : nmT T p = 6
  · rw [if_pos w6] at hA
    obtain ⟨e1, e2⟩ := toC_i hA
    have up := up_co _ e2
    obtain ⟨i0, i1, i2, i3, i4, i5⟩ := aCo_i ho e2
    subst e1
    exact ⟨⟨okC_C ho (nKp_i ho i1).2 (nKp_i ho i2).2 i3 i4, o1, o2⟩, by omega, fun hl => by show lnC C ≤ q; omega⟩
  rw [if_neg w6] at hA
  by_cases w7 : nmT T p = 7
  · rw [if_pos w7] at hA
    obtain ⟨e1, e2⟩ := toC_i hA
    have up := up_k _ e2
    obtain ⟨i1, i2, i3, i4, i5⟩ := aKn_i ho e2
    have i := nNu_i i5
    have v := vl_1r i.1
    subst e1
    exact ⟨⟨okC_K ho i3 ⟨v.1, i.2.2.1⟩, o1, o2⟩, by omega, fun hl => by show lnC C ≤ q; omega⟩
  rw [if_neg w7] at hA
  by_cases w8 : 8 ≤ nmT T p ∧ nmT T p ≤ 11
  · rw [if_pos w8] at hA
    by_cases z : co C (nmT T p - 8).toNat ≠ []
    · rw [if_pos z] at hA; cases hA
    · rw [if_neg z] at hA
      have z' : co C (nmT T p - 8).toNat = [] := Classical.byContradiction z
      obtain ⟨w, hw⟩ : ∃ w, w = (nmT T p - 8).toNat := ⟨_, rfl⟩
      rw [← hw] at hA z'
      have hw3 : w ≤ 3 := by omega
      unfold aRu at hA
      cases hR : rd (kT (w - 1) T) 64 (if w ≤ 1 then 3 else 0) 0 (nxT T p) with
      | inl e => rw [hR] at hA; cases hA
      | inr y =>
        obtain ⟨cs, q'⟩ := y
        rw [hR] at hA
        cases hA
        have pr := pr64 hT (by omega) hR
        obtain ⟨-, fo⟩ := fok_rd hw3 hR
        exact ⟨⟨okC_R ho hw3 fo, o1, o2⟩, by omega, fun hl => by show lnC (addR C w cs) ≤ q'; rw [lnC_R hw3 z']; omega⟩
  · rw [if_neg w8] at hA; cases hA
theorem aSt_ok (hT : tOk T) (h : okS C) {C' : mCy} {q : Nat} (hp : p < T.2) (hA : aSt C T p = .inr (C', q)) : okS C' ∧ (p < q ∧ q ≤ T.2) ∧ (lnC C ≤ p → lnC C' ≤ q) := by
  unfold aSt at hA
  cases hB : aSt1 C T p with
  | inl e => rw [hB] at hA; cases hA
  | inr y =>
    obtain ⟨C1, q1⟩ := y
    rw [hB] at hA
    obtain ⟨a, b⟩ := toC_i (show toC (nSg T 59 q1) (addU C1) = .inr (C', q) from hA)
    obtain ⟨x1, x2, x3⟩ := aSt1_ok hT h hp hB
    have u := up_sg _ b
    subst a
    exact ⟨x1, by omega, fun hl => by have := x3 hl; show lnC C1 ≤ q; omega⟩
theorem okS_00 : okS C00 := by
  refine ⟨okC_00, fun j a b => ?_, fun j a b => ?_⟩
  · have : j < 0 := b; omega
  · have : j < 0 := b; omega
end

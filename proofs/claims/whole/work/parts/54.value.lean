/-! a formula's value: the class's -/
def skp (g : Nat → Int) : List Int → Prop
  | [] => True
  | a :: r => g r.length = a ∧ skp g r
theorem skp_cg {g h : Nat → Int} : ∀ {s : List Int}, (∀ j, j < s.length → h j = g j) → skp g s → skp h s
  | [], _, _ => trivial
  | a :: r, e, p => ⟨by rw [e r.length (by simp)]; exact p.1, skp_cg (fun j hj => e j (by simp; omega)) p.2⟩
def uN (g : Nat → Int) (k : Nat) (x : Int) : Nat → Int := fun j => if j = k then x else g j
theorem skp_push {g : Nat → Int} {s : List Int} {x : Int} (p : skp g s) : skp (uN g s.length x) (x :: s) :=
  ⟨by unfold uN; rw [if_pos rfl], skp_cg (fun j hj => by unfold uN; rw [if_neg (by omega)]) p⟩
def encc (v : Int) : Int :=
  if 1000 ≤ v then (v - 1000) * 16
  else if v = 60 then 2
  else if v = 40 then 12 * 16 + 1 else if v = 41 then 13 * 16 + 1 else if v = 42 then 14 * 16 + 1 else if v = 43 then 15 * 16 + 1 else if v = 44 then 3 * 16 + 1 else if v = 45 then 16 * 16 + 1 else if v = 46 then 17 * 16 + 1 else if v = 47 then 30 * 16 + 1 else if v = 48 then 31 * 16 + 1 else if v = 49 then 32 * 16 + 1
  else if v = 13 then 16
  else if v = 12 then 3
  else v + 3
/-- where a fact stands in the class's row -/
def wrd (k : Int) : Int := if k = 0 then 12 else if k = 1 then 13 else if k = 2 then 14 else if k = 3 then 15 else if k = 4 then 3 else if k = 5 then 16 else if k = 6 then 17 else if k = 7 then 30 else if k = 8 then 31 else 32
theorem shr4 (a : Int) : shr a 4 = a / 16 := rfl
theorem gA_sFs {V : mV} {i a b : Nat} {g : Nat → Int} (h : a ≠ i) : gA (sF V i g) a b = gA V a b := by rw [gA_sF, if_neg h]
theorem bor01 : ∀ a b : Int, (a = 0 ∨ a = 1) → (b = 0 ∨ b = 1) → bor a b = (if a = 0 ∧ b = 0 then 0 else 1) := by
  rintro a b (rfl | rfl) (rfl | rfl) <;> decide
theorem bnd01 : ∀ a b : Int, (a = 0 ∨ a = 1) → (b = 0 ∨ b = 1) → bnd a b = (if a = 1 ∧ b = 1 then 1 else 0) := by
  rintro a b (rfl | rfl) (rfl | rfl) <;> decide
theorem mul_bd {a b : Int} (ha : -1000000 ≤ a ∧ a ≤ 1000000) (hb : -1000000 ≤ b ∧ b ≤ 1000000) : -1000000000000 ≤ a * b ∧ a * b ≤ 1000000000000 := by
  have h1 : (a * b).natAbs ≤ 1000000 * 1000000 := by rw [Int.natAbs_mul]; exact Nat.mul_le_mul (by omega) (by omega)
  omega
section
variable {G : mG} {V : mV}
theorem p3_held {v : Int} (hv : -2000000000000 ≤ v ∧ v ≤ 2000000000000) : F_X3_held G v V = some (V, hld v) := by
  unfold F_X3_held hld
  exact E_gd ⟨by omega, by omega⟩ (E_if (fun h1 => E_if (fun h2 => E_so rfl (by omega)) (fun h2 => E_so rfl (by omega))) (fun h1 => E_so rfl (by omega)))
theorem fdiv_bd {a b : Int} (ha : -1000000 ≤ a ∧ a ≤ 1000000) (h0 : b ≠ 0) : -1000000 ≤ a.fdiv b ∧ a.fdiv b ≤ 1000000 := by
  rw [fdv h0]
  have h := Int.natAbs_tdiv_le_natAbs a b
  have e := Int.mul_tdiv_add_tmod a b
  by_cases c : ((a < 0 ∧ 0 ≤ b) ∨ (0 ≤ a ∧ b < 0)) ∧ a.tdiv b * b ≠ a
  · rw [if_pos c]
    by_cases hb : b = 1 ∨ b = -1
    · exfalso
      apply c.2
      rcases hb with rfl | rfl <;> simp
    · have h2 : 2 ≤ b.natAbs := by omega
      have h3 : (a.tdiv b).natAbs * 2 ≤ a.natAbs := by
        rw [Int.natAbs_tdiv]
        calc a.natAbs / b.natAbs * 2 ≤ a.natAbs / b.natAbs * b.natAbs := Nat.mul_le_mul_left _ h2
          _ ≤ a.natAbs := Nat.div_mul_le_self _ _
      omega
  · rw [if_neg c]; omega
theorem jn_bd {v a b : Int} (ha : -1000000 ≤ a ∧ a ≤ 1000000) (hb : -1000000 ≤ b ∧ b ≤ 1000000) : -1000000 ≤ jn v a b ∧ jn v a b ≤ 1000000 := by
  unfold jn
  have h1 := hld_rg (a + b)
  have h2 := hld_rg (a - b)
  have h3 := hld_rg (a * b)
  have h4 : -1000000 ≤ (if b = 0 then 0 else a.fdiv b) ∧ (if b = 0 then 0 else a.fdiv b) ≤ 1000000 := by
    split
    · omega
    · next h => exact fdiv_bd ha h
  repeat' split
  all_goals omega
theorem p3_worked {v a b : Int} (hv : 1 ≤ v ∧ v ≤ 11) (ha : -1000000 ≤ a ∧ a ≤ 1000000) (hb : -1000000 ≤ b ∧ b ≤ 1000000) (h01 : 10 ≤ v → (a = 0 ∨ a = 1) ∧ (b = 0 ∨ b = 1)) : F_X3_worked G (v + 3) a b V = some (V, jn v a b) := by
  have hm := mul_bd ha hb
  unfold F_X3_worked jn
  refine E_gd ⟨by omega, by omega⟩ ?_
  rcases (show v = 1 ∨ v = 2 ∨ v = 3 ∨ v = 4 ∨ v = 5 ∨ v = 6 ∨ v = 7 ∨ v = 8 ∨ v = 9 ∨ v = 10 ∨ v = 11 by omega) with rfl | rfl | rfl | rfl | rfl | rfl | rfl | rfl | rfl | rfl | rfl
  · exact E_gd ⟨by omega, by omega⟩ (E_gd ⟨by omega, by omega⟩ (E_bd (p3_held (by omega)) rfl))
  · exact E_gd ⟨by omega, by omega⟩ (E_gd ⟨by omega, by omega⟩ (E_bd (p3_held (by omega)) rfl))
  · exact E_gd ⟨by omega, by omega⟩ (E_gd ⟨by omega, by omega⟩ (E_bd (p3_held (by omega)) rfl))
  · refine E_gd ⟨by omega, by omega⟩ (E_if (fun h => ?_) (fun h => E_gd (by omega) (E_gd h ?_)))
    · exact E_so rfl (by rw [if_pos h]; rfl)
    · exact E_so rfl (by rw [if_neg h]; rfl)
  · exact E_gd ⟨by omega, by omega⟩ (E_gd ⟨by omega, by omega⟩ rfl)
  · exact E_gd ⟨by omega, by omega⟩ (E_gd ⟨by omega, by omega⟩ rfl)
  · refine E_gd ⟨by omega, by omega⟩ (E_gd ⟨by omega, by omega⟩ (E_if (fun h => E_so rfl ?_) (fun h => E_so rfl ?_)))
    · show 0 = if a < b then (1 : Int) else 0; rw [if_neg (by omega)]
    · show 1 = if a < b then (1 : Int) else 0; rw [if_pos (by omega)]
  · refine E_gd ⟨by omega, by omega⟩ (E_gd ⟨by omega, by omega⟩ (E_if (fun h => E_so rfl ?_) (fun h => E_so rfl ?_)))
    · show 0 = if b < a then (1 : Int) else 0; rw [if_neg (by omega)]
    · show 1 = if b < a then (1 : Int) else 0; rw [if_pos (by omega)]
  · refine E_gd ⟨by omega, by omega⟩ (E_gd ⟨by omega, by omega⟩ (E_if (fun h => E_so rfl ?_) (fun h => E_so rfl ?_)))
    · show 1 = if a = b then (1 : Int) else 0; rw [if_pos h]
    · show 0 = if a = b then (1 : Int) else 0; rw [if_neg h]
  · obtain ⟨p, q⟩ := h01 (by omega)
    exact E_gd ⟨by omega, by omega⟩ (E_so rfl (bnd01 a b p q))
  · obtain ⟨p, q⟩ := h01 (by omega)
    exact E_gd ⟨by omega, by omega⟩ (E_so rfl (bor01 a b p q))
theorem p3_known {fr : Nat} {a : Int} (hf : is7 G fr) (hz : rz G V fr) (hs : gI V fr 1 = 43) (ha : rg a) : F_X3_known G fr a V = some (V, if 0 ≤ a ∧ a < 10 then rc V fr (33 + a) else 0) := by
  unfold F_X3_known
  refine E_gd ha (E_if (fun h => E_so rfl (by rw [if_neg (by omega)])) (fun h => E_if (fun h2 => E_so rfl (by rw [if_neg (by omega)])) (fun h2 => ?_)))
  refine E_bd (p7_get hf hz (by omega)) (E_so rfl ?_)
  rw [if_pos (by omega), rget_in (by omega) (by omega)]
end
section
variable {G : mG} {V : mV} {f fr : Nat} {g : Nat → Int}
theorem v_get (hF : is3 G f) (hs : gI V (f + 3) 1 = 64) {t : Int} (h : 0 ≤ t ∧ t < 64) : F_X7_get G (f + 3) t (sF V (f + 4) g) = some (sF V (f + 4) g, g t.toNat) := by
  have hc := s3_1c hF
  rw [p7_get (s3_1s hF) ⟨by rw [gI_sF, hs]; omega, by rw [gI_sF, hs]; show (64 : Int) ≤ (qG G (f + 4) : Int); rw [hc]; decide⟩ (by omega)]
  rw [rget_in h.1 (by rw [gI_sF, hs]; exact h.2)]
  show some (_, gA (sF V (f + 4) g) (f + 4) t.toNat) = _
  rw [gA_sF, if_pos rfl]
theorem v_put (hF : is3 G f) (hs : gI V (f + 3) 1 = 64) {t x : Int} (h : 0 ≤ t ∧ t < 64) : F_X7_put G (f + 3) t x (sF V (f + 4) g) = some (sF V (f + 4) (uN g t.toNat x), 0) := by
  have hc := s3_1c hF
  rw [p7_put (s3_1s hF) ⟨by rw [gI_sF, hs]; omega, by rw [gI_sF, hs]; show (64 : Int) ≤ (qG G (f + 4) : Int); rw [hc]; decide⟩ (by omega)]
  unfold rput
  rw [if_pos ⟨h.1, by rw [gI_sF, hs]; exact h.2⟩]
  show some (sA (sF V (f + 4) g) (f + 4) t.toNat x, (0 : Int)) = _
  rw [sA_sF, sF_sF]
  refine E_so (sF_cg (fun b => ?_)) rfl
  unfold uN
  rw [gA_sF, if_pos rfl]
theorem v_J75 (hF : is3 G f) (hs : gI V (f + 3) 1 = 64) {t x k : Int} (h : 0 ≤ t ∧ t < 64) : F_X3_value_J75_4 G f fr t k t x (sF V (f + 4) g) = some (sF V (f + 4) (uN g t.toNat x), 0, (t, k + 1)) := by
  unfold F_X3_value_J75_4
  exact E_bd (v_put hF hs h) rfl
theorem est_rg {fa kn : Int → Int} {v : Int} {s s' : List Int} (h : est fa kn v s = some s') : 1 ≤ v ∧ v ≤ 10999 := by
  unfold est at h
  by_cases c1 : 1000 ≤ v ∧ v ≤ 10999
  · omega
  rw [if_neg c1] at h
  by_cases c2 : v = 60
  · omega
  rw [if_neg c2] at h
  by_cases c3 : 40 ≤ v ∧ v ≤ 49
  · omega
  rw [if_neg c3] at h
  by_cases c4 : v = 13
  · omega
  rw [if_neg c4] at h
  by_cases c5 : v = 12
  · omega
  rw [if_neg c5] at h
  by_cases c6 : 1 ≤ v ∧ v ≤ 11
  · omega
  rw [if_neg c6] at h
  cases h
theorem enc_rg {v : Int} (h : 1 ≤ v ∧ v ≤ 10999) : rg (encc v) := by
  unfold encc
  repeat' split
  all_goals exact ⟨by omega, by omega⟩
theorem v_step (hF : is3 G f) (hs : gI V (f + 3) 1 = 64) (hfw : ∀ j, rg (rc V fr j)) (hfr : is7 G fr) (hfz : gI V fr 1 = 43) (hfq : qG G (fr + 1) = 43) (hne : fr + 1 ≠ f + 4) {n : Nat} (hn : gI V (f + 1) 1 = (n : Int)) (hn2 : n ≤ 1600) {k : Nat} (hk : k < n) {v : Int} (hcell : gA V (f + 2) k = encc v) {s s' : List Int} (hp : skp g s)
    (he : est (fun k => rc V fr (wrd k)) (fun a => if 0 ≤ a ∧ a < 10 then rc V fr (33 + a) else 0) v s = some s') (hl : s.length ≤ 64) :
    ∃ g' : Nat → Int, skp g' s' ∧ s'.length ≤ 64 ∧ B_X3_value_4 G f fr ((s.length : Int) - 1) (k : Int) (sF V (f + 4) g) = some (sF V (f + 4) g', 0, ((s'.length : Int) - 1, ((k + 1 : Nat) : Int))) := by
  have hc1 := s3_0c hF
  have hU : gI (sF V (f + 4) g) = gI V := rfl
  have z1 : rz G (sF V (f + 4) g) (f + 1) := ⟨by rw [hU, hn]; omega, by rw [hU, hn]; show (n : Int) ≤ (qG G (f + 2) : Int); rw [hc1]; omega⟩
  have zf : rz G (sF V (f + 4) g) fr := ⟨by rw [hU, hfz]; omega, by rw [hU, hfz, hfq]; decide⟩
  have hget : F_X7_get G (f + 1) (k : Int) (sF V (f + 4) g) = some (sF V (f + 4) g, encc v) := by
    rw [p7_get (s3_0s hF) z1 ⟨by omega, by omega⟩, rget_in (by omega) (by rw [hU, hn]; omega)]
    refine E_so rfl ?_
    show gA (sF V (f + 4) g) (f + 2) ((k : Int)).toNat = _
    rw [gA_sF, if_neg (by omega)]
    exact hcell
  have hrg : rg (encc v) := enc_rg (est_rg he)
  have hfact : ∀ j, 0 ≤ j → j < 43 → F_X7_get G fr j (sF V (f + 4) g) = some (sF V (f + 4) g, rc V fr j) := by
    intro j h0 h1
    rw [p7_get hfr zf ⟨by omega, by omega⟩, rget_in h0 (by rw [hU, hfz]; exact h1)]
    refine E_so rfl ?_
    show gA (sF V (f + 4) g) (fr + 1) j.toNat = _
    rw [gA_sF, if_neg hne]; rfl
  have hkk : ((k : Int) + 1) = ((k + 1 : Nat) : Int) := by omega
  have push : ∀ x w st : Int, s.length < 64 → (encc v % 16 = st) → (st = 0 ∨ st = 1) → shr (encc v) 4 = w → (st = 0 → x = w) → (st = 1 → (0 ≤ w ∧ w < 43) ∧ x = rc V fr w) → s' = x :: s → ∃ g' : Nat → Int, skp g' s' ∧ s'.length ≤ 64 ∧ B_X3_value_4 G f fr ((s.length : Int) - 1) (k : Int) (sF V (f + 4) g) = some (sF V (f + 4) g', 0, ((s'.length : Int) - 1, ((k + 1 : Nat) : Int))) := by
    intro x w st hl e1 e2 e3 e4 e5 es
    subst es
    refine ⟨uN g s.length x, skp_push hp, by rw [List.length_cons]; omega, ?_⟩
    have fin : ∀ q, F_X3_value_J75_4 G f fr (((s.length : Int) - 1) + 1) (k : Int) (((s.length : Int) - 1) + 1) q (sF V (f + 4) g) = some (sF V (f + 4) (uN g s.length q), 0, (((s.length : Int) - 1) + 1, (k : Int) + 1)) := by
      intro q
      rw [v_J75 hF hs ⟨by omega, by omega⟩]
      rw [show (((s.length : Int) - 1) + 1).toNat = s.length by omega]
    have fin2 : (((s.length : Int) - 1) + 1, (k : Int) + 1) = (((x :: s).length : Int) - 1, ((k + 1 : Nat) : Int)) := by
      rw [hkk, List.length_cons]; congr 1; omega
    unfold B_X3_value_4
    refine E_bd p7_size (E_gd ⟨by omega, by omega⟩ (E_gd (by rw [hU, hn]; omega) (E_if (fun q => by rw [hU, hn] at q; omega) (fun _ => ?_))))
    refine E_bd hget (E_lt (E_bd hget (E_gd hrg (E_lt (E_gd ⟨by omega, by omega⟩ ?_)))))
    rcases e2 with rfl | rfl
    · rw [if_pos e1]
      unfold F_X3_value_J51_4
      refine E_lt (E_gd ⟨by omega, by omega⟩ ?_)
      rw [if_pos e1, e3, fin, ← e4 rfl, fin2]
    · rw [if_neg (by omega), if_pos e1]
      unfold F_X3_value_J51_4
      refine E_lt (E_gd ⟨by omega, by omega⟩ ?_)
      rw [if_neg (by omega), e3]
      refine E_bd (hfact w (e5 rfl).1.1 (e5 rfl).1.2) ?_
      rw [fin, ← (e5 rfl).2, fin2]
  unfold est at he
  by_cases c1 : 1000 ≤ v ∧ v ≤ 10999
  · rw [if_pos c1] at he
    by_cases c2 : s.length < 64
    · rw [if_pos c2] at he
      cases he
      refine push (v - 1000) (v - 1000) 0 c2 ?_ (Or.inl rfl) ?_ (fun _ => rfl) (fun q => by omega) rfl
      · unfold encc; rw [if_pos c1.1]; omega
      · rw [shr4]; unfold encc; rw [if_pos c1.1]; omega
    · rw [if_neg c2] at he; cases he
  rw [if_neg c1] at he
  by_cases c3 : v = 60
  · rw [if_pos c3] at he
    subst c3
    cases s with
    | nil => cases he
    | cons a r =>
      simp only at he
      by_cases c4 : -1000000 ≤ a ∧ a ≤ 1000000
      · rw [if_pos c4] at he
        cases he
        rw [List.length_cons] at hl
        refine ⟨uN g r.length (if 0 ≤ a ∧ a < 10 then rc V fr (33 + a) else 0), ⟨by unfold uN; rw [if_pos rfl], skp_cg (fun j hj => by unfold uN; rw [if_neg (by omega)]) hp.2⟩, by rw [List.length_cons]; omega, ?_⟩
        · have e1 : (((a :: r).length : Int) - 1) = (r.length : Int) := by rw [List.length_cons]; omega
          rw [e1]
          unfold B_X3_value_4
          refine E_bd p7_size (E_gd ⟨by omega, by omega⟩ (E_gd (by rw [hU, hn]; omega) (E_if (fun q => by rw [hU, hn] at q; omega) (fun _ => ?_))))
          refine E_bd hget (E_lt (E_bd hget (E_gd hrg (E_lt (E_gd ⟨by omega, by omega⟩ ?_)))))
          rw [if_neg (by decide), if_neg (by decide), if_pos (by decide)]
          refine E_bd (v_get hF hs ⟨by omega, by omega⟩) ?_
          rw [show ((r.length : Int)).toNat = r.length by omega, hp.1]
          refine E_bd (p3_known hfr zf hfz ⟨by omega, by omega⟩) ?_
          refine E_bd (v_put hF hs ⟨by omega, by omega⟩) (E_lt ?_)
          refine E_so ?_ ?_
          · rw [show ((r.length : Int)).toNat = r.length by omega]
            refine sF_cg (fun b => ?_)
            unfold uN
            split
            · split
              · next h => show gA (sF V (f + 4) g) (fr + 1) _ = _; rw [gA_sF, if_neg hne]; rfl
              · rfl
            · rfl
          · rw [hkk, List.length_cons]; congr 2; omega
      · rw [if_neg c4] at he; cases he
  rw [if_neg c3] at he
  by_cases c5 : 40 ≤ v ∧ v ≤ 49
  · rw [if_pos c5] at he
    by_cases c2 : s.length < 64
    · rw [if_pos c2] at he
      cases he
      have hwd : ∀ q : Int, 0 ≤ q → q ≤ 9 → 0 ≤ wrd q ∧ wrd q < 43 := by intro q _ _; unfold wrd; repeat' split; all_goals omega
      refine push (rc V fr (wrd (v - 40))) (wrd (v - 40)) 1 c2 ?_ (Or.inr rfl) ?_ (fun q => by omega) (fun _ => ⟨hwd _ (by omega) (by omega), rfl⟩) rfl
      · rcases (show v = 40 ∨ v = 41 ∨ v = 42 ∨ v = 43 ∨ v = 44 ∨ v = 45 ∨ v = 46 ∨ v = 47 ∨ v = 48 ∨ v = 49 by omega) with rfl | rfl | rfl | rfl | rfl | rfl | rfl | rfl | rfl | rfl <;> decide
      · rcases (show v = 40 ∨ v = 41 ∨ v = 42 ∨ v = 43 ∨ v = 44 ∨ v = 45 ∨ v = 46 ∨ v = 47 ∨ v = 48 ∨ v = 49 by omega) with rfl | rfl | rfl | rfl | rfl | rfl | rfl | rfl | rfl | rfl <;> decide
    · rw [if_neg c2] at he; cases he
  rw [if_neg c5] at he
  by_cases c6 : v = 13
  · rw [if_pos c6] at he
    subst c6
    by_cases c2 : s.length < 64
    · rw [if_pos c2] at he
      cases he
      exact push 1 1 0 c2 (by decide) (Or.inl rfl) (by decide) (fun _ => rfl) (fun q => by omega) rfl
    · rw [if_neg c2] at he; cases he
  rw [if_neg c6] at he
  by_cases c7 : v = 12
  · rw [if_pos c7] at he
    subst c7
    cases s with
    | nil => cases he
    | cons a r =>
      simp only at he
      by_cases c4 : a = 0 ∨ a = 1
      · rw [if_pos c4] at he
        cases he
        rw [List.length_cons] at hl
        refine ⟨uN g r.length (1 - a), ⟨by unfold uN; rw [if_pos rfl], skp_cg (fun j hj => by unfold uN; rw [if_neg (by omega)]) hp.2⟩, by rw [List.length_cons]; omega, ?_⟩
        have e1 : (((a :: r).length : Int) - 1) = (r.length : Int) := by rw [List.length_cons]; omega
        rw [e1]
        unfold B_X3_value_4
        refine E_bd p7_size (E_gd ⟨by omega, by omega⟩ (E_gd (by rw [hU, hn]; omega) (E_if (fun q => by rw [hU, hn] at q; omega) (fun _ => ?_))))
        refine E_bd hget (E_lt (E_bd hget (E_gd hrg (E_lt (E_gd ⟨by omega, by omega⟩ ?_)))))
        rw [if_neg (by decide), if_neg (by decide), if_neg (by decide), if_pos (by decide)]
        refine E_bd (v_get hF hs ⟨by omega, by omega⟩) ?_
        rw [show ((r.length : Int)).toNat = r.length by omega, hp.1]
        refine E_bd (v_put hF hs ⟨by omega, by omega⟩) (E_lt ?_)
        refine E_so ?_ ?_
        · rw [show ((r.length : Int)).toNat = r.length by omega]
        · rw [hkk, List.length_cons]; congr 2; omega
      · rw [if_neg c4] at he; cases he
  rw [if_neg c7] at he
  by_cases c8 : 1 ≤ v ∧ v ≤ 11
  · rw [if_pos c8] at he
    have ev : encc v = v + 3 := by unfold encc; rw [if_neg (by omega), if_neg (by omega), if_neg (by omega), if_neg (by omega), if_neg (by omega), if_neg (by omega), if_neg (by omega), if_neg (by omega), if_neg (by omega), if_neg (by omega), if_neg (by omega), if_neg (by omega), if_neg (by omega), if_neg (by omega)]
    match s, hp, hl, he with
    | [], _, _, he => cases he
    | [_], _, _, he => cases he
    | b :: a :: r, hp, hl, he =>
      simp only at he
      by_cases c4 : (-1000000 ≤ a ∧ a ≤ 1000000) ∧ (-1000000 ≤ b ∧ b ≤ 1000000) ∧ (10 ≤ v → (a = 0 ∨ a = 1) ∧ (b = 0 ∨ b = 1))
      · rw [if_pos c4] at he
        cases he
        obtain ⟨ca, cb2, c01⟩ := c4
        have hj := jn_bd (v := v) ca cb2
        rw [List.length_cons, List.length_cons] at hl
        refine ⟨uN g r.length (jn v a b), ⟨by unfold uN; rw [if_pos rfl], skp_cg (fun j hj => by unfold uN; rw [if_neg (by omega)]) hp.2.2⟩, by rw [List.length_cons]; omega, ?_⟩
        have e1 : (((b :: a :: r).length : Int) - 1) = (r.length : Int) + 1 := by rw [List.length_cons, List.length_cons]; omega
        rw [e1]
        unfold B_X3_value_4
        refine E_bd p7_size (E_gd ⟨by omega, by omega⟩ (E_gd (by rw [hU, hn]; omega) (E_if (fun q => by rw [hU, hn] at q; omega) (fun _ => ?_))))
        refine E_bd hget (E_lt (E_bd hget (E_gd hrg (E_lt (E_gd ⟨by omega, by omega⟩ ?_)))))
        rw [ev, show (v + 3) % 16 = v + 3 by omega, if_neg (by omega), if_neg (by omega), if_neg (by omega), if_neg (by omega)]
        refine E_lt ?_
        rw [show (r.length : Int) + 1 + (-1) = (r.length : Int) by omega]
        refine E_bd (v_get hF hs ⟨by omega, by omega⟩) ?_
        refine E_bd (v_get hF hs ⟨by omega, by omega⟩) ?_
        rw [show ((r.length : Int)).toNat = r.length by omega, hp.2.1, show ((r.length : Int) + 1).toNat = (a :: r).length by rw [List.length_cons]; omega, hp.1]
        refine E_bd (p3_worked c8 ca cb2 c01) ?_
        refine E_bd (v_put hF hs ⟨by omega, by omega⟩) (E_lt ?_)
        refine E_so ?_ ?_
        · rw [show ((r.length : Int)).toNat = r.length by omega]
        · rw [hkk, List.length_cons]; congr 2; omega
      · rw [if_neg c4] at he; cases he
  · rw [if_neg c8] at he; cases he
/-- codes in cells from k on -/
def cls (c : Nat → Int) : Nat → List Int → Prop
  | _, [] => True
  | k, v :: r => c k = encc v ∧ cls c (k + 1) r
theorem v_loop (hF : is3 G f) (hs : gI V (f + 3) 1 = 64) (hfw : ∀ j, rg (rc V fr j)) (hfr : is7 G fr) (hfz : gI V fr 1 = 43) (hfq : qG G (fr + 1) = 43) (hne : fr + 1 ≠ f + 4) {n : Nat} (hn : gI V (f + 1) 1 = (n : Int)) (hn2 : n ≤ 1600) :
    ∀ (cs s : List Int) (k fu : Nat) (g : Nat → Int) (r : List Int), k + cs.length = n → cls (gA V (f + 2)) k cs → skp g s → s.length ≤ 64 → evs (fun k => rc V fr (wrd k)) (fun a => if 0 ≤ a ∧ a < 10 then rc V fr (33 + a) else 0) cs s = some r → cs.length < fu →
    ∃ g' : Nat → Int, skp g' r ∧ r.length ≤ 64 ∧ lp (fun (s : Int × Int) V => B_X3_value_4 G f fr s.1 s.2 V) fu ((s.length : Int) - 1, (k : Int)) (sF V (f + 4) g) = some (sF V (f + 4) g', 1, ((r.length : Int) - 1, (n : Int))) := by
  intro cs
  induction cs with
  | nil =>
    intro s k fu g r hk hc hp hl he hf
    obtain ⟨fu, rfl⟩ : ∃ q, fu = q + 1 := ⟨fu - 1, by omega⟩
    have hkn : k = n := by simpa using hk
    subst hkn
    cases he
    refine ⟨g, hp, hl, ?_⟩
    unfold lp
    rw [show B_X3_value_4 G f fr ((s.length : Int) - 1) (k : Int) (sF V (f + 4) g) = some (sF V (f + 4) g, 1, ((s.length : Int) - 1, (k : Int))) by
      unfold B_X3_value_4
      have hU : gI (sF V (f + 4) g) = gI V := rfl
      refine E_bd p7_size (E_gd ⟨by omega, by omega⟩ (E_gd (by rw [hU, hn]; omega) (E_if (fun q => rfl) (fun q => by rw [hU, hn] at q; omega))))]
    rfl
  | cons v cs ih =>
    intro s k fu g r hk hc hp hl he hf
    obtain ⟨fu, rfl⟩ : ∃ q, fu = q + 1 := ⟨fu - 1, by omega⟩
    rw [List.length_cons] at hk hf
    unfold evs at he
    cases hs1 : est (fun k => rc V fr (wrd k)) (fun a => if 0 ≤ a ∧ a < 10 then rc V fr (33 + a) else 0) v s with
    | none => rw [hs1] at he; cases he
    | some s1 =>
      rw [hs1] at he
      obtain ⟨g1, a2, a3, a4⟩ := v_step hF hs hfw hfr hfz hfq hne hn hn2 (show k < n by omega) hc.1 hp hs1 hl
      obtain ⟨g2, b2, b3, b4⟩ := ih s1 (k + 1) fu g1 r (by omega) hc.2 a2 a3 he (by omega)
      refine ⟨g2, b2, b3, ?_⟩
      unfold lp
      simp only
      rw [a4]
      exact b4
theorem p3_value (hF : is3 G f) (hs : gI V (f + 3) 1 = 64) (hfw : ∀ j, rg (rc V fr j)) (hfr : is7 G fr) (hfz : gI V fr 1 = 43) (hfq : qG G (fr + 1) = 43) (hne : fr + 1 ≠ f + 4) {cs : List Int} (hn : gI V (f + 1) 1 = (cs.length : Int)) (hn2 : cs.length ≤ 1600) (hc : cls (gA V (f + 2)) 0 cs) {x : Int} (he : evs (fun k => rc V fr (wrd k)) (fun a => if 0 ≤ a ∧ a < 10 then rc V fr (33 + a) else 0) cs [] = some [x]) :
    ∃ g' : Nat → Int, F_X3_value G f fr V = some (sF V (f + 4) g', x) := by
  have e0 : sF V (f + 4) (gA V (f + 4)) = V := sF_id (fun _ => rfl)
  obtain ⟨g, a2, a3, a4⟩ := v_loop hF hs hfw hfr hfz hfq hne hn hn2 cs [] 0 FU (gA V (f + 4)) [x] (by omega) hc trivial (by decide) he (by unfold FU; omega)
  refine ⟨g, ?_⟩
  unfold F_X3_value
  rw [e0] at a4
  refine E_bd a4 ?_
  refine E_bd (v_get hF hs (t := 0) ⟨by decide, by decide⟩) (E_so rfl ?_)
  exact a2.1
end

/-! a text and its tokens, by places -/
/-- bytes, how many -/
abbrev mT2 : Type := (Nat → Int) × Nat
def isL (c : Int) : Bool := decide (97 ≤ c ∧ c ≤ 122)
def isD (c : Int) : Bool := decide (48 ≤ c ∧ c ≤ 57)
def isB (c : Int) : Bool := decide (c = 32 ∨ c = 10)
theorem isL_i {c : Int} : isL c = true ↔ 97 ≤ c ∧ c ≤ 122 := by unfold isL; exact decide_eq_true_iff
theorem isD_i {c : Int} : isD c = true ↔ 48 ≤ c ∧ c ≤ 57 := by unfold isD; exact decide_eq_true_iff
theorem isB_i {c : Int} : isB c = true ↔ c = 32 ∨ c = 10 := by unfold isB; exact decide_eq_true_iff
def ren (A : Int → Bool) (t : Nat → Int) : Nat → Nat → Nat
  | 0, p => p
  | k + 1, p => if A (t p) = true then ren A t k (p + 1) else p
/-- where the run from p on ends -/
def ew (A : Int → Bool) (T : mT2) (p : Nat) : Nat := ren A T.1 (T.2 - p) p
theorem ew_out {A : Int → Bool} {T : mT2} {p : Nat} (h : T.2 ≤ p) : ew A T p = p := by
  unfold ew; rw [show T.2 - p = 0 by omega]; rfl
theorem ew_stop {A : Int → Bool} {T : mT2} {p : Nat} (h : ¬ A (T.1 p) = true) : ew A T p = p := by
  unfold ew
  cases T.2 - p with
  | zero => rfl
  | succ k => unfold ren; rw [if_neg h]
theorem ew_step {A : Int → Bool} {T : mT2} {p : Nat} (hp : p < T.2) (h : A (T.1 p) = true) : ew A T p = ew A T (p + 1) := by
  unfold ew
  rw [show T.2 - p = (T.2 - (p + 1)) + 1 by omega]
  show (if A (T.1 p) = true then _ else _) = _
  rw [if_pos h]
theorem ren_spec {A : Int → Bool} {t : Nat → Int} : ∀ (k p : Nat), p ≤ ren A t k p ∧ ren A t k p ≤ p + k ∧ (∀ j, p ≤ j → j < ren A t k p → A (t j) = true) ∧ (ren A t k p < p + k → ¬ A (t (ren A t k p)) = true) := by
  intro k
  induction k with
  | zero => intro p; exact ⟨Nat.le_refl _, Nat.le_refl _, fun j a b => by (have b' : j < p := b; omega), fun h => by (have h' : p < p + 0 := h; omega)⟩
  | succ k ih =>
    intro p
    unfold ren
    by_cases h : A (t p) = true
    · rw [if_pos h]
      obtain ⟨a, b, c, d⟩ := ih (p + 1)
      refine ⟨by omega, by omega, fun j x y => ?_, fun q => d (by omega)⟩
      by_cases e : j = p
      · rw [e]; exact h
      · exact c j (by omega) y
    · rw [if_neg h]
      exact ⟨Nat.le_refl _, by omega, fun j a b => by omega, fun _ => h⟩
theorem ew_spec {A : Int → Bool} {T : mT2} {p : Nat} (hp : p ≤ T.2) : p ≤ ew A T p ∧ ew A T p ≤ T.2 ∧ (∀ j, p ≤ j → j < ew A T p → A (T.1 j) = true) ∧ (ew A T p < T.2 → ¬ A (T.1 (ew A T p)) = true) := by
  have := ren_spec (A := A) (t := T.1) (T.2 - p) p
  unfold ew
  exact ⟨this.1, by omega, this.2.2.1, fun q => this.2.2.2 (by omega)⟩
/-- the next one behind blanks -/
def bsk (T : mT2) (p : Nat) : Nat := ew isB T p
/-- 0 a word, 1 a number, 2 a sign, 3 the end, 4 one that sticks -/
def kdT (T : mT2) (p : Nat) : Nat := if T.2 ≤ p then 3 else if isL (T.1 p) = true then (if p ≠ 0 ∧ isD (T.1 (p - 1)) = true then 4 else 0) else if isD (T.1 p) = true then (if p ≠ 0 ∧ isL (T.1 (p - 1)) = true then 4 else 1) else 2
def teT (T : mT2) (p : Nat) : Nat := if T.2 ≤ p then p else if isL (T.1 p) = true then ew isL T p else if isD (T.1 p) = true then ew isD T p else p + 1
def lnT (T : mT2) (p : Nat) : Nat := teT T p - p
def nxT (T : mT2) (p : Nat) : Nat := bsk T (teT T p)
/-- k letters from p on -/
def ltr (T : mT2) (p : Nat) : Nat → List Int
  | 0 => []
  | k + 1 => ltr T p k ++ [T.1 (p + k) - 96]
def dig (T : mT2) (p : Nat) : Nat → Int
  | 0 => 0
  | k + 1 => 10 * dig T p k + (T.1 (p + k) - 48)
def vlT (T : mT2) (p : Nat) : Int := if T.2 ≤ p then 0 else if isL (T.1 p) = true then nm5 (ltr T p (min (lnT T p) 6)) else if isD (T.1 p) = true then dig T p (min (lnT T p) 4) else T.1 p
/-- the words, by letters -/
def wl : List (List Int) := [[16, 5, 18, 19, 15, 14], [23, 1, 18, 4], [20, 1, 19, 11], [8, 1, 18, 4], [4, 15, 5, 19], [1, 20], [3, 15, 22, 5, 18, 19], [11, 14, 15, 23, 19], [12, 5, 1, 18, 14], [6, 15, 18, 7, 5, 20], [3, 1, 14], [14, 15, 20, 9, 3, 5], [3, 12, 15, 3, 11], [4, 1, 25], [16, 15, 9, 14, 20, 19], [19, 1, 13, 5], [15, 23, 14], [20, 8, 5, 9, 18, 19], [15, 18], [1, 14, 4], [14, 15, 20], [1, 12, 12], [13, 9, 14], [13, 1, 24], [6, 9, 18, 19, 20], [12, 1, 19, 20], [15, 6, 20, 5, 14], [20, 15, 20, 1, 12], [13, 15, 19, 20], [12, 5, 1, 19, 20], [8, 15, 21, 18], [12, 9, 6, 5], [4, 18, 9, 5, 19]]
/-- their numbers -/
def w33 : List Int := [486131888, 149559, 379956, 149544, 628196, 641, 656595427, 20692427, 15271084, 676579814, 14371, 171233774, 11648387, 25636, 658974192, 177203, 15087, 656708884, 591, 4545, 20974, 12673, 14637, 24621, 21612838, 674860, 14864591, 12636660, 675309, 21595308, 611816, 170284, 20096580]
theorem w33_is : w33 = wl.map nm5 := by decide +kernel
def wf33 (k : Int) : Int := w33.getD k.toNat 0
def nmT (T : mT2) (p : Nat) : Int := if kdT T p = 0 ∧ lnT T p ≤ 6 then fi wf33 (vlT T p) 0 33 else -1
/-- the places of the tokens -/
def pT (T : mT2) : Nat → Nat
  | 0 => bsk T 0
  | i + 1 => nxT T (pT T i)
/-- which word asks which part: clock, day, points, same, hard, own, theirs, hour, life, dries -/
def wfa (w : Int) : Int := if w = 12 then 0 else if w = 13 then 1 else if w = 14 then 2 else if w = 15 then 3 else if w = 3 then 4 else if w = 16 then 5 else if w = 17 then 6 else if w = 30 then 7 else if w = 31 then 8 else if w = 32 then 9 else -1
/-- the parts that a text of a kind may ask: 0 learn and forget, 1 can, 2 notice, 3 a question -/
def alS (md : Nat) : List Int := if md = 0 then [0, 1, 2, 3] else if md = 1 then [0, 1, 2, 4, 5] else if md = 2 then [0, 1, 2, 3, 6] else [0, 1, 7, 8, 9]
/-- a sign's class, a word's class, a token's class, for sums and tests -/
def sgc (b : Int) : Nat := if b = 40 then 2 else if b = 41 then 7 else if b = 44 then 8 else if b = 42 then 9 else if b = 47 then 10 else if b = 43 then 11 else if b = 45 then 12 else if b = 60 then 13 else if b = 62 then 14 else if b = 61 then 15 else if b = 91 then 16 else if b = 93 then 17 else 0
def wdc (md : Nat) (w : Int) : Nat := if w = 22 then 3 else if w = 23 then 4 else if w = 20 then 18 else if w = 21 then 19 else if w = 19 then 20 else if w = 18 then 21 else if w = 14 ∧ md = 3 then 5 else if wfa w ∈ alS md then 6 else 0
def clT (md : Nat) (T : mT2) (p : Nat) : Nat := if kdT T p = 1 then 1 else if kdT T p = 2 then sgc (T.1 p) else wdc md (nmT T p)
def vaT (T : mT2) (p : Nat) : Int := if kdT T p = 1 then vlT T p else wfa (nmT T p)
def kT (md : Nat) (T : mT2) : mK := fun p => (clT md T p, vaT T p, lnT T p, nxT T p)
section
variable {T : mT2} {p : Nat}
theorem bsk_spec (hp : p ≤ T.2) : p ≤ bsk T p ∧ bsk T p ≤ T.2 ∧ (∀ j, p ≤ j → j < bsk T p → isB (T.1 j) = true) ∧ (bsk T p < T.2 → ¬ isB (T.1 (bsk T p)) = true) := ew_spec hp
theorem bsk_id (hp : p ≤ T.2) : bsk T (bsk T p) = bsk T p := by
  obtain ⟨a, b, c, d⟩ := bsk_spec hp
  by_cases h : bsk T p < T.2
  · exact ew_stop (d h)
  · exact ew_out (by omega)
theorem teT_gt (hp : p < T.2) : p < teT T p ∧ teT T p ≤ T.2 := by
  unfold teT
  rw [if_neg (by omega)]
  split
  · next h =>
    rw [ew_step hp h]
    have := ew_spec (A := isL) (T := T) (p := p + 1) (by omega)
    omega
  · split
    · next h =>
      rw [ew_step hp h]
      have := ew_spec (A := isD) (T := T) (p := p + 1) (by omega)
      omega
    · omega
theorem nxT_gt (hp : p < T.2) : p < nxT T p ∧ nxT T p ≤ T.2 := by
  obtain ⟨a, b⟩ := teT_gt hp
  have := bsk_spec (T := T) b
  unfold nxT
  omega
theorem nxT_out (hp : T.2 ≤ p) : nxT T p = p := by
  unfold nxT teT bsk
  rw [if_pos hp, ew_out hp]
theorem kd_out : kdT T p = 3 ↔ T.2 ≤ p := by
  unfold kdT
  constructor
  · intro h
    by_cases q : T.2 ≤ p
    · exact q
    · rw [if_neg q] at h
      exfalso
      revert h
      (repeat' split) <;> decide
  · intro h; rw [if_pos h]
theorem kd_0 (h : kdT T p = 0) : p < T.2 ∧ isL (T.1 p) = true ∧ ¬ (p ≠ 0 ∧ isD (T.1 (p - 1)) = true) := by
  unfold kdT at h
  by_cases q : T.2 ≤ p
  · rw [if_pos q] at h; cases h
  rw [if_neg q] at h
  by_cases l : isL (T.1 p) = true
  · rw [if_pos l] at h
    by_cases s : p ≠ 0 ∧ isD (T.1 (p - 1)) = true
    · rw [if_pos s] at h; cases h
    · exact ⟨by omega, l, s⟩
  · rw [if_neg l] at h
    exfalso
    revert h
    (repeat' split) <;> decide
theorem kd_1 (h : kdT T p = 1) : p < T.2 ∧ ¬ isL (T.1 p) = true ∧ isD (T.1 p) = true ∧ ¬ (p ≠ 0 ∧ isL (T.1 (p - 1)) = true) := by
  unfold kdT at h
  by_cases q : T.2 ≤ p
  · rw [if_pos q] at h; cases h
  rw [if_neg q] at h
  by_cases l : isL (T.1 p) = true
  · rw [if_pos l] at h
    exfalso
    revert h
    split <;> decide
  · rw [if_neg l] at h
    by_cases d : isD (T.1 p) = true
    · rw [if_pos d] at h
      by_cases s : p ≠ 0 ∧ isL (T.1 (p - 1)) = true
      · rw [if_pos s] at h; cases h
      · exact ⟨by omega, l, d, s⟩
    · rw [if_neg d] at h; cases h
theorem kd_2 : kdT T p = 2 ↔ p < T.2 ∧ ¬ isL (T.1 p) = true ∧ ¬ isD (T.1 p) = true := by
  unfold kdT
  constructor
  · intro h
    by_cases q : T.2 ≤ p
    · rw [if_pos q] at h; cases h
    rw [if_neg q] at h
    by_cases l : isL (T.1 p) = true
    · rw [if_pos l] at h
      exfalso
      revert h
      split <;> decide
    · rw [if_neg l] at h
      by_cases d : isD (T.1 p) = true
      · rw [if_pos d] at h
        exfalso
        revert h
        split <;> decide
      · exact ⟨by omega, l, d⟩
  · rintro ⟨a, b, c⟩
    rw [if_neg (by omega), if_neg b, if_neg c]
theorem vl_2 (h : kdT T p = 2) : vlT T p = T.1 p := by
  obtain ⟨a, b, c⟩ := kd_2.mp h
  unfold vlT
  rw [if_neg (by omega), if_neg b, if_neg c]
theorem nm_rg : nmT T p = -1 ∨ (0 ≤ nmT T p ∧ nmT T p < 33 ∧ kdT T p = 0) := by
  unfold nmT
  split
  · next h =>
    rcases fi_rg wf33 (vlT T p) 33 0 with ⟨a, -⟩ | ⟨a, b, -⟩
    · exact Or.inl a
    · exact Or.inr ⟨a, by omega, h.1⟩
  · exact Or.inl rfl
theorem nm_n (h : kdT T p ≠ 0) : nmT T p = -1 := by
  rcases nm_rg (T := T) (p := p) with a | ⟨-, -, a⟩
  · exact a
  · exact absurd a h
theorem sgc_all (b : Int) : (b = 40 ∧ sgc b = 2) ∨ (b = 41 ∧ sgc b = 7) ∨ (b = 44 ∧ sgc b = 8) ∨ (b = 42 ∧ sgc b = 9) ∨ (b = 47 ∧ sgc b = 10) ∨ (b = 43 ∧ sgc b = 11) ∨ (b = 45 ∧ sgc b = 12) ∨ (b = 60 ∧ sgc b = 13) ∨ (b = 62 ∧ sgc b = 14) ∨ (b = 61 ∧ sgc b = 15) ∨ (b = 91 ∧ sgc b = 16) ∨ (b = 93 ∧ sgc b = 17) ∨ ((b ≠ 40 ∧ b ≠ 41 ∧ b ≠ 44 ∧ b ≠ 42 ∧ b ≠ 47 ∧ b ≠ 43 ∧ b ≠ 45 ∧ b ≠ 60 ∧ b ≠ 62 ∧ b ≠ 61 ∧ b ≠ 91 ∧ b ≠ 93) ∧ sgc b = 0) := by
  unfold sgc
  by_cases h0 : b = 40
  · exact (Or.inl ⟨h0, if_pos h0⟩)
  rw [if_neg h0]
  by_cases h1 : b = 41
  · exact (Or.inr (Or.inl ⟨h1, if_pos h1⟩))
  rw [if_neg h1]
  by_cases h2 : b = 44
  · exact (Or.inr (Or.inr (Or.inl ⟨h2, if_pos h2⟩)))
  rw [if_neg h2]
  by_cases h3 : b = 42
  · exact (Or.inr (Or.inr (Or.inr (Or.inl ⟨h3, if_pos h3⟩))))
  rw [if_neg h3]
  by_cases h4 : b = 47
  · exact (Or.inr (Or.inr (Or.inr (Or.inr (Or.inl ⟨h4, if_pos h4⟩)))))
  rw [if_neg h4]
  by_cases h5 : b = 43
  · exact (Or.inr (Or.inr (Or.inr (Or.inr (Or.inr (Or.inl ⟨h5, if_pos h5⟩))))))
  rw [if_neg h5]
  by_cases h6 : b = 45
  · exact (Or.inr (Or.inr (Or.inr (Or.inr (Or.inr (Or.inr (Or.inl ⟨h6, if_pos h6⟩)))))))
  rw [if_neg h6]
  by_cases h7 : b = 60
  · exact (Or.inr (Or.inr (Or.inr (Or.inr (Or.inr (Or.inr (Or.inr (Or.inl ⟨h7, if_pos h7⟩))))))))
  rw [if_neg h7]
  by_cases h8 : b = 62
  · exact (Or.inr (Or.inr (Or.inr (Or.inr (Or.inr (Or.inr (Or.inr (Or.inr (Or.inl ⟨h8, if_pos h8⟩)))))))))
  rw [if_neg h8]
  by_cases h9 : b = 61
  · exact (Or.inr (Or.inr (Or.inr (Or.inr (Or.inr (Or.inr (Or.inr (Or.inr (Or.inr (Or.inl ⟨h9, if_pos h9⟩))))))))))
  rw [if_neg h9]
  by_cases h10 : b = 91
  · exact (Or.inr (Or.inr (Or.inr (Or.inr (Or.inr (Or.inr (Or.inr (Or.inr (Or.inr (Or.inr (Or.inl ⟨h10, if_pos h10⟩)))))))))))
  rw [if_neg h10]
  by_cases h11 : b = 93
  · exact (Or.inr (Or.inr (Or.inr (Or.inr (Or.inr (Or.inr (Or.inr (Or.inr (Or.inr (Or.inr (Or.inr (Or.inl ⟨h11, if_pos h11⟩))))))))))))
  rw [if_neg h11]
  exact (Or.inr (Or.inr (Or.inr (Or.inr (Or.inr (Or.inr (Or.inr (Or.inr (Or.inr (Or.inr (Or.inr (Or.inr ⟨⟨h0, h1, h2, h3, h4, h5, h6, h7, h8, h9, h10, h11⟩, rfl⟩))))))))))))
theorem wdc_all (md : Nat) (w : Int) : (w = 22 ∧ wdc md w = 3) ∨ (w = 23 ∧ wdc md w = 4) ∨ (w = 20 ∧ wdc md w = 18) ∨ (w = 21 ∧ wdc md w = 19) ∨ (w = 19 ∧ wdc md w = 20) ∨ (w = 18 ∧ wdc md w = 21) ∨ ((w ≠ 22 ∧ w ≠ 23 ∧ w ≠ 20 ∧ w ≠ 21 ∧ w ≠ 19 ∧ w ≠ 18) ∧ ((w = 14 ∧ md = 3 ∧ wdc md w = 5) ∨ (¬ (w = 14 ∧ md = 3) ∧ (wdc md w = 6 ∨ wdc md w = 0)))) := by
  unfold wdc
  by_cases h0 : w = 22
  · exact (Or.inl ⟨h0, if_pos h0⟩)
  rw [if_neg h0]
  by_cases h1 : w = 23
  · exact (Or.inr (Or.inl ⟨h1, if_pos h1⟩))
  rw [if_neg h1]
  by_cases h2 : w = 20
  · exact (Or.inr (Or.inr (Or.inl ⟨h2, if_pos h2⟩)))
  rw [if_neg h2]
  by_cases h3 : w = 21
  · exact (Or.inr (Or.inr (Or.inr (Or.inl ⟨h3, if_pos h3⟩))))
  rw [if_neg h3]
  by_cases h4 : w = 19
  · exact (Or.inr (Or.inr (Or.inr (Or.inr (Or.inl ⟨h4, if_pos h4⟩)))))
  rw [if_neg h4]
  by_cases h5 : w = 18
  · exact (Or.inr (Or.inr (Or.inr (Or.inr (Or.inr (Or.inl ⟨h5, if_pos h5⟩))))))
  rw [if_neg h5]
  refine (Or.inr (Or.inr (Or.inr (Or.inr (Or.inr (Or.inr ⟨⟨h0, h1, h2, h3, h4, h5⟩, ?_⟩))))))
  by_cases h : w = 14 ∧ md = 3
  · exact Or.inl ⟨h.1, h.2, if_pos h⟩
  · rw [if_neg h]
    refine Or.inr ⟨h, ?_⟩
    by_cases a : wfa w ∈ alS md
    · exact Or.inl (if_pos a)
    · exact Or.inr (if_neg a)
theorem sgc_v (b : Int) : sgc b = 0 ∨ sgc b = 2 ∨ (7 ≤ sgc b ∧ sgc b ≤ 17) := by
  have := sgc_all b
  omega
theorem wdc_v (md : Nat) (w : Int) : wdc md w = 0 ∨ (3 ≤ wdc md w ∧ wdc md w ≤ 6) ∨ (18 ≤ wdc md w ∧ wdc md w ≤ 21) := by
  have := wdc_all md w
  omega
theorem al_ne {md : Nat} : (-1 : Int) ∉ alS md := by
  unfold alS
  (repeat' split) <;> decide
theorem wdc_n {md : Nat} : wdc md (-1) = 0 := by
  unfold wdc
  rw [if_neg (by decide), if_neg (by decide), if_neg (by decide), if_neg (by decide), if_neg (by decide), if_neg (by decide), if_neg (by omega), if_neg]
  show (-1 : Int) ∉ alS md
  exact al_ne
theorem cl_d1 {md : Nat} (h : kdT T p = 1) : clT md T p = 1 := by unfold clT; rw [if_pos h]
theorem cl_d2 {md : Nat} (h : kdT T p = 2) : clT md T p = sgc (T.1 p) := by unfold clT; rw [if_neg (by omega), if_pos h]
theorem cl_d0 {md : Nat} (h1 : kdT T p ≠ 1) (h2 : kdT T p ≠ 2) : clT md T p = wdc md (nmT T p) := by unfold clT; rw [if_neg h1, if_neg h2]
theorem clT_lt {md : Nat} (h : clT md T p ≠ 0) : p < T.2 := by
  by_cases q : p < T.2
  · exact q
  · exfalso
    have k3 : kdT T p = 3 := kd_out.mpr (by omega)
    apply h
    rw [cl_d0 (by omega) (by omega), nm_n (by omega), wdc_n]
theorem okK_T {md : Nat} : okK T.2 (kT md T) := fun p h => ⟨clT_lt h, nxT_gt (clT_lt h)⟩
theorem dig_bd {p : Nat} : ∀ k, (∀ j, j < k → isD (T.1 (p + j)) = true) → 0 ≤ dig T p k ∧ dig T p k < ((10 ^ k : Nat) : Int) := by
  intro k
  induction k with
  | zero => intro _; exact ⟨Int.le_refl _, (by decide : (0 : Int) < ((10 ^ 0 : Nat) : Int))⟩
  | succ k ih =>
    intro h
    obtain ⟨a, b⟩ := ih (fun j hj => h j (by omega))
    have c := isD_i.mp (h k (by omega))
    have e : (10 ^ (k + 1) : Nat) = 10 ^ k * 10 := Nat.pow_succ _ _
    unfold dig
    rw [e]
    omega
theorem run_at {A : Int → Bool} {p : Nat} (hp : p ≤ T.2) {j : Nat} (h : j < ew A T p - p) : A (T.1 (p + j)) = true := (ew_spec (A := A) hp).2.2.1 (p + j) (by omega) (by omega)
theorem te_1 (h : kdT T p = 1) : teT T p = ew isD T p := by
  obtain ⟨a, b, c, -⟩ := kd_1 h
  unfold teT
  rw [if_neg (by omega), if_neg b, if_pos c]
theorem te_0 (h : p < T.2) (l : isL (T.1 p) = true) : teT T p = ew isL T p := by
  unfold teT
  rw [if_neg (by omega), if_pos l]
theorem vl_1 (h : kdT T p = 1) : vlT T p = dig T p (min (lnT T p) 4) := by
  obtain ⟨a, b, c, -⟩ := kd_1 h
  unfold vlT
  rw [if_neg (by omega), if_neg b, if_pos c]
theorem vl_1r (h : kdT T p = 1) : 0 ≤ vlT T p ∧ vlT T p ≤ 9999 := by
  rw [vl_1 h]
  have hp := (kd_1 h).1
  have b := dig_bd (T := T) (p := p) (min (lnT T p) 4) (fun j hj => run_at (A := isD) (by omega) (by rw [← te_1 h]; unfold lnT at hj; omega))
  have c : (10 ^ (min (lnT T p) 4) : Nat) ≤ 10 ^ 4 := Nat.pow_le_pow_right (by decide) (by omega)
  omega
theorem wfa_rg {w : Int} : wfa w = -1 ∨ (0 ≤ wfa w ∧ wfa w ≤ 9) := by
  unfold wfa
  (repeat' split) <;> first | exact Or.inl rfl | exact Or.inr ⟨by decide, by decide⟩
theorem cl_1 {md : Nat} : clT md T p = 1 ↔ kdT T p = 1 := by
  refine ⟨fun h => ?_, cl_d1⟩
  by_cases k : kdT T p = 1
  · exact k
  by_cases k2 : kdT T p = 2
  · rw [cl_d2 k2] at h; have := sgc_v (T.1 p); omega
  · rw [cl_d0 k k2] at h; have := wdc_v md (nmT T p); omega
/-- a class of signs -/
theorem cl_sg {md k : Nat} (hk : k = 2 ∨ (7 ≤ k ∧ k ≤ 17)) : clT md T p = k ↔ kdT T p = 2 ∧ sgc (T.1 p) = k := by
  constructor
  · intro h
    by_cases k1 : kdT T p = 1
    · rw [cl_d1 k1] at h; omega
    by_cases k2 : kdT T p = 2
    · rw [cl_d2 k2] at h; exact ⟨k2, h⟩
    · rw [cl_d0 k1 k2] at h; have := wdc_v md (nmT T p); omega
  · rintro ⟨a, b⟩
    rw [cl_d2 a, b]
/-- a class of words -/
theorem cl_wd {md k : Nat} (hk : (3 ≤ k ∧ k ≤ 6) ∨ (18 ≤ k ∧ k ≤ 21)) : clT md T p = k ↔ wdc md (nmT T p) = k := by
  constructor
  · intro h
    by_cases k1 : kdT T p = 1
    · rw [cl_d1 k1] at h; omega
    by_cases k2 : kdT T p = 2
    · rw [cl_d2 k2] at h; have := sgc_v (T.1 p); omega
    · rw [cl_d0 k1 k2] at h; exact h
  · intro h
    have k0 : kdT T p = 0 := by
      by_cases q : kdT T p = 0
      · exact q
      · rw [nm_n q, wdc_n] at h; omega
    rw [cl_d0 (by omega) (by omega), h]
theorem cl_2 {md : Nat} : clT md T p = 2 ↔ kdT T p = 2 ∧ T.1 p = 40 := by
  rw [cl_sg (by decide)]
  have := sgc_all (T.1 p)
  exact and_congr_right (fun _ => ⟨fun _ => by omega, fun _ => by omega⟩)
theorem cl_7 {md : Nat} : clT md T p = 7 ↔ kdT T p = 2 ∧ T.1 p = 41 := by
  rw [cl_sg (by decide)]
  have := sgc_all (T.1 p)
  exact and_congr_right (fun _ => ⟨fun _ => by omega, fun _ => by omega⟩)
theorem cl_8 {md : Nat} : clT md T p = 8 ↔ kdT T p = 2 ∧ T.1 p = 44 := by
  rw [cl_sg (by decide)]
  have := sgc_all (T.1 p)
  exact and_congr_right (fun _ => ⟨fun _ => by omega, fun _ => by omega⟩)
theorem cl_9 {md : Nat} : clT md T p = 9 ↔ kdT T p = 2 ∧ T.1 p = 42 := by
  rw [cl_sg (by decide)]
  have := sgc_all (T.1 p)
  exact and_congr_right (fun _ => ⟨fun _ => by omega, fun _ => by omega⟩)
theorem cl_10 {md : Nat} : clT md T p = 10 ↔ kdT T p = 2 ∧ T.1 p = 47 := by
  rw [cl_sg (by decide)]
  have := sgc_all (T.1 p)
  exact and_congr_right (fun _ => ⟨fun _ => by omega, fun _ => by omega⟩)
theorem cl_11 {md : Nat} : clT md T p = 11 ↔ kdT T p = 2 ∧ T.1 p = 43 := by
  rw [cl_sg (by decide)]
  have := sgc_all (T.1 p)
  exact and_congr_right (fun _ => ⟨fun _ => by omega, fun _ => by omega⟩)
theorem cl_12 {md : Nat} : clT md T p = 12 ↔ kdT T p = 2 ∧ T.1 p = 45 := by
  rw [cl_sg (by decide)]
  have := sgc_all (T.1 p)
  exact and_congr_right (fun _ => ⟨fun _ => by omega, fun _ => by omega⟩)
theorem cl_13 {md : Nat} : clT md T p = 13 ↔ kdT T p = 2 ∧ T.1 p = 60 := by
  rw [cl_sg (by decide)]
  have := sgc_all (T.1 p)
  exact and_congr_right (fun _ => ⟨fun _ => by omega, fun _ => by omega⟩)
theorem cl_14 {md : Nat} : clT md T p = 14 ↔ kdT T p = 2 ∧ T.1 p = 62 := by
  rw [cl_sg (by decide)]
  have := sgc_all (T.1 p)
  exact and_congr_right (fun _ => ⟨fun _ => by omega, fun _ => by omega⟩)
theorem cl_15 {md : Nat} : clT md T p = 15 ↔ kdT T p = 2 ∧ T.1 p = 61 := by
  rw [cl_sg (by decide)]
  have := sgc_all (T.1 p)
  exact and_congr_right (fun _ => ⟨fun _ => by omega, fun _ => by omega⟩)
theorem cl_16 {md : Nat} : clT md T p = 16 ↔ kdT T p = 2 ∧ T.1 p = 91 := by
  rw [cl_sg (by decide)]
  have := sgc_all (T.1 p)
  exact and_congr_right (fun _ => ⟨fun _ => by omega, fun _ => by omega⟩)
theorem cl_17 {md : Nat} : clT md T p = 17 ↔ kdT T p = 2 ∧ T.1 p = 93 := by
  rw [cl_sg (by decide)]
  have := sgc_all (T.1 p)
  exact and_congr_right (fun _ => ⟨fun _ => by omega, fun _ => by omega⟩)
theorem cl_3 {md : Nat} : clT md T p = 3 ↔ nmT T p = 22 := by
  rw [cl_wd (by decide)]
  have := wdc_all md (nmT T p)
  exact ⟨fun _ => by omega, fun _ => by omega⟩
theorem cl_4 {md : Nat} : clT md T p = 4 ↔ nmT T p = 23 := by
  rw [cl_wd (by decide)]
  have := wdc_all md (nmT T p)
  exact ⟨fun _ => by omega, fun _ => by omega⟩
theorem cl_18 {md : Nat} : clT md T p = 18 ↔ nmT T p = 20 := by
  rw [cl_wd (by decide)]
  have := wdc_all md (nmT T p)
  exact ⟨fun _ => by omega, fun _ => by omega⟩
theorem cl_19 {md : Nat} : clT md T p = 19 ↔ nmT T p = 21 := by
  rw [cl_wd (by decide)]
  have := wdc_all md (nmT T p)
  exact ⟨fun _ => by omega, fun _ => by omega⟩
theorem cl_20 {md : Nat} : clT md T p = 20 ↔ nmT T p = 19 := by
  rw [cl_wd (by decide)]
  have := wdc_all md (nmT T p)
  exact ⟨fun _ => by omega, fun _ => by omega⟩
theorem cl_21 {md : Nat} : clT md T p = 21 ↔ nmT T p = 18 := by
  rw [cl_wd (by decide)]
  have := wdc_all md (nmT T p)
  exact ⟨fun _ => by omega, fun _ => by omega⟩
theorem cl_5 {md : Nat} : clT md T p = 5 ↔ nmT T p = 14 ∧ md = 3 := by
  rw [cl_wd (by decide)]
  have := wdc_all md (nmT T p)
  exact ⟨fun _ => ⟨by omega, by omega⟩, fun _ => by omega⟩
theorem wfa_bad : wfa 22 = -1 ∧ wfa 23 = -1 ∧ wfa 20 = -1 ∧ wfa 21 = -1 ∧ wfa 19 = -1 ∧ wfa 18 = -1 := by decide
theorem cl_6 {md : Nat} : clT md T p = 6 ↔ wfa (nmT T p) ∈ alS md ∧ ¬ (nmT T p = 14 ∧ md = 3) := by
  rw [cl_wd (by decide)]
  have t := wdc_all md (nmT T p)
  have e : ∀ w : Int, (w ≠ 22 ∧ w ≠ 23 ∧ w ≠ 20 ∧ w ≠ 21 ∧ w ≠ 19 ∧ w ≠ 18) → ¬ (w = 14 ∧ md = 3) → (wdc md w = if wfa w ∈ alS md then 6 else 0) := by
    intro w h h2
    unfold wdc
    rw [if_neg h.1, if_neg h.2.1, if_neg h.2.2.1, if_neg h.2.2.2.1, if_neg h.2.2.2.2.1, if_neg h.2.2.2.2.2, if_neg h2]
  constructor
  · intro q
    have h1 : ¬ (nmT T p = 14 ∧ md = 3) := by omega
    refine ⟨?_, h1⟩
    have := e (nmT T p) (by omega) h1
    by_cases a : wfa (nmT T p) ∈ alS md
    · exact a
    · rw [if_neg a] at this; omega
  · rintro ⟨h1, h2⟩
    have ne : ∀ w : Int, wfa w = -1 → nmT T p ≠ w := by
      intro w hw e
      rw [e, hw] at h1
      exact al_ne h1
    obtain ⟨b1, b2, b3, b4, b5, b6⟩ := wfa_bad
    rw [e _ ⟨ne _ b1, ne _ b2, ne _ b3, ne _ b4, ne _ b5, ne _ b6⟩ h2, if_pos h1]
theorem okK3_T {md : Nat} : okK3 (alS md) (md = 3) (kT md T) := by
  intro p
  refine ⟨fun h _ => ?_, fun h => ?_, fun h => (cl_5.mp h).2⟩
  · have k : kdT T p = 1 := cl_1.mp h
    have e : kvl (kT md T) p = vlT T p := by
      show vaT T p = _
      unfold vaT; rw [if_pos k]
    rw [e]
    exact vl_1r k
  · obtain ⟨a, -⟩ := cl_6.mp h
    have k : kdT T p ≠ 1 := by
      intro q
      have h' : clT md T p = 6 := h
      rw [cl_d1 q] at h'; cases h'
    have e : kvl (kT md T) p = wfa (nmT T p) := by
      show vaT T p = _
      unfold vaT; rw [if_neg k]
    rw [e]
    refine ⟨?_, a⟩
    rcases wfa_rg (w := nmT T p) with q | q
    · rw [q] at a; exact absurd a al_ne
    · exact q
end
/-! letters told by numbers: five bits a letter, or by 27 -/
def okW (l : List Int) : Prop := ∀ a ∈ l, 1 ≤ a ∧ a ≤ 26
theorem nm5_nn : ∀ {l : List Int}, okW l → 0 ≤ nm5 l
  | [], _ => Int.le_refl _
  | a :: l, h => by
    have h1 := h a List.mem_cons_self
    have h2 := nm5_nn (l := l) (fun b hb => h b (List.mem_cons_of_mem _ hb))
    show 0 ≤ a + 32 * nm5 l
    omega
theorem nm5_inj : ∀ {l r : List Int}, okW l → okW r → nm5 l = nm5 r → l = r
  | [], [], _, _, _ => rfl
  | [], b :: r, _, h2, e => by
    have h := h2 b List.mem_cons_self
    have k := nm5_nn (l := r) (fun c hc => h2 c (List.mem_cons_of_mem _ hc))
    have e' : (0 : Int) = b + 32 * nm5 r := e
    omega
  | a :: l, [], h1, _, e => by
    have h := h1 a List.mem_cons_self
    have k := nm5_nn (l := l) (fun c hc => h1 c (List.mem_cons_of_mem _ hc))
    have e' : a + 32 * nm5 l = (0 : Int) := e
    omega
  | a :: l, b :: r, h1, h2, e => by
    have ha := h1 a List.mem_cons_self
    have hb := h2 b List.mem_cons_self
    have e' : a + 32 * nm5 l = b + 32 * nm5 r := e
    have e1 : a = b := by omega
    have e2 := nm5_inj (l := l) (r := r) (fun c hc => h1 c (List.mem_cons_of_mem _ hc)) (fun c hc => h2 c (List.mem_cons_of_mem _ hc)) (by omega)
    rw [e1, e2]
theorem nm5_app : ∀ {l : List Int} {a : Int}, nm5 (l ++ [a]) = nm5 l + a * ((32 ^ l.length : Nat) : Int)
  | [], a => by show a + 32 * 0 = 0 + a * ((32 ^ 0 : Nat) : Int); simp
  | b :: l, a => by
    show b + 32 * nm5 (l ++ [a]) = b + 32 * nm5 l + a * ((32 ^ (l.length + 1) : Nat) : Int)
    rw [nm5_app, Nat.pow_succ, Int.natCast_mul]
    have : a * (((32 ^ l.length : Nat) : Int) * ((32 : Nat) : Int)) = 32 * (a * ((32 ^ l.length : Nat) : Int)) := by
      rw [← Int.mul_assoc, Int.mul_comm]; rfl
    rw [this]; omega
theorem nm5_lt : ∀ {l : List Int}, okW l → nm5 l < ((32 ^ l.length : Nat) : Int)
  | [], _ => by decide
  | a :: l, h => by
    have h1 := h a List.mem_cons_self
    have h2 := nm5_lt (l := l) (fun b hb => h b (List.mem_cons_of_mem _ hb))
    show a + 32 * nm5 l < ((32 ^ (l.length + 1) : Nat) : Int)
    rw [Nat.pow_succ, Int.natCast_mul]
    have : ((32 ^ l.length : Nat) : Int) * ((32 : Nat) : Int) = 32 * ((32 ^ l.length : Nat) : Int) := Int.mul_comm _ _
    rw [this]; omega
theorem nm27_app {l : List Int} {a : Int} : nm27 (l ++ [a]) = 27 * nm27 l + a := by unfold nm27; rw [List.foldl_append]; rfl
theorem nm27_nn {l : List Int} (h : okW l) : 0 ≤ nm27 l := by
  have key : ∀ (n : Nat) (l : List Int), l.length = n → okW l → 0 ≤ nm27 l := by
    intro n
    induction n with
    | zero => intro l hl _; rw [List.length_eq_zero_iff.mp hl]; exact Int.le_refl _
    | succ n ih =>
      intro l hl hw
      have hne : l ≠ [] := by intro q; rw [q] at hl; cases hl
      obtain ⟨r, a, e⟩ : ∃ r a, l = r ++ [a] := ⟨l.dropLast, l.getLast hne, (List.dropLast_concat_getLast hne).symm⟩
      subst e
      rw [nm27_app]
      have h1 := hw a (by simp)
      have h2 := ih r (by simpa using hl) (fun b hb => hw b (by simp [hb]))
      omega
  exact key l.length l rfl h
theorem nm27_inj {l r : List Int} (hl : okW l) (hr : okW r) (e : nm27 l = nm27 r) : l = r := by
  have key : ∀ (n : Nat) (l r : List Int), l.length = n → okW l → okW r → nm27 l = nm27 r → l = r := by
    intro n
    induction n with
    | zero =>
      intro l r h h1 h2 e
      have l0 := List.length_eq_zero_iff.mp h
      subst l0
      by_cases r0 : r = []
      · exact r0.symm
      · exfalso
        obtain ⟨s, b, q⟩ : ∃ s b, r = s ++ [b] := ⟨r.dropLast, r.getLast r0, (List.dropLast_concat_getLast r0).symm⟩
        subst q
        rw [nm27_app] at e
        have hb := h2 b (by simp)
        have hs := nm27_nn (l := s) (fun c hc => h2 c (by simp [hc]))
        have e0 : nm27 [] = 0 := rfl
        omega
    | succ n ih =>
      intro l r h h1 h2 e
      have l0 : l ≠ [] := by intro q; rw [q] at h; cases h
      obtain ⟨k, a, q⟩ : ∃ s b, l = s ++ [b] := ⟨l.dropLast, l.getLast l0, (List.dropLast_concat_getLast l0).symm⟩
      subst q
      have ha := h1 a (by simp)
      have hk := nm27_nn (l := k) (fun c hc => h1 c (by simp [hc]))
      rw [nm27_app] at e
      by_cases r0 : r = []
      · exfalso
        subst r0
        have e0 : nm27 [] = 0 := rfl
        omega
      · obtain ⟨s, b, q⟩ : ∃ s b, r = s ++ [b] := ⟨r.dropLast, r.getLast r0, (List.dropLast_concat_getLast r0).symm⟩
        subst q
        rw [nm27_app] at e
        have hb := h2 b (by simp)
        have hs := nm27_nn (l := s) (fun c hc => h2 c (by simp [hc]))
        have e1 : a = b := by omega
        have e2 := ih k s (by simpa using h) (fun c hc => h1 c (by simp [hc])) (fun c hc => h2 c (by simp [hc])) (by omega)
        rw [e1, e2]
  exact key l.length l r rfl hl hr e
theorem ltr_len {T : mT2} {p : Nat} : ∀ k, (ltr T p k).length = k := by
  intro k
  induction k with
  | zero => rfl
  | succ k ih => unfold ltr; rw [List.length_append, ih]; rfl
theorem ltr_ok {T : mT2} {p : Nat} : ∀ k, (∀ j, j < k → isL (T.1 (p + j)) = true) → okW (ltr T p k) := by
  intro k
  induction k with
  | zero => intro _ a ha; exact absurd ha List.not_mem_nil
  | succ k ih =>
    intro h a ha
    unfold ltr at ha
    rcases List.mem_append.mp ha with q | q
    · exact ih (fun j hj => h j (by omega)) a q
    · have := isL_i.mp (h k (by omega))
      rw [List.mem_singleton.mp q]
      omega
theorem ltr_get {T : mT2} {p : Nat} : ∀ k j, j < k → (ltr T p k).getD j 0 = T.1 (p + j) - 96 := by
  intro k
  induction k with
  | zero => intro j h; omega
  | succ k ih =>
    intro j h
    unfold ltr
    by_cases e : j = k
    · subst e
      rw [gD_r _ _ _ _ (by rw [ltr_len]; omega), ltr_len, Nat.sub_self]; rfl
    · rw [gD_l _ _ _ _ (by rw [ltr_len]; omega)]
      exact ih j (by omega)
/-- a word of the list stands at p, just where its number is told -/
theorem nm_is {T : mT2} {p : Nat} (hk : kdT T p = 0) {k : Nat} (hk2 : k < 33) : nmT T p = (k : Int) ↔ lnT T p ≤ 6 ∧ ltr T p (lnT T p) = wl.getD k [] := by
  obtain ⟨a, b, c⟩ := kd_0 hk
  have hln : lnT T p = ew isL T p - p := by unfold lnT; rw [te_0 a b]
  have hok : ∀ m, m ≤ lnT T p → okW (ltr T p m) := fun m hm => ltr_ok m (fun j hj => run_at (A := isL) (by omega) (by omega))
  have hv : vlT T p = nm5 (ltr T p (min (lnT T p) 6)) := by unfold vlT; rw [if_neg (by omega), if_pos b]
  have wok : ∀ i : Fin 33, okW (wl.getD i.val []) := by
    intro i
    have : ∀ i : Fin 33, ∀ a ∈ wl.getD i.val [], 1 ≤ a ∧ a ≤ 26 := by decide +kernel
    exact this i
  have wf : ∀ i : Fin 33, wf33 (i.val : Int) = nm5 (wl.getD i.val []) := by decide +kernel
  have wd : ∀ i j : Fin 33, wf33 (i.val : Int) = wf33 (j.val : Int) → i = j := by decide +kernel
  constructor
  · intro h
    unfold nmT at h
    by_cases l6 : kdT T p = 0 ∧ lnT T p ≤ 6
    · rw [if_pos l6] at h
      refine ⟨l6.2, ?_⟩
      rcases fi_rg wf33 (vlT T p) 33 0 with ⟨q, -⟩ | ⟨q1, q2, q3⟩
      · omega
      · rw [h, wf ⟨k, hk2⟩, hv, Nat.min_eq_left l6.2] at q3
        exact (nm5_inj (wok ⟨k, hk2⟩) (hok _ (Nat.le_refl _)) q3).symm
    · rw [if_neg l6] at h; omega
  · rintro ⟨l6, e⟩
    unfold nmT
    rw [if_pos ⟨hk, l6⟩]
    have hv2 : vlT T p = wf33 (k : Int) := by rw [hv, Nat.min_eq_left l6, e]; exact (wf ⟨k, hk2⟩).symm
    rcases fi_rg wf33 (vlT T p) 33 0 with ⟨-, q⟩ | ⟨q1, q2, q3⟩
    · exact absurd hv2.symm (q (k : Int) (by omega) (by omega))
    · have q2' : fi wf33 (vlT T p) 0 33 < 33 := by omega
      have := wd ⟨(fi wf33 (vlT T p) 0 33).toNat, by omega⟩ ⟨k, hk2⟩ (by
        show wf33 (((fi wf33 (vlT T p) 0 33).toNat : Nat) : Int) = wf33 (k : Int)
        rw [Int.toNat_of_nonneg q1, q3, hv2])
      have h2 : (fi wf33 (vlT T p) 0 33).toNat = k := congrArg Fin.val this
      omega

/-! change: sets of people, the least sum -/
abbrev bt (x p : Int) : Int := (shr x p) % 2
abbrev nx (x p : Int) : Int := bor x (shl 1 p)
set_option maxRecDepth 100000 in
theorem bits1 : ∀ x : Fin 1024, ∀ p : Fin 10, (shr (x.val : Int) (p.val : Int)) % 2 = 0 → pct (bor (x.val : Int) (shl 1 (p.val : Int))) = pct (x.val : Int) + 1 ∧ (x.val : Int) < bor (x.val : Int) (shl 1 (p.val : Int)) := by decide +kernel
set_option maxRecDepth 100000 in
theorem bits2 : ∀ n : Fin 11, ∀ x : Fin 1024, x.val + 1 < 2 ^ n.val → pct (x.val : Int) < (n.val : Int) ∧ ∃ p : Fin 10, p.val < n.val ∧ (shr (x.val : Int) (p.val : Int)) % 2 = 0 := by decide +kernel
theorem bits3 : ∀ n : Fin 11, pct (((2 ^ n.val - 1 : Nat) : Int)) = (n.val : Int) := by decide +kernel
theorem bits4 : ∀ j : Fin 10, 1 ≤ j.val → (shr (((2 ^ j.val - 2 : Nat) : Int)) (j.val : Int)) % 2 = 0 ∧ bor (((2 ^ j.val - 2 : Nat) : Int)) (shl 1 (j.val : Int)) = ((2 ^ (j.val + 1) - 2 : Nat) : Int) := by decide +kernel
theorem bits5 : ∀ n : Fin 11, 1 ≤ n.val → (shr (((2 ^ n.val - 2 : Nat) : Int)) 0) % 2 = 0 := by decide +kernel
theorem p2_le {n : Nat} (h : n ≤ 10) : 2 ^ n ≤ 1024 := by
  have : 2 ^ n ≤ 2 ^ 10 := Nat.pow_le_pow_right (by decide) h
  exact this
theorem nx_pct {x p : Int} (hx : 0 ≤ x ∧ x < 1024) (hp : 0 ≤ p ∧ p < 10) (h : bt x p = 0) : pct (nx x p) = pct x + 1 ∧ x < nx x p := by
  have := bits1 ⟨x.toNat, by omega⟩ ⟨p.toNat, by omega⟩
  simp only at this
  rw [Int.toNat_of_nonneg hx.1, Int.toNat_of_nonneg hp.1] at this
  exact this h
theorem nx_lt {n : Nat} {x p : Int} (hx : 0 ≤ x ∧ x < ((2 ^ n : Nat) : Int)) (hp : 0 ≤ p ∧ p < (n : Int)) : 0 ≤ nx x p ∧ nx x p < ((2 ^ n : Nat) : Int) := by
  have hb : nx x p = ((x.toNat ||| (2 ^ p.toNat) : Nat) : Int) := by
    show bor x (shl 1 p) = _
    unfold bor; rw [shl1 hp.1]; rfl
  rw [hb]
  have : x.toNat ||| 2 ^ p.toNat < 2 ^ n := Nat.or_lt_two_pow (by omega) (Nat.pow_lt_pow_right (by decide) (by omega))
  exact ⟨Int.natCast_nonneg _, Int.ofNat_lt.mpr this⟩
theorem bt_01 (x p : Int) : bt x p = 0 ∨ bt x p = 1 := by
  have h1 := Int.emod_nonneg (shr x p) (show (2 : Int) ≠ 0 by decide)
  have h2 := Int.emod_lt_of_pos (shr x p) (show (0 : Int) < 2 by decide)
  show (shr x p) % 2 = 0 ∨ (shr x p) % 2 = 1
  omega
theorem pct_free {n : Nat} {x : Int} (hn : n ≤ 10) (hx : 0 ≤ x ∧ x < ((2 ^ n : Nat) : Int)) (h : pct x < (n : Int)) : ∃ p : Int, 0 ≤ p ∧ p < (n : Int) ∧ bt x p = 0 := by
  have h10 := p2_le hn
  have hlt : x.toNat < 2 ^ n := by omega
  by_cases e : x.toNat + 1 < 2 ^ n
  · have := bits2 ⟨n, by omega⟩ ⟨x.toNat, by omega⟩ e
    simp only at this
    obtain ⟨-, p, p1, p2⟩ := this
    rw [Int.toNat_of_nonneg hx.1] at p2
    exact ⟨(p.val : Int), by omega, by omega, p2⟩
  · exfalso
    have := bits3 ⟨n, by omega⟩
    simp only at this
    have e2 : ((2 ^ n - 1 : Nat) : Int) = x := by omega
    rw [e2] at this
    omega
theorem pct_lt {n : Nat} {x : Int} (hn : n ≤ 10) (hx : 0 ≤ x ∧ x + 1 < ((2 ^ n : Nat) : Int)) : pct x < (n : Int) := by
  have h10 := p2_le hn
  have := bits2 ⟨n, by omega⟩ ⟨x.toNat, by omega⟩ (by show x.toNat + 1 < 2 ^ n; omega)
  simp only at this
  rw [Int.toNat_of_nonneg hx.1] at this
  exact this.1
theorem pct_nn {x : Int} : 0 ≤ pct x ∧ pct x ≤ 10 := by unfold pct; omega
-- ---- the first cheapest of those without a life
def chs (x : Int) (g : Int → Int) (p : Int) (s : Int × Int) : Int × Int := if bt x p = 0 ∧ (s.1 = -1 ∨ g p < s.2) then (p, g p) else s
def cz (x : Int) (g : Int → Int) (m : Nat) : Int × Int := itr (chs x g) 0 m (-1, -1)
theorem cz_s {x : Int} {g : Int → Int} {m : Nat} : cz x g (m + 1) = chs x g (m : Int) (cz x g m) := by
  unfold cz
  rw [itr_snoc, show (0 : Int) + (m : Int) = (m : Int) by omega]
theorem cz_rg {x : Int} {g : Int → Int} : ∀ m : Nat, ((cz x g m).1 = -1 ∧ ∀ q, 0 ≤ q → q < (m : Int) → bt x q ≠ 0) ∨ (0 ≤ (cz x g m).1 ∧ (cz x g m).1 < (m : Int) ∧ bt x (cz x g m).1 = 0 ∧ (cz x g m).2 = g (cz x g m).1 ∧ ∀ q, 0 ≤ q → q < (m : Int) → bt x q = 0 → g (cz x g m).1 ≤ g q ∧ (g q = g (cz x g m).1 → (cz x g m).1 ≤ q)) := by
  intro m
  induction m with
  | zero => exact Or.inl ⟨rfl, fun q a b => by omega⟩
  | succ m ih =>
    rw [cz_s]
    generalize cz x g m = s at ih
    unfold chs
    by_cases c : bt x (m : Int) = 0 ∧ (s.1 = -1 ∨ g (m : Int) < s.2)
    · rw [if_pos c]
      refine Or.inr ⟨by show (0 : Int) ≤ (m : Int); omega, by show (m : Int) < _; omega, c.1, rfl, fun q a b d => ?_⟩
      show g (m : Int) ≤ g q ∧ (g q = g (m : Int) → (m : Int) ≤ q)
      by_cases e : q = (m : Int)
      · rw [e]; exact ⟨Int.le_refl _, fun _ => Int.le_refl _⟩
      · rcases ih with ⟨i1, i2⟩ | ⟨i1, i2, i3, i4, i5⟩
        · exact absurd d (i2 q a (by omega))
        · obtain ⟨j1, j2⟩ := i5 q a (by omega) d
          rcases c.2 with z | z
          · omega
          · exact ⟨by omega, fun w => by omega⟩
    · rw [if_neg c]
      rcases ih with ⟨i1, i2⟩ | ⟨i1, i2, i3, i4, i5⟩
      · refine Or.inl ⟨i1, fun q a b => ?_⟩
        by_cases e : q = (m : Int)
        · rw [e]; exact fun z => c ⟨z, Or.inl i1⟩
        · exact i2 q a (by omega)
      · refine Or.inr ⟨i1, by omega, i3, i4, fun q a b d => ?_⟩
        by_cases e : q = (m : Int)
        · rw [e] at d ⊢
          have : ¬ g (m : Int) < s.2 := fun z => c ⟨d, Or.inr z⟩
          exact ⟨by omega, fun _ => by omega⟩
        · exact i5 q a (by omega) d
theorem cz_cg {x : Int} {g h : Int → Int} : ∀ m : Nat, (∀ q, 0 ≤ q → q < (m : Int) → bt x q = 0 → g q = h q) → cz x g m = cz x h m := by
  intro m
  induction m with
  | zero => intro _; rfl
  | succ m ih =>
    intro e
    rw [cz_s, cz_s, ih (fun q a b => e q a (by omega))]
    unfold chs
    by_cases c : bt x (m : Int) = 0
    · rw [e (m : Int) (by omega) (by omega) c]
    · rw [if_neg (fun z => c z.1), if_neg (fun z => c z.1)]
/-- the least that the lives from n - f on can cost -/
def Rd (c : Int → Int → Int) (n : Nat) : Nat → Int → Int
  | 0, _ => 0
  | f + 1, x => (cz x (fun p => c ((n : Int) - ((f : Int) + 1)) p + Rd c n f (nx x p)) n).2
def wch (c : Int → Int → Int) (n l : Nat) (x : Int) : Int := (cz x (fun p => c (l : Int) p + Rd c n (n - l - 1) (nx x p)) n).1
def mks (c : Int → Int → Int) (n : Nat) : Nat → Int
  | 0 => 0
  | l + 1 => nx (mks c n l) (wch c n l (mks c n l))
/-- the same by the reference: at most 1000 -/
def fm (x : Int) (g : Int → Int) (p s : Int) : Int := if bt x p = 1 then s else if s ≤ g p then s else g p
def fz (x : Int) (g : Int → Int) (m : Nat) : Int := itr (fm x g) 0 m 1000
def FdQ (c : Int → Int → Int) (n : Nat) : Nat → Int → Int
  | 0, _ => 0
  | f + 1, x => fz x (fun p => c ((n : Int) - ((f : Int) + 1)) p + FdQ c n f (nx x p)) n
theorem fz_s {x : Int} {g : Int → Int} {m : Nat} : fz x g (m + 1) = fm x g (m : Int) (fz x g m) := by
  unfold fz
  rw [itr_snoc, show (0 : Int) + (m : Int) = (m : Int) by omega]
theorem fz_rg {x : Int} {g : Int → Int} : ∀ m : Nat, fz x g m ≤ 1000 ∧ (∀ q, 0 ≤ q → q < (m : Int) → bt x q = 0 → fz x g m ≤ g q) ∧ (fz x g m = 1000 ∨ ∃ q, 0 ≤ q ∧ q < (m : Int) ∧ bt x q = 0 ∧ fz x g m = g q) := by
  intro m
  induction m with
  | zero => exact ⟨Int.le_refl _, fun q a b => by omega, Or.inl rfl⟩
  | succ m ih =>
    rw [fz_s]
    generalize fz x g m = s at ih
    obtain ⟨i1, i2, i3⟩ := ih
    unfold fm
    have i3' : s = 1000 ∨ ∃ q, 0 ≤ q ∧ q < ((m + 1 : Nat) : Int) ∧ bt x q = 0 ∧ s = g q := by
      rcases i3 with z | ⟨q, a, b, d, e⟩
      · exact Or.inl z
      · exact Or.inr ⟨q, a, by omega, d, e⟩
    by_cases c : bt x (m : Int) = 1
    · rw [if_pos c]
      refine ⟨i1, fun q a b d => ?_, i3'⟩
      by_cases e : q = (m : Int)
      · rw [e] at d; omega
      · exact i2 q a (by omega) d
    · rw [if_neg c]
      have c0 : bt x (m : Int) = 0 := by rcases bt_01 x (m : Int) with z | z; exact z; exact absurd z c
      by_cases z : s ≤ g (m : Int)
      · rw [if_pos z]
        refine ⟨i1, fun q a b d => ?_, i3'⟩
        by_cases e : q = (m : Int)
        · rw [e]; exact z
        · exact i2 q a (by omega) d
      · rw [if_neg z]
        refine ⟨by omega, fun q a b d => ?_, Or.inr ⟨(m : Int), by omega, by omega, c0, rfl⟩⟩
        by_cases e : q = (m : Int)
        · rw [e]; exact Int.le_refl _
        · have := i2 q a (by omega) d; omega
/-- costs -/
def okKc (c : Int → Int → Int) (n : Nat) : Prop := (∀ l p, 0 ≤ l → l < (n : Int) → 0 ≤ p → p < (n : Int) → 0 ≤ c l p ∧ c l p ≤ 1000 ∧ (p ≠ l → c l p ≤ 24))
theorem FdQ_rg {c : Int → Int → Int} {n : Nat} (hc : okKc c n) : ∀ (f : Nat) (x : Int), f ≤ n → 0 ≤ FdQ c n f x ∧ FdQ c n f x ≤ 1000 := by
  intro f
  induction f with
  | zero => intro x _; exact ⟨Int.le_refl _, (by decide : (0 : Int) ≤ 1000)⟩
  | succ f ih =>
    intro x hf
    obtain ⟨a, b, d⟩ := fz_rg (x := x) (g := fun p => c ((n : Int) - ((f : Int) + 1)) p + FdQ c n f (nx x p)) n
    refine ⟨?_, a⟩
    show 0 ≤ fz x (fun p => c ((n : Int) - ((f : Int) + 1)) p + FdQ c n f (nx x p)) n
    rcases d with z | ⟨q, q0, q1, q2, q3⟩
    · omega
    · have h1 := (hc ((n : Int) - ((f : Int) + 1)) q (by omega) (by omega) q0 q1).1
      have h2 := (ih (nx x q) (by omega)).1
      have q3' : fz x (fun p => c ((n : Int) - ((f : Int) + 1)) p + FdQ c n f (nx x p)) n = c ((n : Int) - ((f : Int) + 1)) q + FdQ c n f (nx x q) := q3
      omega
/-- what the least is, with a free one -/
theorem Rd_s {c : Int → Int → Int} {n f : Nat} {x : Int} (hn : n ≤ 10) (hx : 0 ≤ x ∧ x < ((2 ^ n : Nat) : Int)) (hp : pct x + ((f + 1 : Nat) : Int) = (n : Int)) : ∃ w, w = (cz x (fun p => c ((n : Int) - ((f : Int) + 1)) p + Rd c n f (nx x p)) n).1 ∧ (0 ≤ w ∧ w < (n : Int)) ∧ bt x w = 0 ∧ Rd c n (f + 1) x = c ((n : Int) - ((f : Int) + 1)) w + Rd c n f (nx x w) ∧ ∀ q, 0 ≤ q → q < (n : Int) → bt x q = 0 → Rd c n (f + 1) x ≤ c ((n : Int) - ((f : Int) + 1)) q + Rd c n f (nx x q) ∧ (c ((n : Int) - ((f : Int) + 1)) q + Rd c n f (nx x q) = Rd c n (f + 1) x → w ≤ q) := by
  refine ⟨_, rfl, ?_⟩
  obtain ⟨p, p0, p1, p2⟩ := pct_free hn hx (by omega)
  rcases cz_rg (x := x) (g := fun p => c ((n : Int) - ((f : Int) + 1)) p + Rd c n f (nx x p)) n with ⟨i1, i2⟩ | ⟨i1, i2, i3, i4, i5⟩
  · exact absurd p2 (i2 p p0 p1)
  · have e : Rd c n (f + 1) x = (fun p => c ((n : Int) - ((f : Int) + 1)) p + Rd c n f (nx x p)) (cz x (fun p => c ((n : Int) - ((f : Int) + 1)) p + Rd c n f (nx x p)) n).1 := i4
    refine ⟨⟨i1, i2⟩, i3, e, fun q a b d => ?_⟩
    obtain ⟨j1, j2⟩ := i5 q a b d
    rw [e]
    exact ⟨j1, j2⟩
theorem nx_ok {n f : Nat} {x w : Int} (hn : n ≤ 10) (hx : 0 ≤ x ∧ x < ((2 ^ n : Nat) : Int)) (hp : pct x + ((f + 1 : Nat) : Int) = (n : Int)) (hw : 0 ≤ w ∧ w < (n : Int)) (hb : bt x w = 0) : (0 ≤ nx x w ∧ nx x w < ((2 ^ n : Nat) : Int)) ∧ pct (nx x w) + (f : Int) = (n : Int) := by
  have h10 := p2_le hn
  refine ⟨nx_lt hx hw, ?_⟩
  have := (nx_pct (x := x) (p := w) ⟨hx.1, by omega⟩ ⟨hw.1, by omega⟩ hb).1
  omega
/-- both tables agree, up to 1000 -/
theorem FR_eq {c : Int → Int → Int} {n : Nat} (hn : n ≤ 10) (hc : okKc c n) : ∀ (f : Nat) (x : Int), (0 ≤ x ∧ x < ((2 ^ n : Nat) : Int)) → pct x + (f : Int) = (n : Int) → 0 ≤ Rd c n f x ∧ Rd c n f x ≤ 1000 * (f : Int) ∧ FdQ c n f x = min 1000 (Rd c n f x) := by
  intro f
  induction f with
  | zero => intro x _ _; exact ⟨Int.le_refl _, Int.le_refl _, rfl⟩
  | succ f ih =>
    intro x hx hp
    have pn := pct_nn (x := x)
    obtain ⟨w, -, hw, hb, e, hle⟩ := Rd_s (c := c) hn hx hp
    obtain ⟨y1, y2⟩ := nx_ok hn hx hp hw hb
    obtain ⟨r0, r1, r2⟩ := ih _ y1 y2
    have hcw := hc ((n : Int) - ((f : Int) + 1)) w (by omega) (by omega) hw.1 hw.2
    refine ⟨by omega, by omega, ?_⟩
    obtain ⟨a, b, d⟩ := fz_rg (x := x) (g := fun p => c ((n : Int) - ((f : Int) + 1)) p + FdQ c n f (nx x p)) n
    show fz x (fun p => c ((n : Int) - ((f : Int) + 1)) p + FdQ c n f (nx x p)) n = _
    generalize fz x (fun p => c ((n : Int) - ((f : Int) + 1)) p + FdQ c n f (nx x p)) n = z at a b d
    have b1 : z ≤ c ((n : Int) - ((f : Int) + 1)) w + FdQ c n f (nx x w) := b w hw.1 hw.2 hb
    rcases d with d | ⟨q, q0, q1, q2, q3⟩
    · omega
    · obtain ⟨y3, y4⟩ := nx_ok hn hx hp ⟨q0, q1⟩ q2
      obtain ⟨t0, t1, t2⟩ := ih _ y3 y4
      have hcq := hc ((n : Int) - ((f : Int) + 1)) q (by omega) (by omega) q0 q1
      have h6 := (hle q q0 q1 q2).1
      have q3' : z = c ((n : Int) - ((f : Int) + 1)) q + FdQ c n f (nx x q) := q3
      omega
/-- all move up by one: a way that costs little -/
theorem Rd_small {c : Int → Int → Int} {n : Nat} (hn : n ≤ 10) (hn2 : 2 ≤ n) (hc : okKc c n) : ∀ f : Nat, f + 1 ≤ n → Rd c n (f + 1) (((2 ^ (n - f) - 2 : Nat) : Int)) ≤ 24 * ((f : Int) + 1) := by
  have pw : ∀ j : Nat, 1 ≤ j → 2 ≤ 2 ^ j := fun j hj => by
    have : 2 ^ 1 ≤ 2 ^ j := Nat.pow_le_pow_right (by decide) hj
    exact this
  have le : ∀ {x : Int} {f : Nat} {q : Int}, 0 ≤ q → q < (n : Int) → bt x q = 0 → Rd c n (f + 1) x ≤ c ((n : Int) - ((f : Int) + 1)) q + Rd c n f (nx x q) := by
    intro x f q q0 q1 q2
    rcases cz_rg (x := x) (g := fun p => c ((n : Int) - ((f : Int) + 1)) p + Rd c n f (nx x p)) n with ⟨i1, i2⟩ | ⟨i1, i2, i3, i4, i5⟩
    · exact absurd q2 (i2 q q0 q1)
    · have e : Rd c n (f + 1) x = (fun p => c ((n : Int) - ((f : Int) + 1)) p + Rd c n f (nx x p)) (cz x (fun p => c ((n : Int) - ((f : Int) + 1)) p + Rd c n f (nx x p)) n).1 := i4
      rw [e]; exact (i5 q q0 q1 q2).1
  intro f
  induction f with
  | zero =>
    intro _
    have b := bits5 ⟨n, by omega⟩ (by show 1 ≤ n; omega)
    simp only at b
    have h := le (x := ((2 ^ n - 2 : Nat) : Int)) (f := 0) (q := 0) (by decide) (by omega) b
    have h2 := (hc ((n : Int) - (((0 : Nat) : Int) + 1)) 0 (by omega) (by omega) (by decide) (by omega)).2.2 (by omega)
    have h3 : Rd c n 0 (nx ((2 ^ n - 2 : Nat) : Int) 0) = 0 := rfl
    show Rd c n (0 + 1) ((2 ^ n - 2 : Nat) : Int) ≤ _
    omega
  | succ f ih =>
    intro hf
    have i := ih (by omega)
    obtain ⟨b1, b2⟩ := bits4 ⟨n - (f + 1), by omega⟩ (by show 1 ≤ n - (f + 1); omega)
    simp only at b1 b2
    have h := le (x := ((2 ^ (n - (f + 1)) - 2 : Nat) : Int)) (f := f + 1) (q := ((n - (f + 1) : Nat) : Int)) (by omega) (by omega) b1
    have h2 := (hc ((n : Int) - (((f + 1 : Nat) : Int) + 1)) ((n - (f + 1) : Nat) : Int) (by omega) (by omega) (by omega) (by omega)).2.2 (by omega)
    have e : nx ((2 ^ (n - (f + 1)) - 2 : Nat) : Int) ((n - (f + 1) : Nat) : Int) = ((2 ^ (n - f) - 2 : Nat) : Int) := by
      show bor _ _ = _
      rw [b2, show n - (f + 1) + 1 = n - f by omega]
    rw [e] at h
    omega
theorem Rd_all {c : Int → Int → Int} {n : Nat} (hn : n ≤ 10) (hn2 : 2 ≤ n) (hc : okKc c n) : Rd c n n 0 ≤ 240 := by
  have h := Rd_small hn hn2 hc (n - 1) (by omega)
  rw [show n - 1 + 1 = n by omega, show n - (n - 1) = 1 by omega] at h
  have : ((2 ^ 1 - 2 : Nat) : Int) = 0 := rfl
  rw [this] at h
  omega
/-- the way taken -/
theorem mks_ok {c : Int → Int → Int} {n : Nat} (hn : n ≤ 10) (hn2 : 2 ≤ n) (hc : okKc c n) : ∀ l : Nat, l ≤ n → (0 ≤ mks c n l ∧ mks c n l < ((2 ^ n : Nat) : Int)) ∧ pct (mks c n l) = (l : Int) ∧ Rd c n (n - l) (mks c n l) ≤ 240 := by
  intro l
  induction l with
  | zero =>
    intro _
    have : 0 < 2 ^ n := Nat.pow_pos (by decide)
    exact ⟨⟨Int.le_refl _, by show (0 : Int) < _; omega⟩, rfl, Rd_all hn hn2 hc⟩
  | succ l ih =>
    intro hl
    obtain ⟨i1, i2, i3⟩ := ih (by omega)
    obtain ⟨f, hf⟩ : ∃ f, n - l = f + 1 := ⟨n - l - 1, by omega⟩
    rw [hf] at i3
    have hp : pct (mks c n l) + ((f + 1 : Nat) : Int) = (n : Int) := by omega
    obtain ⟨w, hw0, hw, hb, e, -⟩ := Rd_s (c := c) hn i1 hp
    have ew : wch c n l (mks c n l) = w := by
      unfold wch
      rw [hw0, show n - l - 1 = f by omega, show (l : Int) = (n : Int) - ((f : Int) + 1) by omega]
    obtain ⟨y1, y2⟩ := nx_ok hn i1 hp hw hb
    have hcw := hc ((n : Int) - ((f : Int) + 1)) w (by omega) (by omega) hw.1 hw.2
    show (0 ≤ nx (mks c n l) (wch c n l (mks c n l)) ∧ nx (mks c n l) (wch c n l (mks c n l)) < _) ∧ pct (nx (mks c n l) (wch c n l (mks c n l))) = _ ∧ Rd c n (n - (l + 1)) (nx (mks c n l) (wch c n l (mks c n l))) ≤ 240
    rw [ew, show n - (l + 1) = f by omega]
    exact ⟨y1, by omega, by omega⟩

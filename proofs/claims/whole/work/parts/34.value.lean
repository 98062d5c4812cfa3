/-! codes: a step and its number; 15 tells ALL -/
abbrev mK := Nat × Nat
def cimg (v : mK) : Int := if v.1 = 15 then 16 else ((v.2 * 16 + v.1 : Nat) : Int)
def kn1 (φ : Nat → Int) : List Int → List Int
  | a :: r => (if 0 ≤ a ∧ a < 10 then φ (33 + a).toNat else 0) :: r
  | [] => []
def dn1 : List Int → List Int
  | a :: r => (1 - a) :: r
  | [] => []
def wk1 (s : Int) : List Int → List Int
  | b :: a :: r => wkd s a b :: r
  | r => r
def ev1 (φ : Nat → Int) (v : mK) (st : List Int) : List Int :=
  if v.1 = 0 then (v.2 : Int) :: st else if v.1 = 1 then φ v.2 :: st else if v.1 = 15 then 1 :: st
  else if v.1 = 2 then kn1 φ st else if v.1 = 3 then dn1 st else wk1 (v.1 : Int) st
def evs (φ : Nat → Int) : List mK → List Int → List Int
  | [], st => st
  | v :: vs, st => evs φ vs (ev1 φ v st)
def t2 (i w : Bool) : List Bool → Option (List Bool)
  | x :: y :: r => if x = i ∧ y = i then some (w :: r) else none
  | _ => none
def t1 (i : Bool) : List Bool → Option (List Bool)
  | x :: r => if x = i then some (x :: r) else none
  | _ => none
def ty1 (v : mK) (ts : List Bool) : Option (List Bool) :=
  if 60 ≤ ts.length then none
  else if v.1 = 0 then (if v.2 < 10000 then some (false :: ts) else none)
  else if v.1 = 1 then (if v.2 < 33 then some (false :: ts) else none)
  else if v.1 = 15 then some (true :: ts)
  else if v.1 = 2 then t1 false ts
  else if v.1 = 3 then t1 true ts
  else if v.1 ≤ 9 then t2 false false ts
  else if v.1 ≤ 12 then t2 false true ts
  else if v.1 ≤ 14 then t2 true true ts
  else none
def tys : List mK → List Bool → Option (List Bool)
  | [], ts => some ts
  | v :: vs, ts => (ty1 v ts).bind (tys vs)
def okv (b : Bool) (a : Int) : Prop := (b = true → a = 0 ∨ a = 1) ∧ -1000000 ≤ a ∧ a ≤ 1000000
def okS : List Bool → List Int → Prop
  | [], [] => True
  | b :: bs, a :: as => okv b a ∧ okS bs as
  | _, _ => False
def okφ (φ : Nat → Int) : Prop := ∀ w, -1000000 ≤ φ w ∧ φ w ≤ 1000000
theorem okS_len {ts : List Bool} : ∀ {st : List Int}, okS ts st → ts.length = st.length := by
  induction ts with
  | nil => intro st h; cases st with | nil => rfl | cons a r => exact h.elim
  | cons b bs ih => intro st h; cases st with | nil => exact h.elim | cons a r => simp [ih h.2]
theorem t1_some {i : Bool} {ts ts' : List Bool} (h : t1 i ts = some ts') : ts' = ts ∧ ∃ r, ts = i :: r := by
  cases ts with
  | nil => cases h
  | cons x r =>
    unfold t1 at h
    split at h
    · next e => subst e; cases h; exact ⟨rfl, r, rfl⟩
    · cases h
theorem t2_some {i w : Bool} {ts ts' : List Bool} (h : t2 i w ts = some ts') : ∃ r, ts = i :: i :: r ∧ ts' = w :: r := by
  match ts, h with
  | [], h => cases h
  | [x], h => cases h
  | x :: y :: r, h =>
    unfold t2 at h
    split at h
    · next e => obtain ⟨e1, e2⟩ := e; subst e1; subst e2; cases h; exact ⟨r, rfl, rfl⟩
    · cases h
theorem tdiv_ab {a b : Int} (ha : -1000000 ≤ a ∧ a ≤ 1000000) : b ≠ 0 → -1000000 ≤ a.fdiv b ∧ a.fdiv b ≤ 1000000 := by
  intro hb
  have h := Int.natAbs_tdiv_le_natAbs a b
  rw [fdv hb]
  by_cases h1 : b = 1
  · subst h1; simp; split <;> omega
  by_cases h2 : b = -1
  · subst h2; simp; split <;> omega
  split
  · have h3 : a.natAbs / b.natAbs ≤ a.natAbs / 2 := Nat.div_le_div_left (by omega) (by omega)
    rw [← Int.natAbs_tdiv] at h3
    omega
  · omega
theorem if_ok {p : Prop} [Decidable p] {x y : Int} (hx : p → -1000000 ≤ x ∧ x ≤ 1000000) (hy : ¬ p → -1000000 ≤ y ∧ y ≤ 1000000) : -1000000 ≤ (if p then x else y) ∧ (if p then x else y) ≤ 1000000 := by
  by_cases h : p
  · rw [if_pos h]; exact hx h
  · rw [if_neg h]; exact hy h
theorem if_01 {p : Prop} [Decidable p] {x y : Int} (hx : p → x = 0 ∨ x = 1) (hy : ¬ p → y = 0 ∨ y = 1) : (if p then x else y) = 0 ∨ (if p then x else y) = 1 := by
  by_cases h : p
  · rw [if_pos h]; exact hx h
  · rw [if_neg h]; exact hy h
theorem wkd_ok {s a b : Int} (ha : -1000000 ≤ a ∧ a ≤ 1000000) (hb : -1000000 ≤ b ∧ b ≤ 1000000) : -1000000 ≤ wkd s a b ∧ wkd s a b ≤ 1000000 := by
  refine if_ok (fun _ => hld_rg _) fun _ => if_ok (fun _ => hld_rg _) fun _ => if_ok (fun _ => hld_rg _) fun _ => if_ok (fun _ => if_ok (fun _ => by omega) fun h => tdiv_ab ha h) fun _ => if_ok (fun _ => by omega) fun _ => if_ok (fun _ => by omega) fun _ => if_ok (fun _ => if_ok (fun _ => by omega) fun _ => by omega) fun _ => if_ok (fun _ => if_ok (fun _ => by omega) fun _ => by omega) fun _ => if_ok (fun _ => if_ok (fun _ => by omega) fun _ => by omega) fun _ => if_ok (fun _ => if_ok (fun _ => by omega) fun _ => by omega) fun _ => if_ok (fun _ => if_ok (fun _ => by omega) fun _ => by omega) fun _ => by omega
theorem wkd_01 {s a b : Int} (h : 10 ≤ s) : wkd s a b = 0 ∨ wkd s a b = 1 := by
  refine if_01 (fun _ => by omega) fun _ => if_01 (fun _ => by omega) fun _ => if_01 (fun _ => by omega) fun _ => if_01 (fun _ => by omega) fun _ => if_01 (fun _ => by omega) fun _ => if_01 (fun _ => by omega) fun _ => if_01 (fun _ => if_01 (fun _ => by omega) fun _ => by omega) fun _ => if_01 (fun _ => if_01 (fun _ => by omega) fun _ => by omega) fun _ => if_01 (fun _ => if_01 (fun _ => by omega) fun _ => by omega) fun _ => if_01 (fun _ => if_01 (fun _ => by omega) fun _ => by omega) fun _ => if_01 (fun _ => if_01 (fun _ => by omega) fun _ => by omega) fun _ => by omega
theorem ev1_ok {φ : Nat → Int} (hφ : okφ φ) {v : mK} {ts ts' : List Bool} {st : List Int} (h : ty1 v ts = some ts') (hs : okS ts st) : okS ts' (ev1 φ v st) := by
  obtain ⟨s, w⟩ := v
  unfold ty1 at h
  unfold ev1
  simp only at h ⊢
  split at h
  · cases h
  split at h
  · next e => rw [if_pos e]; split at h
              · cases h; exact ⟨⟨by simp, by omega, by omega⟩, hs⟩
              · cases h
  next e0 =>
  rw [if_neg e0]
  split at h
  · next e => rw [if_pos e]; split at h
              · cases h; exact ⟨⟨by simp, hφ w⟩, hs⟩
              · cases h
  next e1 =>
  rw [if_neg e1]
  split at h
  · next e => rw [if_pos e]; cases h; exact ⟨⟨by simp, by omega, by omega⟩, hs⟩
  next e15 =>
  rw [if_neg e15]
  split at h
  · next e =>
    rw [if_pos e]
    obtain ⟨e2, r, e3⟩ := t1_some h
    subst e2; subst e3
    cases st with
    | nil => exact hs.elim
    | cons a q =>
      refine ⟨⟨by simp, ?_⟩, hs.2⟩
      split
      · exact hφ _
      · omega
  next e2 =>
  rw [if_neg e2]
  split at h
  · next e =>
    rw [if_pos e]
    obtain ⟨e2, r, e3⟩ := t1_some h
    subst e2; subst e3
    cases st with
    | nil => exact hs.elim
    | cons a q =>
      have := hs.1.1 rfl
      exact ⟨⟨by intro; omega, by omega⟩, hs.2⟩
  next e3 =>
  rw [if_neg e3]
  have key : ∀ i w', t2 i w' ts = some ts' → (w' = true → 10 ≤ s) → okS ts' (wk1 (s : Int) st) := by
    intro i w' ht hw
    obtain ⟨r, e4, e5⟩ := t2_some ht
    subst e4; subst e5
    match st, hs with
    | b :: a :: q, hs =>
      exact ⟨⟨fun e => wkd_01 (by have := hw e; omega), wkd_ok hs.2.1.2 hs.1.2⟩, hs.2.2⟩
  split at h
  · exact key _ _ h (by simp)
  split at h
  · exact key _ _ h (by intro; omega)
  split at h
  · exact key _ _ h (by intro; omega)
  · cases h
/-- what the run needs at a code -/
theorem ty1_use {φ : Nat → Int} {v : mK} {ts ts' : List Bool} {st : List Int} (h : ty1 v ts = some ts') (hs : okS ts st) : ∃ s w : Nat, s < 15 ∧ w < 10000 ∧ cimg v = ((w * 16 + s : Nat) : Int) ∧ ev1 φ v st = ev1 φ (s, w) st ∧ st.length < 60 ∧ (s = 1 → w < 33) ∧ (s = 2 → ∃ a r, st = a :: r ∧ (-1000000 ≤ a ∧ a ≤ 1000000)) ∧ (s = 3 → ∃ a r, st = a :: r ∧ (a = 0 ∨ a = 1)) ∧ (4 ≤ s → ∃ b a r, st = b :: a :: r ∧ (-1000000 ≤ a ∧ a ≤ 1000000) ∧ (-1000000 ≤ b ∧ b ≤ 1000000) ∧ (13 ≤ s → (a = 0 ∨ a = 1) ∧ (b = 0 ∨ b = 1))) := by
  obtain ⟨s, w⟩ := v
  have hl := okS_len hs
  unfold ty1 at h
  simp only at h
  split at h
  · cases h
  next hl2 =>
  by_cases h15 : s = 15
  · subst h15
    exact ⟨0, 1, by omega, by omega, rfl, rfl, by omega, by omega, by omega, by omega, by omega⟩
  have hc : ∀ hw : w < 10000, cimg (s, w) = ((w * 16 + s : Nat) : Int) := fun _ => if_neg h15
  split at h
  · next e =>
    split at h
    · next hw => exact ⟨s, w, by omega, hw, hc hw, rfl, by omega, by omega, by omega, by omega, by omega⟩
    · cases h
  split at h
  · next e =>
    split at h
    · next hw => exact ⟨s, w, by omega, by omega, hc (by omega), rfl, by omega, by omega, by omega, by omega, by omega⟩
    · cases h
  sorry


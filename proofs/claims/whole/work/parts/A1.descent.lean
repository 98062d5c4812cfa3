/-! PARSERS, without machines: tokens by their places; the descent, and a pile that waits, tell the same -/
/-- at a place: its class, its number, how long, where the next one begins. Classes: 0 none of these, 1 number, 2 (, 3 min, 4 max, 5 a part of, 6 a part, 7 ), 8 comma, 9 *, 10 /, 11 +, 12 -, 13 <, 14 >, 15 =, 16 [, 17 ], 18 not, 19 all, 20 and, 21 or -/
abbrev mK : Type := Nat → Nat × Int × Nat × Nat
def kcl (K : mK) (p : Nat) : Nat := (K p).1
def kvl (K : mK) (p : Nat) : Int := (K p).2.1
def kln (K : mK) (p : Nat) : Nat := (K p).2.2.1
def knx (K : mK) (p : Nat) : Nat := (K p).2.2.2
/-- a fault (kind, place), or codes and what stands next -/
abbrev tR : Type := (Int × Int) ⊕ (List Int × Nat)
def seqR (a : tR) (f : List Int → Nat → tR) : tR := match a with
  | .inl e => .inl e
  | .inr x => f x.1 x.2
def loR (P : Nat → tR) (cd : Nat → Int) (K : mK) : Nat → List Int → Nat → tR
  | 0, cs, p => .inr (cs, p)
  | k + 1, cs, p => if cd p = 0 then .inr (cs, p) else seqR (P (knx K p)) (fun c q => loR P cd K k (cs ++ c ++ [cd p]) q)
def mulc (K : mK) (p : Nat) : Int := if kcl K p = 9 then 3 else if kcl K p = 10 then 4 else 0
def addc (K : mK) (p : Nat) : Int := if kcl K p = 11 then 1 else if kcl K p = 12 then 2 else 0
def andc (K : mK) (p : Nat) : Int := if kcl K p = 20 then 10 else 0
def orc (K : mK) (p : Nat) : Int := if kcl K p = 21 then 11 else 0
def cmpc (K : mK) (p : Nat) : Int := if kcl K p = 13 then 7 else if kcl K p = 14 then 8 else if kcl K p = 15 then 9 else 0
def rdF (K : mK) (rec : Nat → Nat → Nat → tR) (o p : Nat) : tR :=
  if kcl K p = 18 then (if 6 ≤ o then .inl (4, (p : Int)) else seqR (rec 2 (o + 1) (knx K p)) (fun c q => .inr (c ++ [12], q)))
  else if kcl K p = 16 then (if 6 ≤ o then .inl (4, (p : Int)) else seqR (rec 0 (o + 1) (knx K p)) (fun c q => if kcl K q = 17 then .inr (c, knx K q) else .inl (1, (q : Int))))
  else if kcl K p = 19 then .inr ([13], knx K p)
  else seqR (rec 3 o p) (fun c q => if cmpc K q = 0 then .inl (1, (q : Int)) else seqR (rec 3 o (knx K q)) (fun c2 q2 => .inr (c ++ c2 ++ [cmpc K q], q2)))
def rdM (K : mK) (rec : Nat → Nat → Nat → tR) (o p : Nat) : tR :=
  if kcl K (knx K p) ≠ 2 then .inl (1, (knx K p : Int)) else if 6 ≤ o then .inl (4, (knx K p : Int))
  else seqR (rec 3 (o + 1) (knx K (knx K p))) (fun c q => if kcl K q ≠ 8 then .inl (1, (q : Int)) else seqR (rec 3 (o + 1) (knx K q)) (fun c2 q2 => if kcl K q2 ≠ 7 then .inl (1, (q2 : Int)) else .inr (c ++ c2 ++ [if kcl K p = 3 then 5 else 6], knx K q2)))
def rdP (K : mK) (rec : Nat → Nat → Nat → tR) (o p : Nat) : tR :=
  if kcl K p = 1 then (if 4 < kln K p then .inl (1, (p : Int) + 4) else .inr ([1000 + kvl K p], knx K p))
  else if kcl K p = 2 then (if 6 ≤ o then .inl (4, (p : Int)) else seqR (rec 3 (o + 1) (knx K p)) (fun c q => if kcl K q = 7 then .inr (c, knx K q) else .inl (1, (q : Int))))
  else if kcl K p = 3 ∨ kcl K p = 4 then rdM K rec o p
  else if kcl K p = 5 then (if 6 ≤ o then .inl (4, (p : Int)) else seqR (rec 5 (o + 1) (knx K p)) (fun c q => .inr (c ++ [60], q)))
  else if kcl K p = 6 then .inr ([40 + kvl K p], knx K p)
  else .inl (1, (p : Int))
/-- the descent: 0 a test, 1 with and, 2 a fact, 3 a sum, 4 a product, 5 a part -/
def rd (K : mK) : Nat → Nat → Nat → Nat → tR
  | 0, _, _, _ => .inl (9, 0)
  | f + 1, w, o, p =>
    if w = 0 then seqR (rd K f 1 o p) (fun c q => loR (rd K f 1 o) (orc K) K 1700 c q)
    else if w = 1 then seqR (rd K f 2 o p) (fun c q => loR (rd K f 2 o) (andc K) K 1700 c q)
    else if w = 2 then rdF K (rd K f) o p
    else if w = 3 then seqR (rd K f 4 o p) (fun c q => loR (rd K f 4 o) (addc K) K 1700 c q)
    else if w = 4 then seqR (rd K f 5 o p) (fun c q => loR (rd K f 5 o) (mulc K) K 1700 c q)
    else rdP K (rd K f) o p
def okK (n : Nat) (K : mK) : Prop := ∀ p, kcl K p ≠ 0 → p < n ∧ p < knx K p ∧ knx K p ≤ n
theorem mulc_ne {K : mK} {p : Nat} (h : mulc K p ≠ 0) : kcl K p ≠ 0 := by
  intro q; apply h; unfold mulc; rw [q]; rfl
theorem addc_ne {K : mK} {p : Nat} (h : addc K p ≠ 0) : kcl K p ≠ 0 := by
  intro q; apply h; unfold addc; rw [q]; rfl
theorem andc_ne {K : mK} {p : Nat} (h : andc K p ≠ 0) : kcl K p ≠ 0 := by
  intro q; apply h; unfold andc; rw [q]; rfl
theorem orc_ne {K : mK} {p : Nat} (h : orc K p ≠ 0) : kcl K p ≠ 0 := by
  intro q; apply h; unfold orc; rw [q]; rfl
theorem cmpc_ne {K : mK} {p : Nat} (h : cmpc K p ≠ 0) : kcl K p ≠ 0 := by
  intro q; apply h; unfold cmpc; rw [q]; rfl
theorem seqR_r {a : tR} {f : List Int → Nat → tR} {c : List Int} {q : Nat} (h : seqR a f = .inr (c, q)) : ∃ c1 q1, a = .inr (c1, q1) ∧ f c1 q1 = .inr (c, q) := by
  cases a with
  | inl e => exact absurd h (by unfold seqR; simp)
  | inr x => exact ⟨x.1, x.2, rfl, h⟩
theorem seqR_l {a : tR} {f : List Int → Nat → tR} {e : Int × Int} (h : seqR a f = .inl e) : a = .inl e ∨ ∃ c1 q1, a = .inr (c1, q1) ∧ f c1 q1 = .inl e := by
  cases a with
  | inl e' => exact Or.inl h
  | inr x => exact Or.inr ⟨x.1, x.2, rfl, h⟩
theorem loR_spec {P : Nat → tR} {cd : Nat → Int} {K : mK} {n : Nat} (hK : okK n K) (hcd : ∀ p, cd p ≠ 0 → kcl K p ≠ 0) (hP : ∀ p c q, p ≤ n → P p = .inr (c, q) → p < q ∧ q ≤ n ∧ c.length + p ≤ q) : ∀ (k : Nat) (cs : List Int) (p : Nat) (c : List Int) (q : Nat), p ≤ n → n - p < k → loR P cd K k cs p = .inr (c, q) → p ≤ q ∧ q ≤ n ∧ c.length + p ≤ cs.length + q ∧ cd q = 0 := by
  intro k
  induction k with
  | zero => intro cs p c q _ h _; omega
  | succ k ih =>
    intro cs p c q hp hk h
    unfold loR at h
    by_cases e : cd p = 0
    · rw [if_pos e] at h
      cases h
      exact ⟨Nat.le_refl _, hp, Nat.le_refl _, e⟩
    · rw [if_neg e] at h
      obtain ⟨a, b, d⟩ := hK p (hcd p e)
      obtain ⟨c1, q1, h1, h2⟩ := seqR_r h
      obtain ⟨b1, b2, b3⟩ := hP _ _ _ d h1
      obtain ⟨d1, d2, d3, d4⟩ := ih _ _ _ _ b2 (by omega) h2
      simp only [List.length_append, List.length_cons, List.length_nil] at d3
      exact ⟨by omega, d2, by omega, d4⟩
/-- how far the descent comes, how many codes -/
theorem rd_pr {K : mK} {n : Nat} (hK : okK n K) (hn : n ≤ 1600) : ∀ (f w o p : Nat) (c : List Int) (q : Nat), p ≤ n → rd K f w o p = .inr (c, q) → p < q ∧ q ≤ n ∧ c.length + p ≤ q := by
  intro f
  induction f with
  | zero => intro w o p c q _ h; cases h
  | succ f ih =>
    intro w o p c q hp h
    have lo : ∀ (w' : Nat) (cd : Nat → Int), (∀ p, cd p ≠ 0 → kcl K p ≠ 0) → seqR (rd K f w' o p) (fun c q => loR (rd K f w' o) cd K 1700 c q) = .inr (c, q) → p < q ∧ q ≤ n ∧ c.length + p ≤ q := by
      intro w' cd hcd h
      obtain ⟨c1, q1, h1, h2⟩ := seqR_r h
      obtain ⟨a1, a2, a3⟩ := ih _ _ _ _ _ hp h1
      obtain ⟨d1, d2, d3, -⟩ := loR_spec hK hcd (fun p c q hp h => ih _ _ _ _ _ hp h) 1700 _ _ _ _ a2 (by omega) h2
      exact ⟨by omega, d2, by omega⟩
    unfold rd at h
    by_cases w0 : w = 0
    · rw [if_pos w0] at h; exact lo _ _ (fun p => orc_ne) h
    rw [if_neg w0] at h
    by_cases w1 : w = 1
    · rw [if_pos w1] at h; exact lo _ _ (fun p => andc_ne) h
    rw [if_neg w1] at h
    by_cases w2 : w = 2
    · rw [if_pos w2] at h
      unfold rdF at h
      by_cases k18 : kcl K p = 18
      · obtain ⟨x, y, z⟩ := hK p (by omega)
        rw [if_pos k18] at h
        split at h
        · cases h
        obtain ⟨c1, q1, h1, h2⟩ := seqR_r h
        obtain ⟨a1, a2, a3⟩ := ih _ _ _ _ _ z h1
        cases h2
        simp only [List.length_append, List.length_cons, List.length_nil]
        exact ⟨by omega, a2, by omega⟩
      rw [if_neg k18] at h
      by_cases k16 : kcl K p = 16
      · obtain ⟨x, y, z⟩ := hK p (by omega)
        rw [if_pos k16] at h
        split at h
        · cases h
        obtain ⟨c1, q1, h1, h2⟩ := seqR_r h
        obtain ⟨a1, a2, a3⟩ := ih _ _ _ _ _ z h1
        split at h2
        · next k17 =>
          obtain ⟨x', y', z'⟩ := hK q1 (by omega)
          cases h2
          exact ⟨by omega, z', by omega⟩
        · cases h2
      rw [if_neg k16] at h
      by_cases k19 : kcl K p = 19
      · obtain ⟨x, y, z⟩ := hK p (by omega)
        rw [if_pos k19] at h
        cases h
        exact ⟨y, z, by simp only [List.length_cons, List.length_nil]; omega⟩
      rw [if_neg k19] at h
      obtain ⟨c1, q1, h1, h2⟩ := seqR_r h
      obtain ⟨a1, a2, a3⟩ := ih _ _ _ _ _ hp h1
      split at h2
      · cases h2
      next kc =>
      obtain ⟨x, y, z⟩ := hK q1 (cmpc_ne kc)
      obtain ⟨c2, q2, h3, h4⟩ := seqR_r h2
      obtain ⟨b1, b2, b3⟩ := ih _ _ _ _ _ z h3
      cases h4
      simp only [List.length_append, List.length_cons, List.length_nil]
      exact ⟨by omega, b2, by omega⟩
    rw [if_neg w2] at h
    by_cases w3 : w = 3
    · rw [if_pos w3] at h; exact lo _ _ (fun p => addc_ne) h
    rw [if_neg w3] at h
    by_cases w4 : w = 4
    · rw [if_pos w4] at h; exact lo _ _ (fun p => mulc_ne) h
    rw [if_neg w4] at h
    unfold rdP at h
    by_cases k1 : kcl K p = 1
    · obtain ⟨x, y, z⟩ := hK p (by omega)
      rw [if_pos k1] at h
      split at h
      · cases h
      cases h
      exact ⟨y, z, by simp only [List.length_cons, List.length_nil]; omega⟩
    rw [if_neg k1] at h
    by_cases k2 : kcl K p = 2
    · obtain ⟨x, y, z⟩ := hK p (by omega)
      rw [if_pos k2] at h
      split at h
      · cases h
      obtain ⟨c1, q1, h1, h2⟩ := seqR_r h
      obtain ⟨a1, a2, a3⟩ := ih _ _ _ _ _ z h1
      split at h2
      · next k17 =>
        obtain ⟨x', y', z'⟩ := hK q1 (by omega)
        cases h2
        exact ⟨by omega, z', by omega⟩
      · cases h2
    rw [if_neg k2] at h
    by_cases k34 : kcl K p = 3 ∨ kcl K p = 4
    · obtain ⟨x, y, z⟩ := hK p (by omega)
      rw [if_pos k34] at h
      unfold rdM at h
      split at h
      · cases h
      next kk =>
      obtain ⟨x', y', z'⟩ := hK (knx K p) (by omega)
      split at h
      · cases h
      obtain ⟨c1, q1, h1, h2⟩ := seqR_r h
      obtain ⟨a1, a2, a3⟩ := ih _ _ _ _ _ z' h1
      split at h2
      · cases h2
      next k8 =>
      obtain ⟨x8, y8, z8⟩ := hK q1 (by omega)
      obtain ⟨c2, q2, h3, h4⟩ := seqR_r h2
      obtain ⟨b1, b2, b3⟩ := ih _ _ _ _ _ z8 h3
      split at h4
      · cases h4
      next k7 =>
      obtain ⟨x7, y7, z7⟩ := hK q2 (by omega)
      cases h4
      simp only [List.length_append, List.length_cons, List.length_nil]
      exact ⟨by omega, z7, by omega⟩
    rw [if_neg k34] at h
    by_cases k5 : kcl K p = 5
    · obtain ⟨x, y, z⟩ := hK p (by omega)
      rw [if_pos k5] at h
      split at h
      · cases h
      obtain ⟨c1, q1, h1, h2⟩ := seqR_r h
      obtain ⟨a1, a2, a3⟩ := ih _ _ _ _ _ z h1
      cases h2
      simp only [List.length_append, List.length_cons, List.length_nil]
      exact ⟨by omega, a2, by omega⟩
    rw [if_neg k5] at h
    by_cases k6 : kcl K p = 6
    · obtain ⟨x, y, z⟩ := hK p (by omega)
      rw [if_pos k6] at h
      cases h
      exact ⟨y, z, by simp only [List.length_cons, List.length_nil]; omega⟩
    rw [if_neg k6] at h
    cases h
/-- how deep the descent may go -/
def need (w o : Nat) : Nat := 8 * (6 - o) + (6 - w)
theorem rd_mono {K : mK} : ∀ (f g w o : Nat), o ≤ 6 → w ≤ 5 → need w o ≤ f → need w o ≤ g → rd K f w o = rd K g w o := by
  intro f
  induction f with
  | zero => intro g w o ho hw h _; unfold need at h; omega
  | succ f ih =>
    intro g w o ho hw h1 h2
    cases g with
    | zero => unfold need at h2; omega
    | succ g =>
      funext p
      have e : ∀ w', w' ≤ 5 → need w' o ≤ f → need w' o ≤ g → rd K f w' o = rd K g w' o := fun w' a b c => ih g w' o ho a b c
      have e2 : ∀ w', ¬ 6 ≤ o → w' ≤ 5 → need w' (o + 1) ≤ f → need w' (o + 1) ≤ g → rd K f w' (o + 1) = rd K g w' (o + 1) := fun w' z a b c => ih g w' (o + 1) (by omega) a b c
      unfold need at h1 h2 e e2
      unfold rd
      by_cases w0 : w = 0
      · rw [if_pos w0, if_pos w0, e 1 (by omega) (by omega) (by omega)]
      rw [if_neg w0, if_neg w0]
      by_cases w1 : w = 1
      · rw [if_pos w1, if_pos w1, e 2 (by omega) (by omega) (by omega)]
      rw [if_neg w1, if_neg w1]
      by_cases w2 : w = 2
      · rw [if_pos w2, if_pos w2]
        unfold rdF
        by_cases k18 : kcl K p = 18
        · rw [if_pos k18, if_pos k18]
          by_cases o6 : 6 ≤ o
          · rw [if_pos o6, if_pos o6]
          · rw [if_neg o6, if_neg o6, e2 2 o6 (by omega) (by omega) (by omega)]
        rw [if_neg k18, if_neg k18]
        by_cases k16 : kcl K p = 16
        · rw [if_pos k16, if_pos k16]
          by_cases o6 : 6 ≤ o
          · rw [if_pos o6, if_pos o6]
          · rw [if_neg o6, if_neg o6, e2 0 o6 (by omega) (by omega) (by omega)]
        rw [if_neg k16, if_neg k16, e 3 (by omega) (by omega) (by omega)]
      rw [if_neg w2, if_neg w2]
      by_cases w3 : w = 3
      · rw [if_pos w3, if_pos w3, e 4 (by omega) (by omega) (by omega)]
      rw [if_neg w3, if_neg w3]
      by_cases w4 : w = 4
      · rw [if_pos w4, if_pos w4, e 5 (by omega) (by omega) (by omega)]
      rw [if_neg w4, if_neg w4]
      unfold rdP rdM
      by_cases o6 : 6 ≤ o
      · simp only [if_pos o6]
      · rw [if_neg o6, if_neg o6, if_neg o6, if_neg o6, if_neg o6, if_neg o6, e2 3 o6 (by omega) (by omega) (by omega), e2 5 o6 (by omega) (by omega) (by omega)]
/-- a fault of the descent -/
theorem loR_l {P : Nat → tR} {cd : Nat → Int} {K : mK} {e : Int × Int} {A : Int × Int → Prop} (hP : ∀ p, P p = .inl e → A e) : ∀ (k : Nat) (cs : List Int) (p : Nat), loR P cd K k cs p = .inl e → A e := by
  intro k
  induction k with
  | zero => intro cs p h; cases h
  | succ k ih =>
    intro cs p h
    unfold loR at h
    split at h
    · cases h
    · rcases seqR_l h with h1 | ⟨c1, q1, -, h2⟩
      · exact hP _ h1
      · exact ih _ _ h2
theorem rd_l {K : mK} : ∀ (f w o p : Nat) (e : Int × Int), o ≤ 6 → w ≤ 5 → need w o ≤ f → rd K f w o p = .inl e → e.1 = 1 ∨ e.1 = 4 := by
  intro f
  induction f with
  | zero => intro w o p e ho hw h _; unfold need at h; omega
  | succ f ih =>
    intro w o p e ho hw h1 h
    have i1 : ∀ w' p', w' ≤ 5 → need w' o ≤ f → rd K f w' o p' = .inl e → e.1 = 1 ∨ e.1 = 4 := fun w' p' a b c => ih w' o p' e ho a b c
    have i2 : ∀ w' p', ¬ 6 ≤ o → w' ≤ 5 → need w' (o + 1) ≤ f → rd K f w' (o + 1) p' = .inl e → e.1 = 1 ∨ e.1 = 4 := fun w' p' z a b c => ih w' (o + 1) p' e (by omega) a b c
    unfold need at h1 i1 i2
    have lo : ∀ (w' : Nat) (cd : Nat → Int), w' ≤ 5 → 8 * (6 - o) + (6 - w') ≤ f → seqR (rd K f w' o p) (fun c q => loR (rd K f w' o) cd K 1700 c q) = .inl e → e.1 = 1 ∨ e.1 = 4 := by
      intro w' cd hw' hf h
      rcases seqR_l h with h2 | ⟨c1, q1, -, h2⟩
      · exact i1 _ _ hw' hf h2
      · exact loR_l (A := fun e => e.1 = 1 ∨ e.1 = 4) (fun p' h => i1 w' p' hw' hf h) _ _ _ h2
    have f1 : ∀ q : Int, (Sum.inl (1, q) : tR) = .inl e → e.1 = 1 ∨ e.1 = 4 := by intro q h; cases h; exact Or.inl rfl
    have f4 : ∀ q : Int, (Sum.inl (4, q) : tR) = .inl e → e.1 = 1 ∨ e.1 = 4 := by intro q h; cases h; exact Or.inr rfl
    unfold rd at h
    by_cases w0 : w = 0
    · rw [if_pos w0] at h; exact lo _ _ (by omega) (by omega) h
    rw [if_neg w0] at h
    by_cases w1 : w = 1
    · rw [if_pos w1] at h; exact lo _ _ (by omega) (by omega) h
    rw [if_neg w1] at h
    by_cases w2 : w = 2
    · rw [if_pos w2] at h
      unfold rdF at h
      split at h
      · split at h
        · exact f4 _ h
        next o6 =>
        rcases seqR_l h with h2 | ⟨c1, q1, -, h2⟩
        · exact i2 _ _ o6 (by omega) (by omega) h2
        · cases h2
      split at h
      · split at h
        · exact f4 _ h
        next o6 =>
        rcases seqR_l h with h2 | ⟨c1, q1, -, h2⟩
        · exact i2 _ _ o6 (by omega) (by omega) h2
        · split at h2
          · cases h2
          · exact f1 _ h2
      split at h
      · cases h
      rcases seqR_l h with h2 | ⟨c1, q1, -, h2⟩
      · exact i1 _ _ (by omega) (by omega) h2
      · split at h2
        · exact f1 _ h2
        rcases seqR_l h2 with h3 | ⟨c2, q2, -, h3⟩
        · exact i1 _ _ (by omega) (by omega) h3
        · cases h3
    rw [if_neg w2] at h
    by_cases w3 : w = 3
    · rw [if_pos w3] at h; exact lo _ _ (by omega) (by omega) h
    rw [if_neg w3] at h
    by_cases w4 : w = 4
    · rw [if_pos w4] at h; exact lo _ _ (by omega) (by omega) h
    rw [if_neg w4] at h
    unfold rdP at h
    split at h
    · split at h
      · exact f1 _ h
      · cases h
    split at h
    · split at h
      · exact f4 _ h
      next o6 =>
      rcases seqR_l h with h2 | ⟨c1, q1, -, h2⟩
      · exact i2 _ _ o6 (by omega) (by omega) h2
      · split at h2
        · cases h2
        · exact f1 _ h2
    split at h
    · unfold rdM at h
      split at h
      · exact f1 _ h
      split at h
      · exact f4 _ h
      next o6 =>
      rcases seqR_l h with h2 | ⟨c1, q1, -, h2⟩
      · exact i2 _ _ o6 (by omega) (by omega) h2
      · split at h2
        · exact f1 _ h2
        rcases seqR_l h2 with h3 | ⟨c2, q2, -, h3⟩
        · exact i2 _ _ o6 (by omega) (by omega) h3
        · split at h3
          · exact f1 _ h3
          · cases h3
    split at h
    · split at h
      · exact f4 _ h
      next o6 =>
      rcases seqR_l h with h2 | ⟨c1, q1, -, h2⟩
      · exact i2 _ _ o6 (by omega) (by omega) h2
      · cases h2
    split at h
    · cases h
    · exact f1 _ h

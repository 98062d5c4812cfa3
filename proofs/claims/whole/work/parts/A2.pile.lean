/-! the pile that waits: it tells what the descent tells -/
def brk : List Int → Int
  | [] => -1
  | a :: S => if 20 ≤ a ∧ a ≤ 24 then a else brk S
def dtb : List Int → List Int → List Int × List Int
  | [], cs => ([], cs)
  | a :: S, cs => if 20 ≤ a ∧ a ≤ 24 then (a :: S, cs) else dtb S (cs ++ [a])
def enp : List Int → Nat → List Int → List Int × Nat × List Int
  | [], o, cs => ([], o, cs)
  | a :: S, o, cs => if 60 ≤ a then enp S (o - 1) (cs ++ [a]) else (a :: S, o, cs)
def dpm : List Int → List Int → List Int × List Int
  | [], cs => ([], cs)
  | a :: S, cs => if a = 3 ∨ a = 4 then dpm S (cs ++ [a]) else (a :: S, cs)
def dpa : List Int → List Int → List Int × List Int
  | [], cs => ([], cs)
  | a :: S, cs => if 1 ≤ a ∧ a ≤ 4 then dpa S (cs ++ [a]) else (a :: S, cs)
def dno : List Int → Nat → List Int → List Int × Nat × List Int
  | [], o, cs => ([], o, cs)
  | a :: S, o, cs => if a = 12 then dno S (o - 1) (cs ++ [a]) else (a :: S, o, cs)
def dsq : List Int → List Int → List Int × List Int
  | [], cs => ([], cs)
  | a :: S, cs => if a = 25 then (a :: S, cs) else dsq S (cs ++ [a])
def dan : List Int → List Int → List Int × List Int
  | [], cs => ([], cs)
  | a :: S, cs => if a = 10 then dan S (cs ++ [a]) else (a :: S, cs)
def dor : List Int → List Int → List Int × List Int
  | [], cs => ([], cs)
  | a :: S, cs => if a = 10 ∨ a = 11 then dor S (cs ++ [a]) else (a :: S, cs)
/-- is a part asked; the place; what waits (the last one first); how many are open; codes -/
abbrev tS : Type := Bool × Nat × List Int × Nat × List Int
def stE (K : mK) (p : Nat) (S : List Int) (o : Nat) (cs : List Int) : tR ⊕ tS :=
  if kcl K p = 1 then (if 4 < kln K p then .inl (.inl (1, (p : Int) + 4)) else .inr (false, knx K p, enp S o (cs ++ [1000 + kvl K p])))
  else if kcl K p = 2 then (if 6 ≤ o then .inl (.inl (4, (p : Int))) else .inr (true, knx K p, 20 :: S, o + 1, cs))
  else if kcl K p = 3 ∨ kcl K p = 4 then (if kcl K (knx K p) ≠ 2 then .inl (.inl (1, (knx K p : Int))) else if 6 ≤ o then .inl (.inl (4, (knx K p : Int))) else .inr (true, knx K (knx K p), (if kcl K p = 3 then 21 else 22) :: S, o + 1, cs))
  else if kcl K p = 5 then (if 6 ≤ o then .inl (.inl (4, (p : Int))) else .inr (true, knx K p, 60 :: S, o + 1, cs))
  else if kcl K p = 6 then .inr (false, knx K p, enp S o (cs ++ [40 + kvl K p]))
  else .inl (.inl (1, (p : Int)))
def stB (K : mK) (p : Nat) (S : List Int) (o : Nat) (cs : List Int) : tR ⊕ tS :=
  if kcl K p = 7 ∧ (brk S = 20 ∨ brk S = 23 ∨ brk S = 24) then .inr (false, knx K p, enp (dtb S cs).1.tail (o - 1) (if brk S = 20 then (dtb S cs).2 else (dtb S cs).2 ++ [if brk S = 23 then 5 else 6]))
  else if mulc K p ≠ 0 then .inr (true, knx K p, mulc K p :: (dpm S cs).1, o, (dpm S cs).2)
  else if addc K p ≠ 0 then .inr (true, knx K p, addc K p :: (dpa S cs).1, o, (dpa S cs).2)
  else if brk S = 21 ∨ brk S = 22 then (if kcl K p ≠ 8 then .inl (.inl (1, (p : Int))) else .inr (true, knx K p, (brk S + 2) :: (dtb S cs).1.tail, o, (dtb S cs).2))
  else if brk S ≠ -1 then .inl (.inl (1, (p : Int)))
  else .inl (.inr (cs ++ S ++ [(o : Int)], p))
def stG (K : mK) (s : tS) : tR ⊕ tS := match s with
  | (true, p, S, o, cs) => stE K p S o cs
  | (false, p, S, o, cs) => stB K p S o cs
def teS (K : mK) (p : Nat) (S : List Int) (o : Nat) (cs : List Int) : tR ⊕ tS := match rd K 64 3 o p with
  | .inl e => .inl (.inl e)
  | .inr x => if cmpc K x.2 = 0 then .inl (.inl (1, (x.2 : Int))) else match rd K 64 3 o (knx K x.2) with
    | .inl e => .inl (.inl e)
    | .inr y => .inr (false, y.2, dno S o (cs ++ (x.1 ++ y.1 ++ [cmpc K x.2])))
def teE (K : mK) (p : Nat) (S : List Int) (o : Nat) (cs : List Int) : tR ⊕ tS :=
  if kcl K p = 18 then (if 6 ≤ o then .inl (.inl (4, (p : Int))) else .inr (true, knx K p, 12 :: S, o + 1, cs))
  else if kcl K p = 16 then (if 6 ≤ o then .inl (.inl (4, (p : Int))) else .inr (true, knx K p, 25 :: S, o + 1, cs))
  else if kcl K p = 19 then .inr (false, knx K p, dno S o (cs ++ [13]))
  else teS K p S o cs
def teB (K : mK) (p : Nat) (S : List Int) (o : Nat) (cs : List Int) : tR ⊕ tS :=
  if kcl K p = 17 ∧ 25 ∈ S then .inr (false, knx K p, dno (dsq S cs).1.tail (o - 1) (dsq S cs).2)
  else if andc K p ≠ 0 then .inr (true, knx K p, andc K p :: (dan S cs).1, o, (dan S cs).2)
  else if orc K p ≠ 0 then .inr (true, knx K p, orc K p :: (dor S cs).1, o, (dor S cs).2)
  else if 25 ∈ S then .inl (.inl (1, (p : Int)))
  else .inl (.inr (cs ++ S, p))
def stT (K : mK) (s : tS) : tR ⊕ tS := match s with
  | (true, p, S, o, cs) => teE K p S o cs
  | (false, p, S, o, cs) => teB K p S o cs
def goG (st : tS → tR ⊕ tS) : Nat → tS → Option tR
  | 0, _ => none
  | F + 1, s => match st s with
    | .inl r => some r
    | .inr s' => goG st F s'
def Go (st : tS → tR ⊕ tS) (s : tS) (r : tR) : Prop := ∃ F, goG st F s = some r
section
variable {st : tS → tR ⊕ tS} {s s' : tS} {r : tR}
theorem Go_i (h : st s = .inl r) : Go st s r := ⟨1, by unfold goG; rw [h]⟩
theorem Go_n (h : st s = .inr s') (k : Go st s' r) : Go st s r := by
  obtain ⟨F, e⟩ := k
  exact ⟨F + 1, by unfold goG; rw [h]; exact e⟩
theorem Go_u (k : Go st s r) : st s = .inl r ∨ ∃ s', st s = .inr s' ∧ Go st s' r := by
  obtain ⟨F, e⟩ := k
  cases F with
  | zero => cases e
  | succ F =>
    unfold goG at e
    cases h : st s with
    | inl r' => rw [h] at e; cases e; exact Or.inl rfl
    | inr s' => rw [h] at e; exact Or.inr ⟨s', rfl, F, e⟩
theorem Go_cg (h : st s = st s') (k : Go st s' r) : Go st s r := by
  rcases Go_u k with q | ⟨s2, q, k2⟩
  · exact Go_i (h.trans q)
  · exact Go_n (h.trans q) k2
/-- the result is one -/
theorem Go_r {r2 : tR} (h : st s = .inl r2) (k : Go st s r) : r = r2 := by
  rcases Go_u k with q | ⟨s2, q, -⟩
  · rw [h] at q; cases q; rfl
  · rw [h] at q; cases q
theorem Go_s (h : st s = .inr s') (k : Go st s r) : Go st s' r := by
  rcases Go_u k with q | ⟨s2, q, k2⟩
  · rw [h] at q; cases q
  · rw [h] at q; cases q; exact k2
end
/-- what stands at the top, if anything -/
def hd (S : List Int) (A : Int → Prop) : Prop := ∀ a S', S = a :: S' → A a
theorem hd_c {a : Int} {S : List Int} {A : Int → Prop} (h : A a) : hd (a :: S) A := by
  intro b S' e; cases e; exact h
theorem hd_n {A : Int → Prop} : hd [] A := by intro b S' e; cases e
theorem hd_m {S : List Int} {A B : Int → Prop} (h : hd S A) (k : ∀ a, A a → B a) : hd S B := fun a S' e => k a (h a S' e)
theorem enp_id {S : List Int} {o : Nat} {cs : List Int} (h : hd S (fun a => a < 60)) : enp S o cs = (S, o, cs) := by
  cases S with
  | nil => rfl
  | cons a S => have := h a S rfl; unfold enp; rw [if_neg (by omega)]
theorem dpm_id {S cs : List Int} (h : hd S (fun a => a ≠ 3 ∧ a ≠ 4)) : dpm S cs = (S, cs) := by
  cases S with
  | nil => rfl
  | cons a S => have := h a S rfl; unfold dpm; rw [if_neg (by omega)]
theorem dpa_id {S cs : List Int} (h : hd S (fun a => ¬ (1 ≤ a ∧ a ≤ 4))) : dpa S cs = (S, cs) := by
  cases S with
  | nil => rfl
  | cons a S => have := h a S rfl; unfold dpa; rw [if_neg (by omega)]
theorem dno_id {S : List Int} {o : Nat} {cs : List Int} (h : hd S (fun a => a ≠ 12)) : dno S o cs = (S, o, cs) := by
  cases S with
  | nil => rfl
  | cons a S => have := h a S rfl; unfold dno; rw [if_neg (by omega)]
theorem dan_id {S cs : List Int} (h : hd S (fun a => a ≠ 10)) : dan S cs = (S, cs) := by
  cases S with
  | nil => rfl
  | cons a S => have := h a S rfl; unfold dan; rw [if_neg (by omega)]
theorem dor_id {S cs : List Int} (h : hd S (fun a => a ≠ 10 ∧ a ≠ 11)) : dor S cs = (S, cs) := by
  cases S with
  | nil => rfl
  | cons a S => have := h a S rfl; unfold dor; rw [if_neg (by omega)]
theorem ap1 {a : Int} {cs S : List Int} : cs ++ a :: S = cs ++ [a] ++ S := by simp
section
variable {K : mK} {p : Nat} {S : List Int} {o : Nat} {cs : List Int} {a : Int}
theorem stB_m (h : a = 3 ∨ a = 4) : stB K p (a :: S) o cs = stB K p S o (cs ++ [a]) := by
  have e1 : brk (a :: S) = brk S := if_neg (by omega)
  have e2 : dtb (a :: S) cs = dtb S (cs ++ [a]) := if_neg (by omega)
  have e3 : dpm (a :: S) cs = dpm S (cs ++ [a]) := if_pos h
  have e4 : dpa (a :: S) cs = dpa S (cs ++ [a]) := if_pos (by omega)
  have e5 : cs ++ a :: S = cs ++ [a] ++ S := ap1
  unfold stB
  rw [e1, e2, e3, e4, e5]
theorem stB_a (h : a = 1 ∨ a = 2) (hm : mulc K p = 0) : stB K p (a :: S) o cs = stB K p S o (cs ++ [a]) := by
  have e1 : brk (a :: S) = brk S := if_neg (by omega)
  have e2 : dtb (a :: S) cs = dtb S (cs ++ [a]) := if_neg (by omega)
  have e4 : dpa (a :: S) cs = dpa S (cs ++ [a]) := if_pos (by omega)
  have e5 : cs ++ a :: S = cs ++ [a] ++ S := ap1
  unfold stB
  rw [e1, e2, e4, e5, if_neg (show ¬ mulc K p ≠ 0 by omega), if_neg (show ¬ mulc K p ≠ 0 by omega)]
theorem teB_n : teB K p (10 :: S) o cs = teB K p S o (cs ++ [10]) := by
  have e1 : ((25 : Int) ∈ 10 :: S) = (25 ∈ S) := by simp
  have e2 : dsq (10 :: S) cs = dsq S (cs ++ [10]) := if_neg (by decide)
  have e3 : dan (10 :: S) cs = dan S (cs ++ [10]) := if_pos rfl
  have e4 : dor (10 :: S) cs = dor S (cs ++ [10]) := if_pos (Or.inl rfl)
  unfold teB
  have e5 : cs ++ 10 :: S = cs ++ [10] ++ S := ap1
  simp only [e1, e2, e3, e4]
  rw [e5]
theorem teB_o (hm : andc K p = 0) : teB K p (11 :: S) o cs = teB K p S o (cs ++ [11]) := by
  have e1 : ((25 : Int) ∈ 11 :: S) = (25 ∈ S) := by simp
  have e2 : dsq (11 :: S) cs = dsq S (cs ++ [11]) := if_neg (by decide)
  have e4 : dor (11 :: S) cs = dor S (cs ++ [11]) := if_pos (Or.inr rfl)
  unfold teB
  have e5 : cs ++ 11 :: S = cs ++ [11] ++ S := ap1
  simp only [e1, e2, e4]
  rw [e5, if_neg (show ¬ andc K p ≠ 0 by omega), if_neg (show ¬ andc K p ≠ 0 by omega)]
theorem mulc_is (h : mulc K p ≠ 0) : (kcl K p = 9 ∨ kcl K p = 10) ∧ (mulc K p = 3 ∨ mulc K p = 4) := by
  unfold mulc at h ⊢
  split at h
  · next e => exact ⟨Or.inl e, by rw [if_pos e]; exact Or.inl rfl⟩
  · next e1 =>
    split at h
    · next e => exact ⟨Or.inr e, by rw [if_neg e1, if_pos e]; exact Or.inr rfl⟩
    · exact absurd rfl h
theorem addc_is (h : addc K p ≠ 0) : (kcl K p = 11 ∨ kcl K p = 12) ∧ (addc K p = 1 ∨ addc K p = 2) ∧ mulc K p = 0 := by
  unfold addc at h ⊢
  split at h
  · next e => exact ⟨Or.inl e, by rw [if_pos e]; exact Or.inl rfl, by unfold mulc; rw [e]; rfl⟩
  · next e1 =>
    split at h
    · next e => exact ⟨Or.inr e, by rw [if_neg e1, if_pos e]; exact Or.inr rfl, by unfold mulc; rw [e]; rfl⟩
    · exact absurd rfl h
theorem andc_is (h : andc K p ≠ 0) : kcl K p = 20 ∧ andc K p = 10 := by
  unfold andc at h ⊢
  split at h
  · next e => exact ⟨e, by rw [if_pos e]⟩
  · exact absurd rfl h
theorem orc_is (h : orc K p ≠ 0) : kcl K p = 21 ∧ orc K p = 11 ∧ andc K p = 0 := by
  unfold orc at h ⊢
  split at h
  · next e => exact ⟨e, by rw [if_pos e], by unfold andc; rw [e]; rfl⟩
  · exact absurd rfl h
end
theorem loR_inv2 {P : Nat → tR} {cd : Nat → Int} {K : mK} {n : Nat} {A : Nat → Prop} (hK : okK n K) (hcd : ∀ p, cd p ≠ 0 → kcl K p ≠ 0) (hP : ∀ p c q, p ≤ n → P p = .inr (c, q) → A q ∧ q ≤ n) : ∀ (k : Nat) (c : List Int) (p : Nat) (c' : List Int) (q : Nat), p ≤ n → A p → loR P cd K k c p = .inr (c', q) → A q := by
  intro k
  induction k with
  | zero => intro c p c' q _ h e; cases e; exact h
  | succ k ih =>
    intro c p c' q hp h e
    unfold loR at e
    split at e
    · cases e; exact h
    · next e0 =>
      obtain ⟨c1, q1, h1, h2⟩ := seqR_r e
      obtain ⟨a, b⟩ := hP _ _ _ (hK p (hcd p e0)).2.2 h1
      exact ih _ _ _ _ b a h2
theorem loR_go {G : tS → tR → Prop} {P : Nat → tR} {cd : Nat → Int} {K : mK} {n : Nat} {S : List Int} {o : Nat} (hK : okK n K) (hcd : ∀ p, cd p ≠ 0 → kcl K p ≠ 0)
    (hop : ∀ p cs r, cd p ≠ 0 → G (true, knx K p, cd p :: S, o, cs) r → G (false, p, S, o, cs) r)
    (hP1 : ∀ p p0 cs e, p ≤ n → cd p0 ≠ 0 → P p = .inl e → e.1 ≠ 9 → G (true, p, cd p0 :: S, o, cs) (.inl e))
    (hP2 : ∀ p p0 cs c q r, p ≤ n → cd p0 ≠ 0 → P p = .inr (c, q) → G (false, q, S, o, cs ++ c ++ [cd p0]) r → G (true, p, cd p0 :: S, o, cs) r)
    (hPq : ∀ p c q, p ≤ n → P p = .inr (c, q) → q ≤ n) :
    ∀ (k : Nat) (c : List Int) (p : Nat) (cs : List Int), p ≤ n → (∀ e, loR P cd K k c p = .inl e → e.1 ≠ 9 → G (false, p, S, o, cs ++ c) (.inl e)) ∧ (∀ c' q, loR P cd K k c p = .inr (c', q) → ∀ r, G (false, q, S, o, cs ++ c') r → G (false, p, S, o, cs ++ c) r) := by
  intro k
  induction k with
  | zero =>
    intro c p cs _
    exact ⟨fun e h => (by cases h), fun c' q h r g => (by cases h; exact g)⟩
  | succ k ih =>
    intro c p cs hp
    unfold loR
    by_cases e0 : cd p = 0
    · rw [if_pos e0]
      exact ⟨fun e h => (by cases h), fun c' q h r g => (by cases h; exact g)⟩
    · rw [if_neg e0]
      obtain ⟨a, b, d⟩ := hK p (hcd p e0)
      refine ⟨fun e h h9 => hop _ _ _ e0 ?_, fun c' q h r g => hop _ _ _ e0 ?_⟩
      · rcases seqR_l h with h1 | ⟨c1, q1, h1, h2⟩
        · exact hP1 _ _ _ _ d e0 h1 h9
        · have := (ih (c ++ c1 ++ [cd p]) q1 cs (hPq _ _ _ d h1)).1 e h2 h9
          exact hP2 _ _ _ _ _ _ d e0 h1 (by rw [show cs ++ c ++ c1 ++ [cd p] = cs ++ (c ++ c1 ++ [cd p]) by simp]; exact this)
      · obtain ⟨c1, q1, h1, h2⟩ := seqR_r h
        have := (ih (c ++ c1 ++ [cd p]) q1 cs (hPq _ _ _ d h1)).2 c' q h2 r g
        exact hP2 _ _ _ _ _ _ d e0 h1 (by rw [show cs ++ c ++ c1 ++ [cd p] = cs ++ (c ++ c1 ++ [cd p]) by simp]; exact this)
def go5 (K : mK) (n f : Nat) : Prop := ∀ o p S cs, p ≤ n → (∀ e, rd K f 5 o p = .inl e → e.1 ≠ 9 → Go (stG K) (true, p, S, o, cs) (.inl e)) ∧ ∀ c q, rd K f 5 o p = .inr (c, q) → ∀ r, Go (stG K) (false, q, enp S o (cs ++ c)) r → Go (stG K) (true, p, S, o, cs) r
def go4 (K : mK) (n f : Nat) : Prop := ∀ o p S cs, p ≤ n → hd S (fun a => a < 60 ∧ a ≠ 3 ∧ a ≠ 4) → (∀ e, rd K f 4 o p = .inl e → e.1 ≠ 9 → Go (stG K) (true, p, S, o, cs) (.inl e)) ∧ ∀ c q, rd K f 4 o p = .inr (c, q) → mulc K q = 0 ∧ ∀ r, Go (stG K) (false, q, S, o, cs ++ c) r → Go (stG K) (true, p, S, o, cs) r
def go3 (K : mK) (n f : Nat) : Prop := ∀ o p S cs, p ≤ n → hd S (fun a => a < 60 ∧ ¬ (1 ≤ a ∧ a ≤ 4)) → (∀ e, rd K f 3 o p = .inl e → e.1 ≠ 9 → Go (stG K) (true, p, S, o, cs) (.inl e)) ∧ ∀ c q, rd K f 3 o p = .inr (c, q) → (mulc K q = 0 ∧ addc K q = 0) ∧ ∀ r, Go (stG K) (false, q, S, o, cs ++ c) r → Go (stG K) (true, p, S, o, cs) r
section
variable {K : mK} {n : Nat}
theorem go4_s (hK : okK n K) (hn : n ≤ 1600) {f : Nat} (h5 : go5 K n f) : go4 K n (f + 1) := by
  intro o p S cs hp hS
  have lo := loR_go (G := Go (stG K)) (P := rd K f 5 o) (cd := mulc K) (S := S) (o := o) hK (fun p => mulc_ne)
    (fun p cs r h g => by
      obtain ⟨k1, k2⟩ := mulc_is h
      refine Go_n (s' := (true, knx K p, mulc K p :: S, o, cs)) ?_ g
      show stB K p S o cs = _
      unfold stB
      rw [if_neg (by omega), if_pos h, dpm_id (hd_m hS (fun a q => q.2))])
    (fun p p0 cs e hp _ h h9 => (h5 o p (mulc K p0 :: S) cs hp).1 e h h9)
    (fun p p0 cs c q r hp h0 h g => by
      obtain ⟨k1, k2⟩ := mulc_is h0
      refine (h5 o p (mulc K p0 :: S) cs hp).2 c q h r ?_
      rw [enp_id (hd_c (by omega))]
      exact Go_cg (s' := (false, q, S, o, cs ++ c ++ [mulc K p0])) (stB_m k2) g)
    (fun p c q hp h => (rd_pr hK hn _ _ _ _ _ _ hp h).2.1)
  have e : rd K (f + 1) 4 o p = seqR (rd K f 5 o p) (fun c q => loR (rd K f 5 o) (mulc K) K 1700 c q) := rfl
  rw [e]
  refine ⟨fun e h h9 => ?_, fun c q h => ?_⟩
  · rcases seqR_l h with h1 | ⟨c1, q1, h1, h2⟩
    · exact (h5 o p S cs hp).1 e h1 h9
    · have pr := rd_pr hK hn _ _ _ _ _ _ hp h1
      refine (h5 o p S cs hp).2 c1 q1 h1 _ ?_
      rw [enp_id (hd_m hS (fun a q => q.1))]
      exact (lo 1700 c1 q1 cs pr.2.1).1 e h2 h9
  · obtain ⟨c1, q1, h1, h2⟩ := seqR_r h
    have pr := rd_pr hK hn _ _ _ _ _ _ hp h1
    refine ⟨(loR_spec hK (fun p => mulc_ne) (fun p c q hp h => rd_pr hK hn _ _ _ _ _ _ hp h) 1700 _ _ _ _ pr.2.1 (by omega) h2).2.2.2, fun r g => ?_⟩
    refine (h5 o p S cs hp).2 c1 q1 h1 _ ?_
    rw [enp_id (hd_m hS (fun a q => q.1))]
    exact (lo 1700 c1 q1 cs pr.2.1).2 c q h2 r g
theorem go3_s (hK : okK n K) (hn : n ≤ 1600) {f : Nat} (h4 : go4 K n f) : go3 K n (f + 1) := by
  intro o p S cs hp hS
  have hS4 : hd S (fun a => a < 60 ∧ a ≠ 3 ∧ a ≠ 4) := hd_m hS (fun a q => ⟨q.1, by omega, by omega⟩)
  have lo := loR_go (G := Go (stG K)) (P := rd K f 4 o) (cd := addc K) (S := S) (o := o) hK (fun p => addc_ne)
    (fun p cs r h g => by
      obtain ⟨k1, k2, k3⟩ := addc_is h
      refine Go_n (s' := (true, knx K p, addc K p :: S, o, cs)) ?_ g
      show stB K p S o cs = _
      unfold stB
      rw [if_neg (by omega), if_neg (by omega), if_pos h, dpa_id (hd_m hS (fun a q => q.2))])
    (fun p p0 cs e hp h0 h h9 => by
      obtain ⟨k1, k2, k3⟩ := addc_is h0
      exact (h4 o p (addc K p0 :: S) cs hp (hd_c ⟨by omega, by omega, by omega⟩)).1 e h h9)
    (fun p p0 cs c q r hp h0 h g => by
      obtain ⟨k1, k2, k3⟩ := addc_is h0
      obtain ⟨m0, g0⟩ := (h4 o p (addc K p0 :: S) cs hp (hd_c ⟨by omega, by omega, by omega⟩)).2 c q h
      exact g0 r (Go_cg (s' := (false, q, S, o, cs ++ c ++ [addc K p0])) (stB_a k2 m0) g))
    (fun p c q hp h => (rd_pr hK hn _ _ _ _ _ _ hp h).2.1)
  have e : rd K (f + 1) 3 o p = seqR (rd K f 4 o p) (fun c q => loR (rd K f 4 o) (addc K) K 1700 c q) := rfl
  rw [e]
  refine ⟨fun e h h9 => ?_, fun c q h => ?_⟩
  · rcases seqR_l h with h1 | ⟨c1, q1, h1, h2⟩
    · exact (h4 o p S cs hp hS4).1 e h1 h9
    · have pr := rd_pr hK hn _ _ _ _ _ _ hp h1
      exact ((h4 o p S cs hp hS4).2 c1 q1 h1).2 _ ((lo 1700 c1 q1 cs pr.2.1).1 e h2 h9)
  · obtain ⟨c1, q1, h1, h2⟩ := seqR_r h
    have pr := rd_pr hK hn _ _ _ _ _ _ hp h1
    have m1 := ((h4 o p S cs hp hS4).2 c1 q1 h1).1
    refine ⟨⟨?_, (loR_spec hK (fun p => addc_ne) (fun p c q hp h => rd_pr hK hn _ _ _ _ _ _ hp h) 1700 _ _ _ _ pr.2.1 (by omega) h2).2.2.2⟩, fun r g => ?_⟩
    · exact (loR_inv2 (n := n) (A := fun q => mulc K q = 0) hK (fun p => addc_ne) (fun p c q hp h => ⟨((h4 o p [] [] hp hd_n).2 c q h).1, (rd_pr hK hn _ _ _ _ _ _ hp h).2.1⟩) 1700 _ _ _ _ pr.2.1 m1 h2)
    · exact ((h4 o p S cs hp hS4).2 c1 q1 h1).2 _ ((lo 1700 c1 q1 cs pr.2.1).2 c q h2 r g)
end

/-! the descent's codes tell one number, with a pile that is low enough; what they ask -/
theorem evs_app {fa kn : Int → Int} : ∀ {c1 c2 s : List Int}, evs fa kn (c1 ++ c2) s = match evs fa kn c1 s with
    | some s' => evs fa kn c2 s'
    | none => none
  | [], c2, s => rfl
  | v :: c1, c2, s => by
    have h1 : ∀ cs, evs fa kn (v :: cs) s = (match est fa kn v s with
      | some s' => evs fa kn cs s'
      | none => none) := fun _ => rfl
    show evs fa kn (v :: (c1 ++ c2)) s = _
    rw [h1, h1]
    cases est fa kn v s with
    | none => rfl
    | some s' => exact evs_app
theorem evs_1 {fa kn : Int → Int} {v : Int} {s : List Int} : evs fa kn [v] s = est fa kn v s := by
  unfold evs
  cases est fa kn v s with
  | none => rfl
  | some s' => rfl
theorem okc_up {b : Bool} {h h' : Nat} {c : List Int} (k : okc b h c) (hh : h ≤ h') : okc b h' c := fun fa kn hf s hs => k fa kn hf s (by omega)
theorem okc_num {n : Int} (h : 0 ≤ n ∧ n ≤ 9999) : okc false 1 [1000 + n] := by
  intro fa kn hf s hs
  refine ⟨n, ?_, ⟨by omega, by omega⟩, fun q => by cases q⟩
  rw [evs_1]; unfold est
  rw [if_pos ⟨by omega, by omega⟩, if_pos (by omega), show 1000 + n - 1000 = n by omega]
theorem okc_fact {k : Int} (h : 0 ≤ k ∧ k ≤ 9) : okc false 1 [40 + k] := by
  intro fa kn hf s hs
  refine ⟨fa k, ?_, hf.1 k, fun q => by cases q⟩
  rw [evs_1]; unfold est
  rw [if_neg (by omega), if_neg (by omega), if_pos ⟨by omega, by omega⟩, if_pos (by omega), show 40 + k - 40 = k by omega]
theorem okc_all : okc true 1 [13] := by
  intro fa kn hf s hs
  refine ⟨1, ?_, ⟨by decide, by decide⟩, fun _ => Or.inr rfl⟩
  rw [evs_1]; unfold est
  rw [if_neg (by decide), if_neg (by decide), if_neg (by decide), if_pos rfl, if_pos (by omega)]
theorem okc_of {h : Nat} {c : List Int} (k : okc false h c) : okc false h (c ++ [60]) := by
  intro fa kn hf s hs
  obtain ⟨x, e, hx, -⟩ := k fa kn hf s hs
  refine ⟨kn x, ?_, hf.2 x, fun q => by cases q⟩
  rw [evs_app, e]
  show evs fa kn [60] (x :: s) = _
  rw [evs_1]; unfold est
  rw [if_neg (by decide), if_pos rfl]
  show (if -1000000 ≤ x ∧ x ≤ 1000000 then some (kn x :: s) else none) = _
  rw [if_pos hx]
theorem okc_not {h : Nat} {c : List Int} (k : okc true h c) : okc true h (c ++ [12]) := by
  intro fa kn hf s hs
  obtain ⟨x, e, hx, h01⟩ := k fa kn hf s hs
  have h01 := h01 rfl
  refine ⟨1 - x, ?_, ⟨by omega, by omega⟩, fun _ => by omega⟩
  rw [evs_app, e]
  show evs fa kn [12] (x :: s) = _
  rw [evs_1]; unfold est
  rw [if_neg (by decide), if_neg (by decide), if_neg (by decide), if_neg (by decide), if_pos rfl]
  show (if x = 0 ∨ x = 1 then some ((1 - x) :: s) else none) = _
  rw [if_pos h01]
theorem okc_join {b : Bool} {h h2 : Nat} {c1 c2 : List Int} {v : Int} (hv : 1 ≤ v ∧ v ≤ 11) (k1 : okc (decide (10 ≤ v)) h c1) (k2 : okc (decide (10 ≤ v)) h2 c2) (hh : h2 + 1 ≤ h) (hb : b = true → 7 ≤ v) : okc b h (c1 ++ c2 ++ [v]) := by
  intro fa kn hf s hs
  obtain ⟨x, e, hx, tx⟩ := k1 fa kn hf s hs
  obtain ⟨y, e2, hy, ty⟩ := k2 fa kn hf (x :: s) (by rw [List.length_cons]; omega)
  refine ⟨jn v x y, ?_, jn_bd hx hy, fun q => ?_⟩
  · rw [evs_app, evs_app, e]
    show (match evs fa kn c2 (x :: s) with
      | some s' => evs fa kn [v] s'
      | none => none) = _
    rw [e2]
    show evs fa kn [v] (y :: x :: s) = _
    rw [evs_1]; unfold est
    rw [if_neg (by omega), if_neg (by omega), if_neg (by omega), if_neg (by omega), if_neg (by omega), if_pos hv]
    show (if (-1000000 ≤ x ∧ x ≤ 1000000) ∧ (-1000000 ≤ y ∧ y ≤ 1000000) ∧ (10 ≤ v → (x = 0 ∨ x = 1) ∧ (y = 0 ∨ y = 1)) then some (jn v x y :: s) else none) = _
    rw [if_pos ⟨hx, hy, fun q => ⟨tx (by simpa using q), ty (by simpa using q)⟩⟩]
  · have h7 := hb q
    unfold jn
    rw [if_neg (by omega), if_neg (by omega), if_neg (by omega), if_neg (by omega), if_neg (by omega), if_neg (by omega)]
    (repeat' split) <;> first | exact Or.inl rfl | exact Or.inr rfl
theorem loR_ok {P : Nat → tR} {cd : Nat → Int} {K : mK} {A B : List Int → Prop} (hP : ∀ p c q, P p = .inr (c, q) → B c) (hj : ∀ p c1 c2, cd p ≠ 0 → A c1 → B c2 → A (c1 ++ c2 ++ [cd p])) : ∀ (k : Nat) (c : List Int) (p : Nat) (c' : List Int) (q : Nat), A c → loR P cd K k c p = .inr (c', q) → A c' := by
  intro k
  induction k with
  | zero => intro c p c' q h e; cases e; exact h
  | succ k ih =>
    intro c p c' q h e
    unfold loR at e
    split at e
    · cases e; exact h
    · next e0 =>
      obtain ⟨c1, q1, h1, h2⟩ := seqR_r e
      exact ih _ _ _ _ (hj _ _ _ e0 h (hP _ _ _ h1)) h2
/-- what the codes ask: parts of S alone, parts of numbers only where b5 -/
def pkS (S : List Int) (b5 : Prop) (cs : List Int) : Prop := ∀ v ∈ cs, (1 ≤ v ∧ v ≤ 10999) ∧ (v ≤ 13 ∨ (40 ≤ v ∧ v ≤ 49 ∧ v - 40 ∈ S) ∨ (v = 60 ∧ b5) ∨ 1000 ≤ v)
def okK3 (S : List Int) (b5 : Prop) (K : mK) : Prop := ∀ p, (kcl K p = 1 → kln K p ≤ 4 → 0 ≤ kvl K p ∧ kvl K p ≤ 9999) ∧ (kcl K p = 6 → (0 ≤ kvl K p ∧ kvl K p ≤ 9) ∧ kvl K p ∈ S) ∧ (kcl K p = 5 → b5)
theorem pkS_app {S : List Int} {b5 : Prop} {c1 c2 : List Int} (h1 : pkS S b5 c1) (h2 : pkS S b5 c2) : pkS S b5 (c1 ++ c2) := fun v hv => by
  rcases List.mem_append.mp hv with h | h
  · exact h1 v h
  · exact h2 v h
theorem pkS_1 {S : List Int} {b5 : Prop} {v : Int} (h : (1 ≤ v ∧ v ≤ 10999) ∧ (v ≤ 13 ∨ (40 ≤ v ∧ v ≤ 49 ∧ v - 40 ∈ S) ∨ (v = 60 ∧ b5) ∨ 1000 ≤ v)) : pkS S b5 [v] := fun w hw => by
  rw [List.mem_singleton.mp hw]; exact h
theorem pkS_pok {S : List Int} {c : List Int} (h : pkS S False c) : pok S c := fun v hv => by
  obtain ⟨a, b⟩ := h v hv
  rcases b with b | ⟨b1, b2, b3⟩ | ⟨b1, b2⟩ | b
  · exact ⟨by omega, fun q => by omega⟩
  · exact ⟨by omega, fun _ _ => b3⟩
  · exact b2.elim
  · exact ⟨by omega, fun q => by omega⟩
/-- how high the pile comes -/
def hgt (w o : Nat) : Nat := (6 - w) + 3 * (6 - o)
theorem rd_ok {K : mK} {S : List Int} {b5 : Prop} (hK : okK3 S b5 K) : ∀ (f w o p : Nat) (c : List Int) (q : Nat), o ≤ 6 → w ≤ 5 → rd K f w o p = .inr (c, q) → okc (decide (w ≤ 2)) (hgt w o) c ∧ pkS S b5 c := by
  intro f
  induction f with
  | zero => intro w o p c q _ _ h; cases h
  | succ f ih =>
    intro w o p c q ho hw h
    have lo : ∀ (w' : Nat) (cd : Nat → Int), w' ≤ 5 → w = w' - 1 → 1 ≤ w' → decide (w ≤ 2) = decide (w' ≤ 2) → (∀ p, cd p ≠ 0 → 1 ≤ cd p ∧ cd p ≤ 11 ∧ (w' ≤ 2 ↔ 10 ≤ cd p)) → seqR (rd K f w' o p) (fun c q => loR (rd K f w' o) cd K 1700 c q) = .inr (c, q) → okc (decide (w ≤ 2)) (hgt w o) c ∧ pkS S b5 c := by
      intro w' cd hw' hww h1 hd hcd h
      obtain ⟨c1, q1, h2, h3⟩ := seqR_r h
      obtain ⟨a1, a2⟩ := ih w' o p c1 q1 ho hw' h2
      rw [hd]
      refine loR_ok (A := fun c => okc (decide (w' ≤ 2)) (hgt w o) c ∧ pkS S b5 c) (B := fun c => okc (decide (w' ≤ 2)) (hgt w' o) c ∧ pkS S b5 c) (fun p c q h => ih w' o p c q ho hw' h) (fun p c1 c2 e0 x1 x2 => ?_) 1700 _ _ _ _ ⟨okc_up a1 (by unfold hgt; omega), a2⟩ h3
      obtain ⟨d1, d2, d3⟩ := hcd p e0
      have dd : decide (w' ≤ 2) = decide (10 ≤ cd p) := decide_eq_decide.mpr d3
      refine ⟨?_, pkS_app (pkS_app x1.2 x2.2) (pkS_1 ⟨⟨by omega, by omega⟩, Or.inl (by omega)⟩)⟩
      have y1 := x1.1
      have y2 := x2.1
      rw [dd] at y1 y2
      refine okc_join ⟨d1, d2⟩ y1 y2 (by unfold hgt; omega) (fun q => ?_)
      rw [dd] at q
      have := of_decide_eq_true q
      omega
    unfold rd at h
    by_cases w0 : w = 0
    · rw [if_pos w0] at h
      exact lo 1 _ (by decide) (by omega) (by decide) (by rw [w0]; rfl) (fun p e => by have := orc_is e; omega) h
    rw [if_neg w0] at h
    by_cases w1 : w = 1
    · rw [if_pos w1] at h
      exact lo 2 _ (by decide) (by omega) (by decide) (by rw [w1]; rfl) (fun p e => by have := andc_is e; omega) h
    rw [if_neg w1] at h
    by_cases w2 : w = 2
    · rw [if_pos w2] at h
      subst w2
      show okc true (hgt 2 o) c ∧ _
      unfold rdF at h
      split at h
      · split at h
        · cases h
        obtain ⟨c1, q1, h1, h2⟩ := seqR_r h
        obtain ⟨a1, a2⟩ := ih 2 (o + 1) _ _ _ (by omega) (by decide) h1
        cases h2
        exact ⟨okc_up (okc_not a1) (by unfold hgt; omega), pkS_app a2 (pkS_1 ⟨⟨by decide, by decide⟩, Or.inl (by decide)⟩)⟩
      split at h
      · split at h
        · cases h
        obtain ⟨c1, q1, h1, h2⟩ := seqR_r h
        obtain ⟨a1, a2⟩ := ih 0 (o + 1) _ _ _ (by omega) (by decide) h1
        split at h2
        · cases h2
          exact ⟨okc_up a1 (by unfold hgt; omega), a2⟩
        · cases h2
      split at h
      · cases h
        exact ⟨okc_up okc_all (by unfold hgt; omega), pkS_1 ⟨⟨by decide, by decide⟩, Or.inl (by decide)⟩⟩
      obtain ⟨c1, q1, h1, h2⟩ := seqR_r h
      obtain ⟨a1, a2⟩ := ih 3 o _ _ _ ho (by decide) h1
      split at h2
      · cases h2
      next kc =>
      obtain ⟨c2, q2, h3, h4⟩ := seqR_r h2
      obtain ⟨b1, b2⟩ := ih 3 o _ _ _ ho (by decide) h3
      cases h4
      have hc : 7 ≤ cmpc K q1 ∧ cmpc K q1 ≤ 9 := by
        revert kc; unfold cmpc
        (repeat' split) <;> omega
      have dd : decide (3 ≤ 2) = decide (10 ≤ cmpc K q1) := decide_eq_decide.mpr (by omega)
      rw [dd] at a1 b1
      exact ⟨okc_join (by omega) (okc_up a1 (by unfold hgt; omega)) b1 (by unfold hgt; omega) (fun _ => hc.1), pkS_app (pkS_app a2 b2) (pkS_1 ⟨⟨by omega, by omega⟩, Or.inl (by omega)⟩)⟩
    rw [if_neg w2] at h
    by_cases w3 : w = 3
    · rw [if_pos w3] at h
      exact lo 4 _ (by decide) (by omega) (by decide) (by rw [w3]; rfl) (fun p e => by have := addc_is e; omega) h
    rw [if_neg w3] at h
    by_cases w4 : w = 4
    · rw [if_pos w4] at h
      exact lo 5 _ (by decide) (by omega) (by decide) (by rw [w4]; rfl) (fun p e => by have := mulc_is e; omega) h
    rw [if_neg w4] at h
    have w5 : w = 5 := by omega
    subst w5
    show okc false (hgt 5 o) c ∧ _
    unfold rdP at h
    split at h
    · next k1 =>
      split at h
      · cases h
      · next l4 =>
        cases h
        have r := (hK p).1 k1 (by omega)
        exact ⟨okc_up (okc_num r) (by unfold hgt; omega), pkS_1 ⟨⟨by omega, by omega⟩, Or.inr (Or.inr (Or.inr (by omega)))⟩⟩
    split at h
    · split at h
      · cases h
      obtain ⟨c1, q1, h1, h2⟩ := seqR_r h
      obtain ⟨a1, a2⟩ := ih 3 (o + 1) _ _ _ (by omega) (by decide) h1
      split at h2
      · cases h2
        exact ⟨okc_up a1 (by unfold hgt; omega), a2⟩
      · cases h2
    split at h
    · unfold rdM at h
      split at h
      · cases h
      split at h
      · cases h
      obtain ⟨c1, q1, h1, h2⟩ := seqR_r h
      obtain ⟨a1, a2⟩ := ih 3 (o + 1) _ _ _ (by omega) (by decide) h1
      split at h2
      · cases h2
      obtain ⟨c2, q2, h3, h4⟩ := seqR_r h2
      obtain ⟨b1, b2⟩ := ih 3 (o + 1) _ _ _ (by omega) (by decide) h3
      split at h4
      · cases h4
      cases h4
      have hv : 5 ≤ (if kcl K p = 3 then (5 : Int) else 6) ∧ (if kcl K p = 3 then (5 : Int) else 6) ≤ 6 := by split <;> decide
      have dd : decide (3 ≤ 2) = decide (10 ≤ (if kcl K p = 3 then (5 : Int) else 6)) := decide_eq_decide.mpr (by omega)
      rw [dd] at a1 b1
      exact ⟨okc_join (by omega) (okc_up a1 (by unfold hgt; omega)) b1 (by unfold hgt; omega) (fun q => by cases q), pkS_app (pkS_app a2 b2) (pkS_1 ⟨⟨by omega, by omega⟩, Or.inl (by omega)⟩)⟩
    split at h
    · next k5 =>
      split at h
      · cases h
      obtain ⟨c1, q1, h1, h2⟩ := seqR_r h
      obtain ⟨a1, a2⟩ := ih 5 (o + 1) _ _ _ (by omega) (by decide) h1
      cases h2
      exact ⟨okc_up (okc_of a1) (by unfold hgt; omega), pkS_app a2 (pkS_1 ⟨⟨by decide, by decide⟩, Or.inr (Or.inr (Or.inl ⟨rfl, (hK p).2.2 k5⟩))⟩)⟩
    split at h
    · next k6 =>
      cases h
      obtain ⟨r1, r2⟩ := (hK p).2.1 k6
      refine ⟨okc_up (okc_fact r1) (by unfold hgt; omega), pkS_1 ⟨⟨by omega, by omega⟩, Or.inr (Or.inl ⟨by omega, by omega, ?_⟩)⟩⟩
      rw [show 40 + kvl K p - 40 = kvl K p by omega]; exact r2
    · cases h

/-! the pile that waits, sums and tests: the whole -/
section
variable {K : mK} {n : Nat}
theorem cl_mul {p k : Nat} (h : kcl K p = k) (h9 : k ≠ 9 ∧ k ≠ 10) : mulc K p = 0 := by
  unfold mulc; rw [if_neg (by omega), if_neg (by omega)]
theorem cl_add {p k : Nat} (h : kcl K p = k) (h9 : k ≠ 11 ∧ k ≠ 12) : addc K p = 0 := by
  unfold addc; rw [if_neg (by omega), if_neg (by omega)]
/-- a ( that is closed; a comma; nothing there -/
theorem stB_7 {q : Nat} {b : Int} {S : List Int} {o : Nat} {cs : List Int} (h : kcl K q = 7) (hb : b = 20 ∨ b = 23 ∨ b = 24) : stB K q (b :: S) (o + 1) cs = .inr (false, knx K q, enp S o (if b = 20 then cs else cs ++ [if b = 23 then 5 else 6])) := by
  have e1 : brk (b :: S) = b := if_pos (by omega)
  have e2 : dtb (b :: S) cs = (b :: S, cs) := if_pos (by omega)
  unfold stB
  rw [e1, e2, if_pos ⟨h, hb⟩]
  rfl
theorem stB_8 {q : Nat} {b : Int} {S : List Int} {o : Nat} {cs : List Int} (h : kcl K q = 8) (hb : b = 21 ∨ b = 22) : stB K q (b :: S) o cs = .inr (true, knx K q, (b + 2) :: S, o, cs) := by
  have e1 : brk (b :: S) = b := if_pos (by omega)
  have e2 : dtb (b :: S) cs = (b :: S, cs) := if_pos (by omega)
  unfold stB
  rw [e1, e2, if_neg (by omega), if_neg (by rw [cl_mul h (by decide)]; decide), if_neg (by rw [cl_add h (by decide)]; decide), if_pos hb, if_neg (by omega)]
  rfl
theorem stB_x {q : Nat} {b : Int} {S : List Int} {o : Nat} {cs : List Int} (hm : mulc K q = 0) (ha : addc K q = 0) (hb : ((b = 20 ∨ b = 23 ∨ b = 24) ∧ kcl K q ≠ 7) ∨ ((b = 21 ∨ b = 22) ∧ kcl K q ≠ 8)) : stB K q (b :: S) o cs = .inl (.inl (1, (q : Int))) := by
  have e1 : brk (b :: S) = b := if_pos (by omega)
  unfold stB
  rw [e1, if_neg (by omega), if_neg (by omega), if_neg (by omega)]
  rcases hb with ⟨hb, h⟩ | ⟨hb, h⟩
  · rw [if_neg (by omega), if_pos (by omega)]
  · rw [if_pos hb, if_pos h]
theorem go5_s (hK : okK n K) (hn : n ≤ 1600) {f : Nat} (h5 : go5 K n f) (h3 : go3 K n f) : go5 K n (f + 1) := by
  intro o p S cs hp
  have e : rd K (f + 1) 5 o p = rdP K (rd K f) o p := rfl
  rw [e]
  have eE : ∀ (p : Nat) (S : List Int) (o : Nat) (cs : List Int), stG K (true, p, S, o, cs) = stE K p S o cs := fun _ _ _ _ => rfl
  have eB : ∀ (p : Nat) (S : List Int) (o : Nat) (cs : List Int), stG K (false, p, S, o, cs) = stB K p S o cs := fun _ _ _ _ => rfl
  unfold rdP
  by_cases k1 : kcl K p = 1
  · rw [if_pos k1]
    by_cases l : 4 < kln K p
    · rw [if_pos l]
      refine ⟨fun e h _ => ?_, fun c q h => by cases h⟩
      cases h
      exact Go_i (by rw [eE]; unfold stE; rw [if_pos k1, if_pos l])
    · rw [if_neg l]
      refine ⟨fun e h _ => (by cases h), fun c q h r g => ?_⟩
      cases h
      exact Go_n (by rw [eE]; unfold stE; rw [if_pos k1, if_neg l]) g
  rw [if_neg k1]
  by_cases k2 : kcl K p = 2
  · rw [if_pos k2]
    by_cases o6 : 6 ≤ o
    · rw [if_pos o6]
      refine ⟨fun e h _ => ?_, fun c q h => by cases h⟩
      cases h
      exact Go_i (by rw [eE]; unfold stE; rw [if_neg k1, if_pos k2, if_pos o6])
    · rw [if_neg o6]
      have hk := hK p (by omega)
      have s1 : stG K (true, p, S, o, cs) = .inr (true, knx K p, 20 :: S, o + 1, cs) := by rw [eE]; unfold stE; rw [if_neg k1, if_pos k2, if_neg o6]
      obtain ⟨g1, g2⟩ := h3 (o + 1) (knx K p) (20 :: S) cs hk.2.2 (hd_c ⟨by decide, by decide⟩)
      refine ⟨fun e h h9 => Go_n s1 ?_, fun c q h r g => Go_n s1 ?_⟩
      · rcases seqR_l h with h1 | ⟨c1, q1, h1, h2⟩
        · exact g1 e h1 h9
        · obtain ⟨m, g3⟩ := g2 c1 q1 h1
          split at h2
          · cases h2
          · next h7 =>
            cases h2
            exact g3 _ (Go_i (by rw [eB]; exact stB_x m.1 m.2 (Or.inl ⟨Or.inl rfl, h7⟩)))
      · obtain ⟨c1, q1, h1, h2⟩ := seqR_r h
        obtain ⟨m, g3⟩ := g2 c1 q1 h1
        split at h2
        · next h7 =>
          cases h2
          exact g3 _ (Go_n (by rw [eB]; exact stB_7 h7 (Or.inl rfl)) g)
        · cases h2
  rw [if_neg k2]
  by_cases k34 : kcl K p = 3 ∨ kcl K p = 4
  · rw [if_pos k34]
    unfold rdM
    by_cases kk : kcl K (knx K p) ≠ 2
    · rw [if_pos kk]
      refine ⟨fun e h _ => ?_, fun c q h => by cases h⟩
      cases h
      exact Go_i (by rw [eE]; unfold stE; rw [if_neg k1, if_neg k2, if_pos k34, if_pos kk])
    rw [if_neg kk]
    by_cases o6 : 6 ≤ o
    · rw [if_pos o6]
      refine ⟨fun e h _ => ?_, fun c q h => by cases h⟩
      cases h
      exact Go_i (by rw [eE]; unfold stE; rw [if_neg k1, if_neg k2, if_pos k34, if_neg kk, if_pos o6])
    rw [if_neg o6]
    have hk := hK (knx K p) (by omega)
    have s1 : stG K (true, p, S, o, cs) = .inr (true, knx K (knx K p), (if kcl K p = 3 then 21 else 22) :: S, o + 1, cs) := by rw [eE]; unfold stE; rw [if_neg k1, if_neg k2, if_pos k34, if_neg kk, if_neg o6]
    obtain ⟨b, hb⟩ : ∃ b : Int, b = if kcl K p = 3 then 21 else 22 := ⟨_, rfl⟩
    have hb2 : b = 21 ∨ b = 22 := by rw [hb]; split <;> simp
    have hb5 : (if b + 2 = 23 then (5 : Int) else 6) = if kcl K p = 3 then 5 else 6 := by
      rw [hb]
      by_cases q : kcl K p = 3
      · simp [q]
      · simp [q]
    rw [← hb] at s1
    rw [← hb5]
    obtain ⟨g1, g2⟩ := h3 (o + 1) (knx K (knx K p)) (b :: S) cs hk.2.2 (hd_c ⟨by omega, by omega⟩)
    refine ⟨fun e h h9 => Go_n s1 ?_, fun c q h r g => Go_n s1 ?_⟩
    · rcases seqR_l h with h1 | ⟨c1, q1, h1, h2⟩
      · exact g1 e h1 h9
      · obtain ⟨m, g3⟩ := g2 c1 q1 h1
        split at h2
        · next h8 =>
          cases h2
          exact g3 _ (Go_i (by rw [eB]; exact stB_x m.1 m.2 (Or.inr ⟨hb2, h8⟩)))
        · next h8 =>
          have h8' : kcl K q1 = 8 := by omega
          have hk1 := hK q1 (by omega)
          obtain ⟨g4, g5⟩ := h3 (o + 1) (knx K q1) ((b + 2) :: S) (cs ++ c1) hk1.2.2 (hd_c ⟨by omega, by omega⟩)
          refine g3 _ (Go_n (by rw [eB]; exact stB_8 h8' hb2) ?_)
          rcases seqR_l h2 with h3' | ⟨c2, q2, h3', h4⟩
          · exact g4 e h3' h9
          · obtain ⟨m2, g6⟩ := g5 c2 q2 h3'
            split at h4
            · next h7 =>
              cases h4
              exact g6 _ (Go_i (by rw [eB]; exact stB_x m2.1 m2.2 (Or.inl ⟨by omega, h7⟩)))
            · cases h4
    · obtain ⟨c1, q1, h1, h2⟩ := seqR_r h
      obtain ⟨m, g3⟩ := g2 c1 q1 h1
      split at h2
      · cases h2
      · next h8 =>
        have h8' : kcl K q1 = 8 := by omega
        have hk1 := hK q1 (by omega)
        obtain ⟨g4, g5⟩ := h3 (o + 1) (knx K q1) ((b + 2) :: S) (cs ++ c1) hk1.2.2 (hd_c ⟨by omega, by omega⟩)
        refine g3 _ (Go_n (by rw [eB]; exact stB_8 h8' hb2) ?_)
        obtain ⟨c2, q2, h3', h4⟩ := seqR_r h2
        obtain ⟨m2, g6⟩ := g5 c2 q2 h3'
        split at h4
        · cases h4
        · next h7 =>
          have h7' : kcl K q2 = 7 := by omega
          cases h4
          refine g6 _ (Go_n (by rw [eB]; exact stB_7 h7' (by omega)) ?_)
          rw [if_neg (by omega), show cs ++ c1 ++ c2 ++ [if b + 2 = 23 then (5 : Int) else 6] = cs ++ (c1 ++ c2 ++ [if b + 2 = 23 then (5 : Int) else 6]) by simp]
          exact g
  rw [if_neg k34]
  by_cases k5 : kcl K p = 5
  · rw [if_pos k5]
    by_cases o6 : 6 ≤ o
    · rw [if_pos o6]
      refine ⟨fun e h _ => ?_, fun c q h => by cases h⟩
      cases h
      exact Go_i (by rw [eE]; unfold stE; rw [if_neg k1, if_neg k2, if_neg k34, if_pos k5, if_pos o6])
    rw [if_neg o6]
    have hk := hK p (by omega)
    have s1 : stG K (true, p, S, o, cs) = .inr (true, knx K p, 60 :: S, o + 1, cs) := by rw [eE]; unfold stE; rw [if_neg k1, if_neg k2, if_neg k34, if_pos k5, if_neg o6]
    obtain ⟨g1, g2⟩ := h5 (o + 1) (knx K p) (60 :: S) cs hk.2.2
    refine ⟨fun e h h9 => Go_n s1 ?_, fun c q h r g => Go_n s1 ?_⟩
    · rcases seqR_l h with h1 | ⟨c1, q1, h1, h2⟩
      · exact g1 e h1 h9
      · cases h2
    · obtain ⟨c1, q1, h1, h2⟩ := seqR_r h
      cases h2
      refine g2 c1 _ h1 r ?_
      have e60 : enp (60 :: S) (o + 1) (cs ++ c1) = enp S o (cs ++ c1 ++ [60]) := if_pos (by decide)
      rw [e60, List.append_assoc]
      exact g
  rw [if_neg k5]
  by_cases k6 : kcl K p = 6
  · rw [if_pos k6]
    refine ⟨fun e h _ => (by cases h), fun c q h r g => ?_⟩
    cases h
    exact Go_n (by rw [eE]; unfold stE; rw [if_neg k1, if_neg k2, if_neg k34, if_neg k5, if_pos k6]) g
  rw [if_neg k6]
  refine ⟨fun e h _ => ?_, fun c q h => by cases h⟩
  cases h
  exact Go_i (by rw [eE]; unfold stE; rw [if_neg k1, if_neg k2, if_neg k34, if_neg k5, if_neg k6])
theorem go_all (hK : okK n K) (hn : n ≤ 1600) : ∀ f, go5 K n f ∧ go4 K n f ∧ go3 K n f := by
  intro f
  induction f with
  | zero => exact ⟨fun o p S cs _ => ⟨fun e h h9 => by cases h; exact absurd rfl h9, fun c q h => by cases h⟩, fun o p S cs _ _ => ⟨fun e h h9 => by cases h; exact absurd rfl h9, fun c q h => by cases h⟩, fun o p S cs _ _ => ⟨fun e h h9 => by cases h; exact absurd rfl h9, fun c q h => by cases h⟩⟩
  | succ f ih => exact ⟨go5_s hK hn ih.1 ih.2.2, go4_s hK hn ih.1, go3_s hK hn ih.2.1⟩
/-- a sum by the pile -/
theorem go_sum (hK : okK n K) (hn : n ≤ 1600) {o p : Nat} {cs : List Int} (hp : p ≤ n) (ho : o ≤ 6) : (∀ e, rd K 64 3 o p = .inl e → Go (stG K) (true, p, [], o, cs) (.inl e)) ∧ (∀ c q, rd K 64 3 o p = .inr (c, q) → Go (stG K) (true, p, [], o, cs) (.inr (cs ++ c ++ [(o : Int)], q))) := by
  obtain ⟨g1, g2⟩ := (go_all hK hn 64).2.2 o p [] cs hp hd_n
  refine ⟨fun e h => g1 e h ?_, fun c q h => ?_⟩
  · have := rd_l 64 3 o p e ho (by decide) (by unfold need; omega) h
    omega
  · obtain ⟨m, g3⟩ := g2 c q h
    refine g3 _ (Go_i ?_)
    show stB K q [] o (cs ++ c) = _
    unfold stB
    rw [if_neg (by rintro ⟨-, x⟩; revert x; decide), if_neg (by omega), if_neg (by omega), if_neg (by decide), if_neg (by decide), List.append_nil]
def go2 (K : mK) (n f : Nat) : Prop := ∀ o p S cs, p ≤ n → o ≤ 6 → need 2 o ≤ f → (∀ e, rd K f 2 o p = .inl e → e.1 ≠ 9 → Go (stT K) (true, p, S, o, cs) (.inl e)) ∧ ∀ c q, rd K f 2 o p = .inr (c, q) → ∀ r, Go (stT K) (false, q, dno S o (cs ++ c)) r → Go (stT K) (true, p, S, o, cs) r
def go1 (K : mK) (n f : Nat) : Prop := ∀ o p S cs, p ≤ n → o ≤ 6 → need 1 o ≤ f → hd S (fun a => a ≠ 12 ∧ a ≠ 10) → (∀ e, rd K f 1 o p = .inl e → e.1 ≠ 9 → Go (stT K) (true, p, S, o, cs) (.inl e)) ∧ ∀ c q, rd K f 1 o p = .inr (c, q) → andc K q = 0 ∧ ∀ r, Go (stT K) (false, q, S, o, cs ++ c) r → Go (stT K) (true, p, S, o, cs) r
def go0 (K : mK) (n f : Nat) : Prop := ∀ o p S cs, p ≤ n → o ≤ 6 → need 0 o ≤ f → hd S (fun a => a ≠ 12 ∧ a ≠ 10 ∧ a ≠ 11) → (∀ e, rd K f 0 o p = .inl e → e.1 ≠ 9 → Go (stT K) (true, p, S, o, cs) (.inl e)) ∧ ∀ c q, rd K f 0 o p = .inr (c, q) → (andc K q = 0 ∧ orc K q = 0) ∧ ∀ r, Go (stT K) (false, q, S, o, cs ++ c) r → Go (stT K) (true, p, S, o, cs) r
theorem go1_s (hK : okK n K) (hn : n ≤ 1600) {f : Nat} (h5 : go2 K n f) : go1 K n (f + 1) := by
  intro o p S cs hp ho hf hS
  have hf2 : need 2 o ≤ f := by unfold need at hf ⊢; omega
  have lo := loR_go (G := Go (stT K)) (P := rd K f 2 o) (cd := andc K) (S := S) (o := o) hK (fun p => andc_ne)
    (fun p cs r h g => by
      obtain ⟨k1, k2⟩ := andc_is h
      refine Go_n (s' := (true, knx K p, andc K p :: S, o, cs)) ?_ g
      show teB K p S o cs = _
      unfold teB
      rw [if_neg (by omega), if_pos h, dan_id (hd_m hS (fun a q => q.2))])
    (fun p p0 cs e hp _ h h9 => (h5 o p (andc K p0 :: S) cs hp ho hf2).1 e h h9)
    (fun p p0 cs c q r hp h0 h g => by
      obtain ⟨k1, k2⟩ := andc_is h0
      refine (h5 o p (andc K p0 :: S) cs hp ho hf2).2 c q h r ?_
      rw [k2] at g ⊢
      rw [dno_id (hd_c (by decide))]
      exact Go_cg (s' := (false, q, S, o, cs ++ c ++ [10])) teB_n g)
    (fun p c q hp h => (rd_pr hK hn _ _ _ _ _ _ hp h).2.1)
  have e : rd K (f + 1) 1 o p = seqR (rd K f 2 o p) (fun c q => loR (rd K f 2 o) (andc K) K 1700 c q) := rfl
  rw [e]
  refine ⟨fun e h h9 => ?_, fun c q h => ?_⟩
  · rcases seqR_l h with h1 | ⟨c1, q1, h1, h2⟩
    · exact (h5 o p S cs hp ho hf2).1 e h1 h9
    · have pr := rd_pr hK hn _ _ _ _ _ _ hp h1
      refine (h5 o p S cs hp ho hf2).2 c1 q1 h1 _ ?_
      rw [dno_id (hd_m hS (fun a q => q.1))]
      exact (lo 1700 c1 q1 cs pr.2.1).1 e h2 h9
  · obtain ⟨c1, q1, h1, h2⟩ := seqR_r h
    have pr := rd_pr hK hn _ _ _ _ _ _ hp h1
    refine ⟨(loR_spec hK (fun p => andc_ne) (fun p c q hp h => rd_pr hK hn _ _ _ _ _ _ hp h) 1700 _ _ _ _ pr.2.1 (by omega) h2).2.2.2, fun r g => ?_⟩
    refine (h5 o p S cs hp ho hf2).2 c1 q1 h1 _ ?_
    rw [dno_id (hd_m hS (fun a q => q.1))]
    exact (lo 1700 c1 q1 cs pr.2.1).2 c q h2 r g
theorem go0_s (hK : okK n K) (hn : n ≤ 1600) {f : Nat} (h4 : go1 K n f) : go0 K n (f + 1) := by
  intro o p S cs hp ho hf hS
  have hf2 : need 1 o ≤ f := by unfold need at hf ⊢; omega
  have hS4 : hd S (fun a => a ≠ 12 ∧ a ≠ 10) := hd_m hS (fun a q => ⟨q.1, q.2.1⟩)
  have lo := loR_go (G := Go (stT K)) (P := rd K f 1 o) (cd := orc K) (S := S) (o := o) hK (fun p => orc_ne)
    (fun p cs r h g => by
      obtain ⟨k1, k2, k3⟩ := orc_is h
      refine Go_n (s' := (true, knx K p, orc K p :: S, o, cs)) ?_ g
      show teB K p S o cs = _
      unfold teB
      rw [if_neg (by omega), if_neg (by omega), if_pos h, dor_id (hd_m hS (fun a q => q.2))])
    (fun p p0 cs e hp h0 h h9 => by
      obtain ⟨k1, k2, k3⟩ := orc_is h0
      exact (h4 o p (orc K p0 :: S) cs hp ho hf2 (hd_c ⟨by omega, by omega⟩)).1 e h h9)
    (fun p p0 cs c q r hp h0 h g => by
      obtain ⟨k1, k2, k3⟩ := orc_is h0
      obtain ⟨m0, g0⟩ := (h4 o p (orc K p0 :: S) cs hp ho hf2 (hd_c ⟨by omega, by omega⟩)).2 c q h
      rw [k2] at g g0 ⊢
      exact g0 r (Go_cg (s' := (false, q, S, o, cs ++ c ++ [11])) (teB_o m0) g))
    (fun p c q hp h => (rd_pr hK hn _ _ _ _ _ _ hp h).2.1)
  have e : rd K (f + 1) 0 o p = seqR (rd K f 1 o p) (fun c q => loR (rd K f 1 o) (orc K) K 1700 c q) := rfl
  rw [e]
  refine ⟨fun e h h9 => ?_, fun c q h => ?_⟩
  · rcases seqR_l h with h1 | ⟨c1, q1, h1, h2⟩
    · exact (h4 o p S cs hp ho hf2 hS4).1 e h1 h9
    · have pr := rd_pr hK hn _ _ _ _ _ _ hp h1
      exact ((h4 o p S cs hp ho hf2 hS4).2 c1 q1 h1).2 _ ((lo 1700 c1 q1 cs pr.2.1).1 e h2 h9)
  · obtain ⟨c1, q1, h1, h2⟩ := seqR_r h
    have pr := rd_pr hK hn _ _ _ _ _ _ hp h1
    have m1 := ((h4 o p S cs hp ho hf2 hS4).2 c1 q1 h1).1
    refine ⟨⟨?_, (loR_spec hK (fun p => orc_ne) (fun p c q hp h => rd_pr hK hn _ _ _ _ _ _ hp h) 1700 _ _ _ _ pr.2.1 (by omega) h2).2.2.2⟩, fun r g => ?_⟩
    · exact (loR_inv2 (n := n) (A := fun q => andc K q = 0) hK (fun p => orc_ne) (fun p c q hp h => ⟨((h4 o p [] [] hp ho hf2 hd_n).2 c q h).1, (rd_pr hK hn _ _ _ _ _ _ hp h).2.1⟩) 1700 _ _ _ _ pr.2.1 m1 h2)
    · exact ((h4 o p S cs hp ho hf2 hS4).2 c1 q1 h1).2 _ ((lo 1700 c1 q1 cs pr.2.1).2 c q h2 r g)
theorem go2_s (hK : okK n K) (hn : n ≤ 1600) {f : Nat} (h2' : go2 K n f) (h0 : go0 K n f) : go2 K n (f + 1) := by
  intro o p S cs hp ho hf
  have e : rd K (f + 1) 2 o p = rdF K (rd K f) o p := rfl
  rw [e]
  have eE : ∀ (p : Nat) (S : List Int) (o : Nat) (cs : List Int), stT K (true, p, S, o, cs) = teE K p S o cs := fun _ _ _ _ => rfl
  have eB : ∀ (p : Nat) (S : List Int) (o : Nat) (cs : List Int), stT K (false, p, S, o, cs) = teB K p S o cs := fun _ _ _ _ => rfl
  unfold rdF
  by_cases k18 : kcl K p = 18
  · rw [if_pos k18]
    by_cases o6 : 6 ≤ o
    · rw [if_pos o6]
      refine ⟨fun e h _ => ?_, fun c q h => by cases h⟩
      cases h
      exact Go_i (by rw [eE]; unfold teE; rw [if_pos k18, if_pos o6])
    rw [if_neg o6]
    have hk := hK p (by omega)
    have s1 : stT K (true, p, S, o, cs) = .inr (true, knx K p, 12 :: S, o + 1, cs) := by rw [eE]; unfold teE; rw [if_pos k18, if_neg o6]
    obtain ⟨g1, g2⟩ := h2' (o + 1) (knx K p) (12 :: S) cs hk.2.2 (by omega) (by unfold need at hf ⊢; omega)
    refine ⟨fun e h h9 => Go_n s1 ?_, fun c q h r g => Go_n s1 ?_⟩
    · rcases seqR_l h with h1 | ⟨c1, q1, h1, h2⟩
      · exact g1 e h1 h9
      · cases h2
    · obtain ⟨c1, q1, h1, h2⟩ := seqR_r h
      cases h2
      refine g2 c1 _ h1 r ?_
      have e12 : dno (12 :: S) (o + 1) (cs ++ c1) = dno S o (cs ++ c1 ++ [12]) := if_pos rfl
      rw [e12, List.append_assoc]
      exact g
  rw [if_neg k18]
  by_cases k16 : kcl K p = 16
  · rw [if_pos k16]
    by_cases o6 : 6 ≤ o
    · rw [if_pos o6]
      refine ⟨fun e h _ => ?_, fun c q h => by cases h⟩
      cases h
      exact Go_i (by rw [eE]; unfold teE; rw [if_neg k18, if_pos k16, if_pos o6])
    rw [if_neg o6]
    have hk := hK p (by omega)
    have ed : ∀ y : List Int, dsq (25 :: S) y = (25 :: S, y) := fun y => if_pos rfl
    have s1 : stT K (true, p, S, o, cs) = .inr (true, knx K p, 25 :: S, o + 1, cs) := by rw [eE]; unfold teE; rw [if_neg k18, if_pos k16, if_neg o6]
    obtain ⟨g1, g2⟩ := h0 (o + 1) (knx K p) (25 :: S) cs hk.2.2 (by omega) (by unfold need at hf ⊢; omega) (hd_c (by decide))
    refine ⟨fun e h h9 => Go_n s1 ?_, fun c q h r g => Go_n s1 ?_⟩
    · rcases seqR_l h with h1 | ⟨c1, q1, h1, h2⟩
      · exact g1 e h1 h9
      · obtain ⟨m, g3⟩ := g2 c1 q1 h1
        split at h2
        · cases h2
        · next h7 =>
          cases h2
          refine g3 _ (Go_i ?_)
          rw [eB]; unfold teB
          rw [if_neg (by omega), if_neg (by omega), if_neg (by omega), if_pos List.mem_cons_self]
    · obtain ⟨c1, q1, h1, h2⟩ := seqR_r h
      obtain ⟨m, g3⟩ := g2 c1 q1 h1
      split at h2
      · next h7 =>
        cases h2
        refine g3 _ (Go_n ?_ g)
        rw [eB]; unfold teB
        rw [if_pos ⟨h7, List.mem_cons_self⟩, ed]
        rfl
      · cases h2
  rw [if_neg k16]
  by_cases k19 : kcl K p = 19
  · rw [if_pos k19]
    refine ⟨fun e h _ => (by cases h), fun c q h r g => ?_⟩
    cases h
    exact Go_n (by rw [eE]; unfold teE; rw [if_neg k18, if_neg k16, if_pos k19]) g
  rw [if_neg k19]
  have m3 : rd K f 3 o = rd K 64 3 o := rd_mono f 64 3 o ho (by decide) (by unfold need at hf ⊢; omega) (by unfold need; omega)
  rw [m3]
  have ee : stT K (true, p, S, o, cs) = teS K p S o cs := by
    rw [eE]; unfold teE; rw [if_neg k18, if_neg k16, if_neg k19]
  refine ⟨fun e h h9 => Go_i ?_, fun c q h r g => Go_n ?_ g⟩
  · rw [ee]; unfold teS
    rcases seqR_l h with h1 | ⟨c1, q1, h1, h2⟩
    · rw [h1]
    · rw [h1]
      show (if cmpc K q1 = 0 then _ else _) = _
      split at h2
      · next k0 => cases h2; rw [if_pos k0]
      · next k0 =>
        rw [if_neg k0]
        rcases seqR_l h2 with h3 | ⟨c2, q2, h3, h4⟩
        · rw [h3]
        · cases h4
  · rw [ee]; unfold teS
    obtain ⟨c1, q1, h1, h2⟩ := seqR_r h
    rw [h1]
    show (if cmpc K q1 = 0 then _ else _) = _
    split at h2
    · cases h2
    · next k0 =>
      rw [if_neg k0]
      obtain ⟨c2, q2, h3, h4⟩ := seqR_r h2
      rw [h3]
      cases h4
      rfl
theorem got_all (hK : okK n K) (hn : n ≤ 1600) : ∀ f, go2 K n f ∧ go1 K n f ∧ go0 K n f := by
  intro f
  induction f with
  | zero => exact ⟨fun o p S cs _ _ h => by (unfold need at h; omega), fun o p S cs _ _ h => by (unfold need at h; omega), fun o p S cs _ _ h => by (unfold need at h; omega)⟩
  | succ f ih => exact ⟨go2_s hK hn ih.1 ih.2.2, go1_s hK hn ih.1, go0_s hK hn ih.2.1⟩
/-- a test by the pile -/
theorem go_test (hK : okK n K) (hn : n ≤ 1600) {p : Nat} (hp : p ≤ n) : (∀ e, rd K 64 0 0 p = .inl e → Go (stT K) (true, p, [], 0, []) (.inl e)) ∧ (∀ c q, rd K 64 0 0 p = .inr (c, q) → Go (stT K) (true, p, [], 0, []) (.inr (c, q))) := by
  obtain ⟨g1, g2⟩ := (got_all hK hn 64).2.2 0 p [] [] hp (by decide) (by decide) hd_n
  refine ⟨fun e h => g1 e h ?_, fun c q h => ?_⟩
  · have := rd_l 64 0 0 p e (by decide) (by decide) (by decide) h
    omega
  · obtain ⟨m, g3⟩ := g2 c q h
    refine g3 _ (Go_i ?_)
    show teB K q [] 0 ([] ++ c) = _
    unfold teB
    rw [if_neg (by simp), if_neg (by omega), if_neg (by omega), if_neg (by simp), List.append_nil, List.nil_append]
end

/-! made: the words -/
def awB (t : Nat) : Nat → Int → Int → Int → Nat → Option Nat
  | 0, _, _, _, _ => none
  | f + 1, x2, x3, x4, n =>
    if slen t ≤ x4 then some n
    else if (0 ≤ x4 ∧ x4 ≤ 2000) ∧ (-1000 ≤ stx t x4 ∧ stx t x4 ≤ 1000) then (
      if stx t x4 = 32 then (if n < 33 ∧ wf33 (n : Int) = x2 then awB t f 0 0 (x4 + 1) (n + 1) else none)
      else if (0 ≤ 5 * x3 ∧ 5 * x3 < 32) ∧ (0 ≤ x2 ∧ 0 ≤ shl ((stx t x4 - 97) + 1) (5 * x3)) then awB t f (bor x2 (shl ((stx t x4 - 97) + 1) (5 * x3))) (x3 + 1) (x4 + 1) n
      else none)
    else none
theorem aw_12 : (awB 1 300 0 0 0 0).bind (fun n => awB 2 300 0 0 0 n) = some 33 := by decide +kernel
section
variable {G : mG} {V : mV} {r t : Nat}
theorem l_words (hG : is7 G (r + 11)) (hq : qG G (r + 12) = 33) (ht : t = 1 ∨ t = 2) : ∀ (f : Nat) (x2 x3 x4 : Int) (n n' : Nat) (V : mV) (fu : Nat), f < fu → n ≤ 33 → -2000 ≤ x4 ∧ x4 ≤ 3000 → awB t f x2 x3 x4 n = some n' → rw' V (r + 11) (n : Int) wf33 →
    ∃ V' q, lp (fun (s : Int × Int × Int) V => B_X6_addWords_7 G r t s.1 s.2.1 s.2.2 V) fu (x2, x3, x4) V = some (V', q) ∧ fr (fun i => i = r + 11 ∨ i = r + 12) V V' ∧ rw' V' (r + 11) (n' : Int) wf33 ∧ n' ≤ 33 := by
  intro f
  induction f with
  | zero => intro x2 x3 x4 n n' V fu _ _ _ h; cases h
  | succ f ih =>
    intro x2 x3 x4 n n' V fu hf hn hx4 h hr
    obtain ⟨fu, rfl⟩ : ∃ i, fu = i + 1 := ⟨fu - 1, by omega⟩
    have hs : rg (slen t) := by rcases ht with rfl | rfl <;> exact ⟨by decide, by decide⟩
    have hx : rg x4 := ⟨by omega, by omega⟩
    unfold awB at h
    by_cases c1 : slen t ≤ x4
    · rw [if_pos c1] at h
      cases h
      refine ⟨V, (1, (x2, x3, x4)), lp_stop ?_ Nat.one_ne_zero (by omega), fr_refl, hr, hn⟩
      show B_X6_addWords_7 G r t x2 x3 x4 V = _
      unfold B_X6_addWords_7
      exact E_gd hx (E_gd hs (E_if (fun _ => rfl) (fun q => absurd c1 q)))
    rw [if_neg c1] at h
    by_cases c2 : (0 ≤ x4 ∧ x4 ≤ 2000) ∧ (-1000 ≤ stx t x4 ∧ stx t x4 ≤ 1000)
    rotate_left
    · rw [if_neg c2] at h; cases h
    rw [if_pos c2] at h
    have hst : rg (stx t x4) := ⟨by omega, by omega⟩
    by_cases c3 : stx t x4 = 32
    · rw [if_pos c3] at h
      by_cases c4 : n < 33 ∧ wf33 (n : Int) = x2
      rotate_left
      · rw [if_neg c4] at h; cases h
      rw [if_pos c4] at h
      obtain ⟨V1, e1, k1, w1⟩ := rw_add (cap := 33) hG hq hr ⟨by omega, by omega⟩ c4.2
      obtain ⟨V', q, e, k, w, b⟩ := ih 0 0 (x4 + 1) (n + 1) n' V1 fu (by omega) (by omega) (by omega) h w1
      refine ⟨V', q, ?_, k1.trans k, w, b⟩
      refine (lp_more (s' := (0, 0, x4 + 1)) ?_).trans e
      show B_X6_addWords_7 G r t x2 x3 x4 V = _
      unfold B_X6_addWords_7
      exact E_gd hx (E_gd hs (E_if (fun q => absurd q c1) (fun _ => E_gd ⟨c2.1.1, by omega⟩ (E_gd hst (E_if (fun _ => E_bd e1 rfl) (fun q => absurd c3 q))))))
    · rw [if_neg c3] at h
      by_cases c5 : (0 ≤ 5 * x3 ∧ 5 * x3 < 32) ∧ (0 ≤ x2 ∧ 0 ≤ shl ((stx t x4 - 97) + 1) (5 * x3))
      rotate_left
      · rw [if_neg c5] at h; cases h
      rw [if_pos c5] at h
      obtain ⟨V', q, e, k, w, b⟩ := ih _ _ _ n n' V fu (by omega) hn (by omega) h hr
      refine ⟨V', q, ?_, k, w, b⟩
      refine (lp_more ?_).trans e
      show B_X6_addWords_7 G r t x2 x3 x4 V = _
      unfold B_X6_addWords_7
      exact E_gd hx (E_gd hs (E_if (fun q => absurd q c1) (fun _ => E_gd ⟨c2.1.1, by omega⟩ (E_gd hst (E_if (fun q => absurd q c3) (fun _ => E_gd c5.1 (E_gd c5.2 rfl)))))))
theorem words_made (hG : is7 G (r + 11)) (hq : qG G (r + 12) = 33) (h0 : gI V (r + 11) 1 = 0) : ∃ V1 V2, F_X6_addWords G r 1 V = some (V1, 0) ∧ F_X6_addWords G r 2 V1 = some (V2, 0) ∧ fr (fun i => i = r + 11 ∨ i = r + 12) V V2 ∧ rw' V2 (r + 11) 33 wf33 := by
  have h := aw_12
  cases h1 : awB 1 300 0 0 0 0 with
  | none => rw [h1] at h; cases h
  | some n =>
    rw [h1] at h
    have h2 : awB 2 300 0 0 0 n = some 33 := h
    obtain ⟨V1, q1, e1, k1, w1, b1⟩ := l_words hG hq (Or.inl rfl) 300 0 0 0 0 n V FU (by unfold FU; decide) (by decide) (by decide) h1 ⟨h0, fun j a b => by have b' : j < 0 := b; omega⟩
    obtain ⟨V2, q2, e2, k2, w2, b2⟩ := l_words hG hq (Or.inr rfl) 300 0 0 0 n 33 V1 FU (by unfold FU; decide) b1 (by decide) h2 w1
    refine ⟨V1, V2, ?_, ?_, k1.trans k2, w2⟩
    · unfold F_X6_addWords; exact E_bd e1 rfl
    · unfold F_X6_addWords; exact E_bd e2 rfl
end

/-! the reference's past -/
/-- cells a .. a + k - 1 are as f -/
def ut (a k : Nat) (f g : Nat → Int) : Nat → Int := fun i => if a ≤ i ∧ i < a + k then f (i - a) else g i
theorem ut_0 {a : Nat} {f g : Nat → Int} : ut a 0 f g = g := by funext i; unfold ut; rw [if_neg (by omega)]
theorem ut_s {a k : Nat} {f g : Nat → Int} : uN (ut a k f g) (a + k) (f k) = ut a (k + 1) f g := by
  funext i
  unfold uN ut
  by_cases h : i = a + k
  · rw [if_pos h, if_pos (by omega), h, Nat.add_sub_cancel_left]
  · rw [if_neg h]
    by_cases h2 : a ≤ i ∧ i < a + k
    · rw [if_pos h2, if_pos (by omega)]
    · rw [if_neg h2, if_neg (by omega)]
section
variable {G : mG} {V : mV} {m : Nat} {n : Int} {M : mMo} {P : List mMo}
theorem sF_ut {a b k : Nat} {f : Nat → Int} : sA (sF V a (ut b k f (gA V a))) a (b + k) (f k) = sF V a (ut b (k + 1) f (gA V a)) := by
  rw [sA_sF, sF_sF]
  apply sF_cg
  intro c
  rw [gA_sFe, ← ut_s]; rfl
/-- what remembering changes -/
def rK (m : Nat) (V V' : mV) : Prop := (∀ i, i ≠ m + 44 → gA V' i = gA V i) ∧ (∀ i k, (i ≠ m ∨ (k ≠ 69 ∧ k ≠ 70)) → gI V' i k = gI V i k) ∧ gJ V' = gJ V ∧ gL V' = gL V
theorem r_keeps (hn : n ≤ 10) (hM : rM (gA V (m + 37)) n M) (hoM : (me M).length ≤ 40) (hP : rPa V m n P) (hoP : ∀ Q ∈ P, (me Q).length ≤ 40) :
    ∃ V', F_X10_keeps G m V = some (V', 0) ∧ rK m V V' ∧ rPa V' m n ((M :: P).take 20) := by
  obtain ⟨p1, p2, p3, p4⟩ := hP
  have ht : (gI V m 70 + 1).tmod 20 = (gI V m 70 + 1) % 20 := Int.tmod_eq_emod_of_nonneg (by omega)
  obtain ⟨W, hW⟩ : ∃ W, W = sI V m 70 ((gI V m 70 + 1) % 20) := ⟨_, rfl⟩
  have w70 : gI W m 70 = (gI V m 70 + 1) % 20 := by rw [hW, gI_sI, if_pos ⟨rfl, rfl⟩]
  have w69 : gI W m 69 = (P.length : Int) := by rw [hW, gI_sI, if_neg (by rintro ⟨-, q⟩; cases q)]; exact p1
  have wA : gA W = gA V := by rw [hW]; rfl
  have key := E_for (B := fun (s : Int) V => B_X10_keeps_15 G m s V) (t := 1) (by decide) (fun j => (j : Int)) (fun j => sF W (m + 44) (ut (282 * ((gI V m 70 + 1) % 20).toNat) j (gA W (m + 37)) (gA W (m + 44)))) 282 ?_ ?_ FU (by decide)
  · have e0 : sF W (m + 44) (ut (282 * ((gI V m 70 + 1) % 20).toNat) 0 (gA W (m + 37)) (gA W (m + 44))) = W := sF_id (fun b => by rw [ut_0])
    rw [e0] at key
    obtain ⟨U, hU⟩ : ∃ U, U = sF W (m + 44) (ut (282 * ((gI V m 70 + 1) % 20).toNat) 282 (gA W (m + 37)) (gA W (m + 44))) := ⟨_, rfl⟩
    rw [← hU] at key
    have u70 : gI U m 70 = (gI V m 70 + 1) % 20 := by rw [hU]; exact w70
    have u69 : gI U m 69 = (P.length : Int) := by rw [hU]; exact w69
    have uA : gA U (m + 44) = ut (282 * ((gI V m 70 + 1) % 20).toNat) 282 (gA V (m + 37)) (gA V (m + 44)) := by rw [hU, gA_sFe, wA]
    have kU : rK m V U := ⟨fun i hi => by rw [hU, gA_sFo hi, wA], fun i k q => by rw [hU, gI_sF, hW, gI_sI, if_neg (by omega)], by rw [hU, hW]; rfl, by rw [hU, hW]; rfl⟩
    have ent : ∀ (U' : mV), gA U' (m + 44) = gA U (m + 44) → gI U' m 70 = gI U m 70 → ∀ i : Nat, i < ((M :: P).take 20).length → rM (fun k => gA U' (m + 44) (282 * ((gI U' m 70 - i) % 20).toNat + k)) n (((M :: P).take 20).getD i m00) := by
      intro U' a b i hi
      have hi20 : i < 20 := by rw [List.length_take] at hi; omega
      rw [tk_get hi20, a, b, u70, uA]
      cases i with
      | zero =>
        have e : (((gI V m 70 + 1) % 20 - ((0 : Nat) : Int)) % 20).toNat = ((gI V m 70 + 1) % 20).toNat := by omega
        rw [e]
        refine rM_cgs hn hoM (fun k hk => ?_) hM
        show ut _ 282 _ _ _ = _
        unfold ut
        rw [if_pos (by omega), Nat.add_sub_cancel_left]
      | succ i =>
        have hi' : i < P.length := by rw [List.length_take, List.length_cons] at hi; omega
        rw [cn_get]
        have e : (((gI V m 70 + 1) % 20 - ((i + 1 : Nat) : Int)) % 20).toNat = ((gI V m 70 - (i : Int)) % 20).toNat := by omega
        rw [e]
        have ne : ((gI V m 70 - (i : Int)) % 20).toNat ≠ ((gI V m 70 + 1) % 20).toNat := by omega
        have hq : P.getD i m00 ∈ P := by rw [List.getD_eq_getElem?_getD, List.getElem?_eq_getElem hi']; exact List.getElem_mem hi'
        refine rM_cgs hn (hoP _ hq) (fun k hk => ?_) (p4 i hi')
        show ut _ 282 _ _ _ = _
        unfold ut
        rw [if_neg (by omega)]
    by_cases hl : 20 ≤ gI U m 69
    · refine ⟨U, ?_, kU, ?_, by rw [List.length_take]; omega, by rw [u70]; omega, ent U rfl rfl⟩
      · unfold F_X10_keeps
        refine E_gd ⟨by omega, by omega⟩ (E_lt ?_)
        rw [ht, ← hW]
        exact E_bd key (E_gd ⟨by omega, by omega⟩ (E_if (fun _ => rfl) (fun q => absurd hl q)))
      · rw [u69, tk_len p2]; omega
    · refine ⟨sI U m 69 (gI U m 69 + 1), ?_, ⟨kU.1, fun i k q => by rw [gI_sI, if_neg (by omega)]; exact kU.2.1 i k q, kU.2.2.1, kU.2.2.2⟩, ?_, by rw [List.length_take]; omega, ?_, ent _ rfl (by rw [gI_sI, if_neg (by rintro ⟨-, q⟩; cases q)])⟩
      · unfold F_X10_keeps
        refine E_gd ⟨by omega, by omega⟩ (E_lt ?_)
        rw [ht, ← hW]
        exact E_bd key (E_gd ⟨by omega, by omega⟩ (E_if (fun q => absurd q hl) (fun _ => E_lt rfl)))
      · rw [gI_sI, if_pos ⟨rfl, rfl⟩, u69, tk_len p2]; omega
      · rw [gI_sI, if_neg (by rintro ⟨-, q⟩; cases q), u70]; omega
  · intro k hk
    unfold B_X10_keeps_15
    refine E_gd ⟨by omega, by omega⟩ (E_if (fun q => by omega) (fun _ => E_gd ⟨by omega, by omega, by omega⟩ ?_))
    rw [gI_sF, w70]
    refine E_gd ⟨by omega, by omega, by omega⟩ (E_lt (E_lt (E_so ?_ rfl)))
    rw [gA_sFo (show m + 37 ≠ m + 44 by omega), Int.toNat_natCast]
    have e : (282 * ((gI V m 70 + 1) % 20) + (k : Int)).toNat = 282 * ((gI V m 70 + 1) % 20).toNat + k := by omega
    rw [e]
    exact sF_ut
  · unfold B_X10_keeps_15
    exact E_gd ⟨by decide, by decide⟩ (E_if (fun _ => rfl) (fun q => absurd (by decide) q))
theorem r_undo0 (hP : rPa V m n []) : F_X10_undo G m V = some (sA V (m + 2) 4 (gA V (m + 2) 4 + 1), 0) := by
  have z : gI V m 69 = 0 := hP.1
  unfold F_X10_undo
  exact E_gd (by rw [z]; exact ⟨by omega, by omega⟩) (E_if (fun _ => E_lt rfl) (fun q => absurd z q))
theorem r_undo (hn : n ≤ 10) (hoM : (me M).length ≤ 40) (hP : rPa V m n (M :: P)) :
    ∃ V', F_X10_undo G m V = some (V', 1) ∧ (∀ i, i ≠ m + 37 → gA V' i = gA V i) ∧ (∀ i k, (i ≠ m ∨ (k ≠ 69 ∧ k ≠ 70)) → gI V' i k = gI V i k) ∧ gJ V' = gJ V ∧ gL V' = gL V ∧ rM (gA V' (m + 37)) n M ∧ rPa V' m n P := by
  obtain ⟨p1, p2, p3, p4⟩ := hP
  have p1' : gI V m 69 = (P.length : Int) + 1 := p1
  have hl : P.length + 1 ≤ 20 := p2
  have q0 := p4 0 (Nat.succ_pos _)
  have e0 : ((gI V m 70 - ((0 : Nat) : Int)) % 20).toNat = (gI V m 70).toNat := by omega
  rw [e0] at q0
  have ht : (gI V m 70 + 20 - 1).tmod 20 = (gI V m 70 - 1) % 20 := by rw [Int.tmod_eq_emod_of_nonneg (by omega)]; omega
  have key := E_for (B := fun (s : Int) V => B_X10_undo_21 G m s V) (t := 1) (by decide) (fun j => (j : Int)) (fun j => sF V (m + 37) (up j (fun k => gA V (m + 44) (282 * (gI V m 70).toNat + k)) (gA V (m + 37)))) 282 ?_ ?_ FU (by decide)
  · have z0 : sF V (m + 37) (up 0 (fun k => gA V (m + 44) (282 * (gI V m 70).toNat + k)) (gA V (m + 37))) = V := sF_id (fun b => by rw [up_0])
    rw [z0] at key
    obtain ⟨W, hW⟩ : ∃ W, W = sF V (m + 37) (up 282 (fun k => gA V (m + 44) (282 * (gI V m 70).toNat + k)) (gA V (m + 37))) := ⟨_, rfl⟩
    rw [← hW] at key
    have wI : gI W = gI V := by rw [hW]; rfl
    obtain ⟨U, hU⟩ : ∃ U, U = sI (sI W m 70 ((gI W m 70 + 20 - 1).tmod 20)) m 69 (gI (sI W m 70 ((gI W m 70 + 20 - 1).tmod 20)) m 69 - 1) := ⟨_, rfl⟩
    have u70 : gI U m 70 = (gI V m 70 - 1) % 20 := by rw [hU, gI_sI, if_neg (by rintro ⟨-, q⟩; cases q), gI_sI, if_pos ⟨rfl, rfl⟩, wI, ht]
    have u69 : gI U m 69 = (P.length : Int) := by rw [hU, gI_sI, if_pos ⟨rfl, rfl⟩, gI_sI, if_neg (by rintro ⟨-, q⟩; cases q), wI, p1']; omega
    have uA : gA U = gA W := by rw [hU]; rfl
    have u44 : gA U (m + 44) = gA V (m + 44) := by rw [uA, hW, gA_sFo (show m + 44 ≠ m + 37 by omega)]
    refine ⟨U, ?_, fun i hi => by rw [uA, hW, gA_sFo hi], fun i k q => by rw [hU, gI_sI, if_neg (by omega), gI_sI, if_neg (by omega), wI], by rw [hU, hW]; rfl, by rw [hU, hW]; rfl, ?_, u69, by omega, by rw [u70]; omega, fun i hi => ?_⟩
    · unfold F_X10_undo
      rw [hU]
      exact E_gd ⟨by omega, by omega⟩ (E_if (fun q => by omega) (fun _ => E_bd key (E_gd (by rw [wI]; exact ⟨by omega, by omega⟩) (E_lt (E_lt rfl)))))
    · rw [uA, hW, gA_sFe]
      refine rM_cgs hn hoM (fun k hk => ?_) q0
      unfold up; rw [if_pos hk]
    · rw [u44, u70]
      have q := p4 (i + 1) (Nat.succ_lt_succ hi)
      rw [cn_get] at q
      have e : (((gI V m 70 - 1) % 20 - (i : Int)) % 20).toNat = ((gI V m 70 - ((i + 1 : Nat) : Int)) % 20).toNat := by omega
      rw [e]; exact q
  · intro k hk
    unfold B_X10_undo_21
    refine E_gd ⟨by omega, by omega⟩ (E_if (fun q => by omega) (fun _ => ?_))
    rw [gI_sF]
    refine E_gd ⟨by omega, by omega, by omega⟩ (E_gd ⟨by omega, by omega, by omega⟩ (E_lt (E_lt (E_so ?_ rfl))))
    rw [gA_sFo (show m + 44 ≠ m + 37 by omega), Int.toNat_natCast]
    have e : (282 * gI V m 70 + (k : Int)).toNat = 282 * (gI V m 70).toNat + k := by omega
    rw [e]
    exact sF_up (f := fun k => gA V (m + 44) (282 * (gI V m 70).toNat + k))
  · unfold B_X10_undo_21
    exact E_gd ⟨by decide, by decide⟩ (E_if (fun _ => rfl) (fun q => absurd (by decide) q))
end

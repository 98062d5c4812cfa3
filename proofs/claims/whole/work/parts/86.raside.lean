/-! reference: a moment put aside and taken back, what is counted cleared, hours come -/
theorem rM_cgs {g g' : Nat → Int} {n : Int} {M : mMo} (hn : n ≤ 10) (ho : (me M).length ≤ 40) (e : ∀ k, k < 282 → g' k = g k) (h : rM g n M) : rM g' n M := by
  obtain ⟨a, b, c, d, f⟩ := h
  refine ⟨?_, fun p p0 p1 => ⟨?_, ?_⟩, fun p l p0 p1 l0 l1 => ?_, ?_, fun i hi => ⟨?_, ?_, ?_, ?_⟩⟩
  · rw [e _ (by omega)]; exact a
  · rw [e _ (by omega)]; exact (b p p0 p1).1
  · rw [e _ (by omega)]; exact (b p p0 p1).2
  · rw [e _ (by omega)]; exact c p l p0 p1 l0 l1
  · rw [e _ (by omega)]; exact d
  · rw [e _ (by omega)]; exact (f i hi).1
  · rw [e _ (by omega)]; exact (f i hi).2.1
  · rw [e _ (by omega)]; exact (f i hi).2.2.1
  · rw [e _ (by omega)]; exact (f i hi).2.2.2
/-- so many cells are as f -/
def up (n : Nat) (f g : Nat → Int) : Nat → Int := fun i => if i < n then f i else g i
theorem up_0 {f g : Nat → Int} : up 0 f g = g := by funext i; unfold up; rw [if_neg (by omega)]
theorem up_s {f g : Nat → Int} {n : Nat} : uN (up n f g) n (f n) = up (n + 1) f g := by
  funext i
  unfold uN up
  by_cases h : i = n
  · rw [if_pos h, if_pos (by omega), h]
  · rw [if_neg h]
    by_cases h2 : i < n
    · rw [if_pos h2, if_pos (by omega)]
    · rw [if_neg h2, if_neg (by omega)]
section
variable {G : mG} {V : mV} {m : Nat}
theorem sF_up {a k : Nat} {f : Nat → Int} : sA (sF V a (up k f (gA V a))) a k (f k) = sF V a (up (k + 1) f (gA V a)) := by
  rw [sA_sF, sF_sF]
  apply sF_cg
  intro b
  rw [gA_sFe, ← up_s]; rfl
theorem r_puts : F_X10_putsAside G m V = some (sF V (m + 38) (up 282 (gA V (m + 37)) (gA V (m + 38))), 0) := by
  unfold F_X10_putsAside
  have key := E_for (B := fun (s : Int) V => B_X10_putsAside_2 G m s V) (t := 1) (by decide) (fun j => (j : Int)) (fun j => sF V (m + 38) (up j (gA V (m + 37)) (gA V (m + 38)))) 282 ?_ ?_ FU (by decide)
  · have e0 : sF V (m + 38) (up 0 (gA V (m + 37)) (gA V (m + 38))) = V := sF_id (fun b => by rw [up_0])
    rw [e0] at key
    exact E_bd key rfl
  · intro k hk
    unfold B_X10_putsAside_2
    refine E_gd ⟨by omega, by omega⟩ (E_if (fun q => by omega) (fun _ => E_gd ⟨by omega, by omega, by omega⟩ (E_lt (E_lt (E_so ?_ rfl)))))
    rw [gA_sFo (show m + 37 ≠ m + 38 by omega), Int.toNat_natCast]
    exact sF_up
  · unfold B_X10_putsAside_2
    exact E_gd ⟨by decide, by decide⟩ (E_if (fun _ => rfl) (fun q => absurd (by decide) q))
theorem r_takes : F_X10_takesBack G m V = some (sF V (m + 37) (up 282 (gA V (m + 38)) (gA V (m + 37))), 0) := by
  unfold F_X10_takesBack
  have key := E_for (B := fun (s : Int) V => B_X10_takesBack_2 G m s V) (t := 1) (by decide) (fun j => (j : Int)) (fun j => sF V (m + 37) (up j (gA V (m + 38)) (gA V (m + 37)))) 282 ?_ ?_ FU (by decide)
  · have e0 : sF V (m + 37) (up 0 (gA V (m + 38)) (gA V (m + 37))) = V := sF_id (fun b => by rw [up_0])
    rw [e0] at key
    exact E_bd key rfl
  · intro k hk
    unfold B_X10_takesBack_2
    refine E_gd ⟨by omega, by omega⟩ (E_if (fun q => by omega) (fun _ => E_gd ⟨by omega, by omega, by omega⟩ (E_lt (E_lt (E_so ?_ rfl)))))
    rw [gA_sFo (show m + 38 ≠ m + 37 by omega), Int.toNat_natCast]
    exact sF_up
  · unfold B_X10_takesBack_2
    exact E_gd ⟨by decide, by decide⟩ (E_if (fun _ => rfl) (fun q => absurd (by decide) q))
theorem r_clears : ∃ V', F_X10_clearsDried G m V = some (V', 0) ∧ rH m V V' ∧ gA V' (m + 37) = gA V (m + 37) ∧ gA V' (m + 41) = gA V (m + 41) ∧ gI V' m 65 = gI V m 65 ∧ gI V' m 64 = gI V m 64 ∧ ∀ M : mMo, rS V' m (s0 M) := by
  have key := E_for (B := fun (s : Int) V => B_X10_clearsDried_2 G m s V) (t := 1) (by decide) (fun j => (j : Int)) (fun j => sF V (m + 39) (up j (fun _ => 0) (gA V (m + 39)))) 3 ?_ ?_ FU (by decide)
  have e0 : sF V (m + 39) (up 0 (fun _ => 0) (gA V (m + 39))) = V := sF_id (fun b => by rw [up_0])
  rw [e0] at key
  have key2 := E_for (B := fun (s : Int) V => B_X10_clearsDried_22 G m s V) (t := 1) (by decide) (fun j => (j : Int)) (fun j => sF (sF V (m + 39) (up 3 (fun _ => 0) (gA V (m + 39)))) (m + 40) (up j (fun _ => 0) (gA (sF V (m + 39) (up 3 (fun _ => 0) (gA V (m + 39)))) (m + 40)))) 10 ?_ ?_ FU (by decide)
  have e1 : sF (sF V (m + 39) (up 3 (fun _ => 0) (gA V (m + 39)))) (m + 40) (up 0 (fun _ => 0) (gA (sF V (m + 39) (up 3 (fun _ => 0) (gA V (m + 39)))) (m + 40))) = sF V (m + 39) (up 3 (fun _ => 0) (gA V (m + 39))) := sF_id (fun b => by rw [up_0])
  rw [e1] at key2
  · refine ⟨_, by unfold F_X10_clearsDried; exact E_bd key (E_bd key2 (E_lt (E_lt rfl))), (((rH_sF (by omega)).trans (rH_sF (by omega))).trans (rH_sI (by omega))).trans (rH_sI (by omega)), ?_, ?_, ?_, ?_, fun M => ⟨?_, ?_, fun p p0 p1 => ?_, ?_, Or.inl rfl, fun q => absurd rfl q⟩⟩
    · show gA (sF (sF V _ _) _ _) _ = _
      rw [gA_sFo (show m + 37 ≠ m + 40 by omega), gA_sFo (show m + 37 ≠ m + 39 by omega)]
    · show gA (sF (sF V _ _) _ _) _ = _
      rw [gA_sFo (show m + 41 ≠ m + 40 by omega), gA_sFo (show m + 41 ≠ m + 39 by omega)]
    · rw [gI_sI, if_neg (by rintro ⟨-, q⟩; cases q), gI_sI, if_neg (by rintro ⟨-, q⟩; cases q)]; rfl
    · rw [gI_sI, if_neg (by rintro ⟨-, q⟩; cases q), gI_sI, if_neg (by rintro ⟨-, q⟩; cases q)]; rfl
    · show gA (sF (sF V _ _) _ _) (m + 39) 0 = 0
      rw [gA_sFo (show m + 39 ≠ m + 40 by omega), gA_sFe]; rfl
    · show gA (sF (sF V _ _) _ _) (m + 39) 1 = 0
      rw [gA_sFo (show m + 39 ≠ m + 40 by omega), gA_sFe]; rfl
    · show gA (sF (sF V _ _) _ _) (m + 40) p.toNat = 0
      rw [gA_sFe]; unfold up; rw [if_pos (by omega)]
    · rw [gI_sI, if_neg (by rintro ⟨-, q⟩; cases q), gI_sI, if_pos ⟨rfl, rfl⟩]; rfl
  · intro k hk
    unfold B_X10_clearsDried_22
    refine E_gd ⟨by omega, by omega⟩ (E_if (fun q => by omega) (fun _ => E_gd ⟨by omega, by omega, by omega⟩ (E_lt (E_lt (E_so ?_ rfl)))))
    rw [Int.toNat_natCast]
    exact sF_up (f := fun _ => 0)
  · unfold B_X10_clearsDried_22
    exact E_gd ⟨by decide, by decide⟩ (E_if (fun _ => rfl) (fun q => absurd (by decide) q))
  · intro k hk
    unfold B_X10_clearsDried_2
    refine E_gd ⟨by omega, by omega⟩ (E_if (fun q => by omega) (fun _ => E_gd ⟨by omega, by omega, by omega⟩ (E_lt (E_lt (E_so ?_ rfl)))))
    rw [Int.toNat_natCast]
    exact sF_up (f := fun _ => 0)
  · unfold B_X10_clearsDried_2
    exact E_gd ⟨by decide, by decide⟩ (E_if (fun _ => rfl) (fun q => absurd (by decide) q))
end
/-- hours of the reference: who dried goes on being counted -/
noncomputable def hoursQ (C : mCy) : Nat → mSt → mSt
  | 0, S => S
  | n + 1, S => hoursQ C n (hourS C S)
theorem hoursQ_add {C : mCy} : ∀ (a b : Nat) (S : mSt), hoursQ C (a + b) S = hoursQ C b (hoursQ C a S)
  | 0, b, S => by rw [Nat.zero_add]; rfl
  | a + 1, b, S => by rw [Nat.succ_add]; exact hoursQ_add a b _
section
variable {G : mG} {V : mV} {m : Nat} {C : mCy} {S : mSt}
theorem r_hours (ho : okC C) (hv : rC V m C) (hM : rM (gA V (m + 37)) (cn C) S.1) (hoM : okM (cn C) S.1) {k : Nat} (hh : mh S.1 + k ≤ 9999) (hkF : k < 5000) (hS : rS V m S) :
    ∃ V', F_X10_hoursCome G m (k : Int) V = some (V', 0) ∧ rH m V V' ∧ rM (gA V' (m + 37)) (cn C) (hoursQ C k S).1 ∧ okM (cn C) (hoursQ C k S).1 ∧ rS V' m (hoursQ C k S) := by
  have hh0 := hoM.1
  have main : Wp (lp (fun (s : Int) V => B_X10_hoursCome_2 G m (k : Int) s V) FU 0 V) (fun V' _ => rH m V V' ∧ rM (gA V' (m + 37)) (cn C) (hoursQ C k S).1 ∧ okM (cn C) (hoursQ C k S).1 ∧ rS V' m (hoursQ C k S)) := by
    refine W_lp (fun w y U => ∃ j : Nat, y = (j : Int) ∧ j + w = k ∧ rH m V U ∧ rM (gA U (m + 37)) (cn C) (hoursQ C j S).1 ∧ okM (cn C) (hoursQ C j S).1 ∧ rS U m (hoursQ C j S) ∧ mh (hoursQ C j S).1 = mh S.1 + j) ?_ FU k 0 V ⟨0, rfl, by omega, rH_refl, hM, hoM, hS, by show mh S.1 = _; omega⟩ (by unfold FU; exact hkF)
    rintro w y U ⟨j, rfl, hw, f, a1, a2, a3, a4⟩
    unfold B_X10_hoursCome_2
    refine W_gd ⟨by omega, by omega⟩ (W_gd ⟨by omega, by omega⟩ (W_if (fun q => ?_) (fun q => ?_)))
    · obtain rfl : j = k := by omega
      exact W_so (Or.inr ⟨Nat.one_ne_zero, f, a1, a2, a3⟩)
    · obtain ⟨V', g, f', b1, b2⟩ := r_hour (G := G) ho (hv.fr f.cs) a1 a2 (by omega) a3
      have e : hourS C (hoursQ C j S) = hoursQ C (j + 1) S := by rw [hoursQ_add j 1]; rfl
      have b3 := okM_hour ho a2 (by omega)
      have b4 := mh_hour (C := C) (S := hoursQ C j S)
      rw [e] at b1 b2 b3 b4
      exact W_be g (W_lt (W_so (Or.inl ⟨rfl, w - 1, by omega, j + 1, by show (j : Int) + 1 = _; omega, by omega, f.trans f', b1, b3, b2, by omega⟩)))
  obtain ⟨V', q, e1, r⟩ := main
  exact ⟨V', by unfold F_X10_hoursCome; exact E_bd e1 rfl, r⟩
end

/-! hours (class) -/
/-- what the counters were does not matter to the moment -/
theorem dutyS_ind {C : mCy} {clock day l task : Int} {M : mMo} {t t' : (Int × Int) × (Int × Int × Int) × (Int → Int)} : (dutyS C clock day (M, t) l task).1 = (dutyS C clock day (M, t') l task).1 := by
  unfold dutyS
  simp only
  split
  · rfl
  · next h1 =>
    by_cases h2 : fi (ml M) l 0 (cn C).toNat = l
    · rw [if_pos h2]
      by_cases h3 : able C (mp M (fi (ml M) l 0 (cn C).toNat) l) 1 task clock day = 0
      · rw [if_pos h3, if_pos h3]; rfl
      · rw [if_neg h3, if_neg h3, if_pos h2, if_pos h2]
    · rw [if_neg h2]
      by_cases h3 : able C (mp M (fi (ml M) l 0 (cn C).toNat) l) 0 task clock day = 0
      · rw [if_pos h3, if_pos h3]; rfl
      · rw [if_neg h3, if_neg h3, if_neg h2, if_neg h2]
theorem stD_ind {C : mCy} {clock day : Int} {d : Int × Int × Int} {S S' : mSt} (h : S.1 = S'.1) : (stD C clock day S d).1 = (stD C clock day S' d).1 := by
  obtain ⟨M, t⟩ := S
  obtain ⟨M', t'⟩ := S'
  obtain rfl : M = M' := h
  unfold stD
  split
  · exact dutyS_ind
  · rfl
theorem fold_ind {C : mCy} {clock day : Int} : ∀ (D : List (Int × Int × Int)) {S S' : mSt}, S.1 = S'.1 → (D.foldl (stD C clock day) S).1 = (D.foldl (stD C clock day) S').1
  | [], _, _, h => h
  | _ :: D, _, _, h => fold_ind D (stD_ind h)
theorem hour_ind {C : mCy} {S S' : mSt} (h : S.1 = S'.1) : (hourS C S).1 = (hourS C S').1 := by
  obtain ⟨M, t⟩ := S
  obtain ⟨M', t'⟩ := S'
  obtain rfl : M = M' := h
  have k := fold_ind (C := C) (clock := (mh M + 1) % 24) (day := (mh M + 1) / 24) (srt (cn C).toNat (cd C)) (S := (if (mh M + 1) % 24 = 0 then nightM C ((mh M + 1, ml M, mw M, mp M, me M) : mMo) ((mh M + 1) / 24) else (mh M + 1, ml M, mw M, mp M, me M), t)) (S' := (if (mh M + 1) % 24 = 0 then nightM C ((mh M + 1, ml M, mw M, mp M, me M) : mMo) ((mh M + 1) / 24) else (mh M + 1, ml M, mw M, mp M, me M), t')) rfl
  exact congrArg (itr (watM C ((mh M + 1) % 24) ((mh M + 1) / 24)) 0 (cn C).toNat) k
theorem hours_ind {C : mCy} : ∀ (k : Nat) {S S' : mSt}, S.1 = S'.1 → (hoursS C k S).1 = (hoursS C k S').1
  | 0, _, _, h => h
  | k + 1, _, _, h => hours_ind k (hour_ind h)
theorem hours_add {C : mCy} : ∀ (a b : Nat) (S : mSt), hoursS C (a + b) S = hoursS C b (hoursS C a S)
  | 0, b, S => by rw [Nat.zero_add]; rfl
  | a + 1, b, S => by rw [Nat.succ_add]; exact hours_add a b _
section
variable {G : mG} {V : mV} {x mo : Nat} {C : mCy} {B : Int} {S : mSt}
theorem c_bring (hG : is2 G (x + 27)) (hc : is1 G (gR G x 10)) (hm : is4 G mo) (ho : okC C) (hv : vC V (gR G x 10) C) (hk : kC V (x + 27)) (hmo : x + 37 < mo) (hd : mo + 8 < gR G x 10) (hM : vM V mo (cn C) S.1 B) (hoM : okM (cn C) S.1) (hS : kS0 V (x + 27) S) {k : Nat} (hh : mh S.1 + k ≤ 9999) (hB : B ≤ 2500000) (hkF : k < 5000) :
    ∃ V', F_X9_bring G x mo (k : Int) V = some (V', 0) ∧ fr (sH (x + 27) (gR G x 10) mo) V V' ∧ vC V' (gR G x 10) C ∧ kC V' (x + 27) ∧ vM V' mo (cn C) (hoursS C k S).1 (B + 240 * k) ∧ okM (cn C) (hoursS C k S).1 ∧ kS0 V' (x + 27) (hoursS C k S) ∧ mh (hoursS C k S).1 = mh S.1 + k ∧ (0 < k → kS V' (x + 27) (cn C) (hoursS C k S)) := by
  have hh0 := hoM.1
  have main : Wp (lp (fun (s : Int) V => B_X9_bring_2 G x mo (k : Int) s V) FU 0 V) (fun V' _ => fr (sH (x + 27) (gR G x 10) mo) V V' ∧ vC V' (gR G x 10) C ∧ kC V' (x + 27) ∧ vM V' mo (cn C) (hoursS C k S).1 (B + 240 * k) ∧ okM (cn C) (hoursS C k S).1 ∧ kS0 V' (x + 27) (hoursS C k S) ∧ mh (hoursS C k S).1 = mh S.1 + k ∧ (0 < k → kS V' (x + 27) (cn C) (hoursS C k S))) := by
    refine W_lp (fun w y U => ∃ j : Nat, y = (j : Int) ∧ j + w = k ∧ fr (sH (x + 27) (gR G x 10) mo) V U ∧ vC U (gR G x 10) C ∧ kC U (x + 27) ∧ vM U mo (cn C) (hoursS C j S).1 (B + 240 * j) ∧ okM (cn C) (hoursS C j S).1 ∧ kS0 U (x + 27) (hoursS C j S) ∧ mh (hoursS C j S).1 = mh S.1 + j ∧ (0 < j → kS U (x + 27) (cn C) (hoursS C j S))) ?_ FU k 0 V ⟨0, rfl, by omega, fr_refl, hv, hk, hM.more (by omega), hoM, hS, by show mh S.1 = _; omega, fun q => absurd q (Nat.lt_irrefl 0)⟩ ?_
    · rintro w y U ⟨j, rfl, hw, f, a1, a2, a3, a4, a5, a6, a7⟩
      unfold B_X9_bring_2
      refine W_gd ⟨by omega, by omega⟩ (W_gd ⟨by omega, by omega⟩ (W_if (fun q => ?_) (fun q => ?_)))
      · obtain rfl : j = k := by omega
        exact W_so (Or.inr ⟨Nat.one_ne_zero, f, a1, a2, a3, a4, a5, a6, a7⟩)
      · obtain ⟨V', g, f', b1, b2, b3, b4, b5⟩ := c_comes (S := hoursS C j S) hG hc hm ho a1 a2 (by omega) hd a3 (by omega) a4 (by omega) a5
        have e : hourS C ((hoursS C j S).1, (hoursS C j S).2.1, (hoursS C j S).2.2.1, fun _ => 0) = hoursS C (j + 1) S := by rw [hours_add j 1]; rfl
        rw [e] at b3 b4 b5
        refine W_be g (W_lt (W_so (Or.inl ⟨rfl, w - 1, by omega, j + 1, by show (j : Int) + 1 = _; omega, by omega, f.trans f', b1, b2, b3.more (by omega), b4, b5.to0, ?_, fun _ => b5⟩)))
        rw [← e, mh_hour]
        show mh (hoursS C j S).1 + 1 = _
        omega
    · unfold FU; exact hkF
  obtain ⟨V', q, e1, r⟩ := main
  exact ⟨V', by unfold F_X9_bring; exact E_bd e1 rfl, r⟩
end
theorem c_forget {G : mG} {V : mV} {cr : Nat} {M : mMo} {n : Int} (hG : is2 G cr) (hn : n ≤ 10) (hS : ∃ S, kS0 V cr S) :
    ∃ V', F_X2_forgetFailures G cr V = some (V', 0) ∧ fr (fun i => cr + 5 ≤ i ∧ i ≤ cr + 10) V V' ∧ kS V' cr n (s0 M) ∧ gI V' (cr + 5) 1 = 2 := by
  obtain ⟨S, -, hS⟩ := hS
  obtain ⟨V1, e1, k1, w1⟩ := rw_fill (V := V) (n := 2) (v := 0) (s2_3s hG) (s2_3c hG) (by decide)
  have z : gI V1 (cr + 7) 1 = 0 ∨ gI V1 (cr + 7) 1 = 3 := by
    rw [k1.I (by omega)]
    rcases hS with h | h
    · exact Or.inl h.2
    · exact Or.inr h.2.1
  have g2 := p7_cut (V := V1) (k := 0) (s2_4s hG) (rw_rz (s2_4c hG) rfl (by rcases z with z | z <;> rw [z] <;> decide)) ⟨by omega, by omega⟩
  have k2 : fr (fun i => i = cr + 7) V1 (rcut V1 (cr + 7) 0) := fr_rcut rfl
  have z2 : gI (rcut V1 (cr + 7) 0) (cr + 7) 1 = 0 := by
    unfold rcut; split
    · rw [gI_sI, if_pos ⟨rfl, rfl⟩]
    · omega
  obtain ⟨V3, e3, k3, w3⟩ := rw_fill (V := rcut V1 (cr + 7) 0) (n := 10) (v := 0) (s2_5s hG) (s2_5c hG) (by decide)
  refine ⟨V3, ?_, ((k1.mono (fun i q => by omega)).trans (k2.mono (fun i q => by omega))).trans (k3.mono (fun i q => by omega)), ⟨Or.inl ⟨?_, ?_, ?_⟩, Or.inl ⟨rfl, ?_⟩, w3, hn⟩, ?_⟩
  · unfold F_X2_forgetFailures
    exact E_bd e1 (E_bd g2 (E_bd e3 rfl))
  · rw [k3.I (by omega), k2.I (by omega)]; exact w1.1
  · rw [rc_fr k3 (by omega), rc_fr k2 (by omega)]; exact w1.2 0 (by decide) (by decide)
  · rw [rc_fr k3 (by omega), rc_fr k2 (by omega)]; exact w1.2 1 (by decide) (by decide)
  · rw [k3.I (by omega)]; exact z2
  · rw [k3.I (by omega), k2.I (by omega)]; exact w1.1

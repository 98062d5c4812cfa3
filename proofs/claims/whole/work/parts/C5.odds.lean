/-! odds: both -/
section
variable {G : mG} {V V1 : mV} {cr c mo x m : Nat} {C : mCy} {M : mMo} {B : Int} {n : Int} {Z : mZ}
/-- one is sent away, lives alone -/
theorem c_awayL (hG : is2 G cr) (hc : is1 G c) (hm : is4 G mo) (ho : okC C) (hv : vC V c C) (hmo : cr + 10 < mo) (hd : mo + 8 < c) {l0 : Int → Int} (hM : rw' V (mo + 1) (cn C) l0) (hoM : okL (cn C) l0) (hmv : 0 ≤ gI V (cr + 3) 1 ∧ gI V (cr + 3) 1 ≤ 10) {p : Int} (hp : 0 ≤ p ∧ p < cn C) (hh : l0 p ≠ -1) :
    Wp (F_X2_sendAway G cr c mo p V) (fun V' _ => fr (sA' cr mo) V V' ∧ rw' V' (mo + 1) (cn C) (sendA C l0 p).1 ∧ (0 ≤ gI V' (cr + 3) 1 ∧ gI V' (cr + 3) 1 ≤ 10)) := by
  have hn := ho.1
  have hr := hoM.1 p hp.1 hp.2
  have k1 : fr (sA' cr mo) V (rcut V (cr + 3) 0) := fr_rcut (Or.inr (Or.inr (Or.inl rfl)))
  have z1 : gI (rcut V (cr + 3) 0) (cr + 3) 1 = 0 := by
    unfold rcut; split
    · rw [gI_sI, if_pos ⟨rfl, rfl⟩]
    · omega
  have hM1 : rw' (rcut V (cr + 3) 0) (mo + 1) (cn C) l0 := hM.fr (fr_rcut (S := fun i => i = cr + 3) rfl) (by omega) (by omega)
  have k2 : fr (sA' cr mo) (rcut V (cr + 3) 0) (sI (rcut V (cr + 3) 0) cr 2 (l0 p)) := fr_sI (Or.inr (Or.inl rfl))
  have hM2 : rw' (sI (rcut V (cr + 3) 0) cr 2 (l0 p)) (mo + 1) (cn C) l0 := hM1.fr (fr_sI (S := fun i => i = cr) rfl) (by omega) (by omega)
  obtain ⟨g3, hM3⟩ := rw_put (v := -1) (s4_1s hm) (s4_1c hm) hM2 hn.2 hp
  have k3 : fr (sA' cr mo) (sI (rcut V (cr + 3) 0) cr 2 (l0 p)) (sA (sI (rcut V (cr + 3) 0) cr 2 (l0 p)) (mo + 1 + 1) p.toNat (-1)) := fr_sA (Or.inl rfl)
  unfold F_X2_sendAway
  refine W_be (p7_cut (s2_1s hG) (rw_rz (s2_1c hG) rfl ⟨hmv.1, hmv.2⟩) ⟨by omega, by omega⟩) (W_be (rw_get (s4_1s hm) (s4_1c hm) hM1 hn.2 hp) (W_lt (W_be g3 (W_bd (R := fun V' _ => fr (sA' cr mo) V V' ∧ rw' V' (mo + 1) (cn C) (sendA C l0 p).1 ∧ (0 ≤ gI V' (cr + 3) 1 ∧ gI V' (cr + 3) 1 ≤ 10)) ?_ (fun U u q => W_if (fun _ => W_so q) (fun _ => W_so q))))))
  refine W_lp (fun w x U => ∃ (lv : Int → Int) (left : Int) (mv : List Int), x = (mv.length : Int) ∧ mv.length + w = 10 ∧ fr (sA' cr mo) V U ∧ rw' U (mo + 1) (cn C) lv ∧ gI U cr 2 = left ∧ (0 ≤ left ∧ left < cn C) ∧ okL (cn C) lv ∧ nob (cn C) lv left ∧ gI U (cr + 3) 1 = (mv.length : Int) ∧ wav C w lv left mv = sendA C l0 p) ?_ FU 10 0 _ ⟨uf l0 p (-1), l0 p, [], rfl, rfl, (k1.trans k2).trans k3, hM3, ?_, ⟨by omega, by omega⟩, okL_uf hoM hp (Or.inl rfl), nob_first hoM hp hh, ?_, rfl⟩ (by unfold FU; omega)
  · rintro w x U ⟨lv, left, mv, rfl, hw, hf, hU, h2, hl, hL, hN, hmv', hwv⟩
    have fin : ∀ U', U' = U → ((lv, left, mv) = sendA C l0 p) → fr (sA' cr mo) V U' ∧ rw' U' (mo + 1) (cn C) (sendA C l0 p).1 ∧ (0 ≤ gI U' (cr + 3) 1 ∧ gI U' (cr + 3) 1 ≤ 10) := by
      rintro U' rfl e
      refine ⟨hf, ?_, ?_⟩
      · rw [← e]; exact hU
      · rw [hmv']; omega
    unfold B_X2_sendAway_32
    refine W_gd ⟨by omega, by omega⟩ (W_if (fun q => ?_) (fun q => ?_))
    · refine W_so (Or.inr ⟨(show (2 : Nat) ≠ 0 by decide), fin U rfl ?_⟩)
      have e : w = 0 := by omega
      subst e; exact hwv
    · obtain ⟨w, rfl⟩ : ∃ v, w = v + 1 := ⟨w - 1, by omega⟩
      have hb := (ho.2.2.2.2.2.1 left hl.1 hl.2).2
      have hcb : rw' U (c + 7) (cn C) (cb C) := hv.2.1.2.2.2.1.fr hf (by simp only [sA']; omega) (by simp only [sA']; omega)
      rw [h2]
      refine W_be (rw_get (s1_3s hc) (s1_3c hc) hcb hn.2 hl) (W_gd ⟨by omega, by omega⟩ (W_if (fun q1 => ?_) (fun q1 => ?_)))
      · refine W_so (Or.inr ⟨Nat.one_ne_zero, fin U rfl ?_⟩)
        rw [← hwv]; unfold wav; rw [if_pos (Or.inl q1)]
      · have hlv := hL.1 (cb C left) (by omega) (by omega)
        refine W_be (rw_get (s4_1s hm) (s4_1c hm) hU hn.2 ⟨by omega, by omega⟩) (W_gd ⟨by omega, by omega⟩ (W_if (fun q2 => ?_) (fun q2 => ?_)))
        · obtain ⟨g4, hU4⟩ := rw_put (v := left) (s4_1s hm) (s4_1c hm) hU hn.2 (k := cb C left) ⟨by omega, by omega⟩
          have k4 : fr (sA' cr mo) U (sA U (mo + 1 + 1) (cb C left).toNat left) := fr_sA (Or.inl rfl)
          have sz : gI (sA U (mo + 1 + 1) (cb C left).toNat left) (cr + 3) 1 = (mv.length : Int) := hmv'
          have g5 := p7_add (v := cb C left) (s2_1s hG) (rw_rz (V := sA U (mo + 1 + 1) (cb C left).toNat left) (s2_1c hG) sz ⟨by omega, by omega⟩)
          rw [s2_1c hG] at g5
          have ra : radd (sA U (mo + 1 + 1) (cb C left).toNat left) (cr + 3) 10 (cb C left) = sI (sA (sA U (mo + 1 + 1) (cb C left).toNat left) (cr + 4) mv.length (cb C left)) (cr + 3) 1 ((mv.length : Int) + 1) := by
            unfold radd; rw [sz, if_pos (by omega)]; rfl
          rw [ra] at g5
          have k5 : fr (fun i => i = cr + 4 ∨ i = cr + 3 ∨ i = cr) (sA U (mo + 1 + 1) (cb C left).toNat left) (sI (sI (sA (sA U (mo + 1 + 1) (cb C left).toNat left) (cr + 4) mv.length (cb C left)) (cr + 3) 1 ((mv.length : Int) + 1)) cr 2 (cb C left)) := ((fr_sA (Or.inl rfl)).trans (fr_sI (Or.inr (Or.inl rfl)))).trans (fr_sI (Or.inr (Or.inr rfl)))
          have g4' : F_X7_put G (mo + 1) (cb C left) (gI U cr 2) U = some (sA U (mo + 1 + 1) (cb C left).toNat left, 0) := by rw [h2]; exact g4
          refine W_be g4' (W_be g5 (W_lt (W_lt (W_so (Or.inl ⟨rfl, w, by omega, uf lv (cb C left) left, cb C left, mv ++ [cb C left], ?_, ?_, ?_, ?_, ?_, ⟨by omega, by omega⟩, okL_uf hL ⟨by omega, by omega⟩ (Or.inr ⟨hl.1, hl.2, hN⟩), nob_next hL ⟨by omega, by omega⟩ hN q2, ?_, ?_⟩)))))
          · show (mv.length : Int) + 1 = _
            rw [List.length_append]; rfl
          · rw [List.length_append]; show mv.length + 1 + w = 10; omega
          · exact (hf.trans k4).trans (k5.mono (fun i q => by simp only [sA']; omega))
          · exact hU4.fr k5 (by omega) (by omega)
          · rw [gI_sI, if_pos ⟨rfl, rfl⟩]
          · rw [gI_sI, if_neg (by omega), gI_sI, if_pos ⟨rfl, rfl⟩, List.length_append]; rfl
          · rw [← hwv]
            show _ = wav C (w + 1) lv left mv
            rw [wav, if_neg (by rintro (q | q); exact q1 q; exact q q2)]
        · refine W_so (Or.inr ⟨Nat.one_ne_zero, fin U rfl ?_⟩)
          rw [← hwv]; unfold wav; rw [if_pos (Or.inr q2)]
  · show gI (sI (rcut V (cr + 3) 0) cr 2 (l0 p)) cr 2 = _
    rw [gI_sI, if_pos ⟨rfl, rfl⟩]
  · show gI (sI (rcut V (cr + 3) 0) cr 2 (l0 p)) (cr + 3) 1 = 0
    rw [gI_sI, if_neg (by omega)]; exact z1
end
def idl : Int → Int := fun p => p
theorem okL_id {n : Int} : okL n idl := ⟨fun p a b => ⟨by show -1 ≤ p; omega, b⟩, fun p q _ _ _ _ e _ => e⟩
/-- who is called, does he come to the life -/
def odf (C : mCy) (p l : Int) : Int → Int := fun q => if (sendA C idl q).1 p = l then 1 else 0
def oby (C : mCy) (p l : Int) : Nat := (ci (odf C p l) 1 0 (cn C).toNat).toNat
def omi (C : mCy) (p l : Int) : Nat := (ci (odf C p l) 0 0 (cn C).toNat).toNat
theorem ci_01 {f : Int → Int} (h : ∀ j, f j = 0 ∨ f j = 1) : ∀ (m : Nat) (k : Int), ci f 0 k m + ci f 1 k m = m := by
  intro m
  induction m with
  | zero => intro k; rfl
  | succ m ih =>
    intro k
    have e := ih (k + 1)
    show ((if f k = 0 then (1 : Int) else 0) + ci f 0 (k + 1) m) + ((if f k = 1 then (1 : Int) else 0) + ci f 1 (k + 1) m) = _
    rcases h k with q | q <;> rw [q]
    · rw [if_pos rfl, if_neg (by decide)]; omega
    · rw [if_neg (by decide), if_pos rfl]; omega
theorem odf_01 {C : mCy} {p l : Int} (j : Int) : odf C p l j = 0 ∨ odf C p l j = 1 := by unfold odf; split <;> simp
theorem omi_by {C : mCy} {p l : Int} : omi C p l + oby C p l = (cn C).toNat := by
  have a := ci_01 (odf_01 (C := C) (p := p) (l := l)) (cn C).toNat 0
  have b := ci_rg (odf C p l) 0 (cn C).toNat 0
  have c := ci_rg (odf C p l) 1 (cn C).toNat 0
  unfold omi oby
  omega
def aOdds (C : mCy) (p l n : Int) : Int := if ((0 ≤ p ∧ p < cn C) ∧ (0 ≤ l ∧ l < cn C)) ∧ p ≠ l ∧ (0 ≤ n ∧ n ≤ 4) then (1000 * ((((cn C).toNat ^ n.toNat : Nat) : Int) - ((omi C p l ^ n.toNat : Nat) : Int))).tdiv (((cn C).toNat ^ n.toNat : Nat) : Int) else -1
theorem pw_bd {a b n : Nat} (ha : a ≤ 10) (ha1 : 1 ≤ a) (hb : b ≤ a) (hn : n ≤ 4) : b ^ n ≤ a ^ n ∧ a ^ n ≤ 10000 ∧ 1 ≤ a ^ n := by
  refine ⟨Nat.pow_le_pow_left hb n, ?_, ?_⟩
  · have h1 : a ^ n ≤ 10 ^ n := Nat.pow_le_pow_left ha n
    have h2 : 10 ^ n ≤ 10 ^ 4 := Nat.pow_le_pow_right (by decide) hn
    exact Nat.le_trans h1 h2
  · have h1 : 1 ^ n ≤ a ^ n := Nat.pow_le_pow_left ha1 n
    rw [Nat.one_pow] at h1; exact h1
section
variable {G : mG} {V V1 : mV} {cr c mo x m : Nat} {C : mCy} {M : mMo} {B : Int} {n : Int} {Z : mZ}
theorem c_odds (hG : is9 G x) (ho : okZ Z) (hv : vZ G V x Z) {p l n : Int} (hp : rg p) (hl : rg l) (hk : rg n) :
    ∃ V', F_X9_odds G x p l n V = some (V', aOdds Z.1 p l n) ∧ fr (zE G x) V V' ∧ vZ G V' x Z := by
  have hn := ho.1.1
  have e1 := c_isP ho hv hp
  have e2 := c_isP ho hv hl
  have hG5 := s9_5s hG
  unfold F_X9_odds aOdds
  by_cases h1 : 0 ≤ p ∧ p < cn Z.1
  rotate_left
  · rw [if_neg h1] at e1; rw [if_neg (fun q => h1 q.1.1)]; exact ⟨V, E_n e1 rfl, fr_refl, hv⟩
  rw [if_pos h1] at e1
  by_cases h2 : 0 ≤ l ∧ l < cn Z.1
  rotate_left
  · rw [if_neg h2] at e2; rw [if_neg (fun q => h2 q.1.2)]; exact ⟨V, E_y e1 (E_n e2 rfl), fr_refl, hv⟩
  rw [if_pos h2] at e2
  by_cases h3 : p = l
  · rw [if_neg (fun q => q.2.1 h3)]; exact ⟨V, E_y e1 (E_y e2 (E_gd hp (E_gd hl (E_if (fun _ => rfl) (fun q => absurd h3 q))))), fr_refl, hv⟩
  by_cases h4 : 0 ≤ n ∧ n ≤ 4
  rotate_left
  · rw [if_neg (fun q => h4 q.2.2)]; exact ⟨V, E_y e1 (E_y e2 (E_gd hp (E_gd hl (E_if (fun q => absurd q h3) (fun _ => E_gd hk (E_if (fun _ => rfl) (fun q => E_if (fun q2 => absurd ⟨by omega, q2⟩ h4) (fun _ => rfl)))))))), fr_refl, hv⟩
  rw [if_pos ⟨⟨h1, h2⟩, h3, h4⟩]
  obtain ⟨a, b, c, d, ⟨e0, f⟩, g, i, j⟩ := hv
  have hsz : gI V (gR G x 10 + 1) 1 = cn Z.1 := b.2.1.1.1
  -- all calls
  have main : Wp (lp (fun (s : Int × Int) V => B_X9_odds_52 G x p l n (cn Z.1) s.1 s.2 V) FU (0, 0) V) (fun V' q => fr (fun i => i = x + 27 ∨ i = x + 30 ∨ i = x + 31 ∨ i = x + 237 ∨ i = x + 238) V V' ∧ (0 ≤ gI V' (x + 30) 1 ∧ gI V' (x + 30) 1 ≤ 10) ∧ q.2.1 = (omi Z.1 p l : Int)) := by
    refine W_lp (fun w (y : Int × Int) U => fr (fun i => i = x + 27 ∨ i = x + 30 ∨ i = x + 31 ∨ i = x + 237 ∨ i = x + 238) V U ∧ (0 ≤ gI U (x + 30) 1 ∧ gI U (x + 30) 1 ≤ 10) ∧ ∃ k : Nat, y = (ci (odf Z.1 p l) 0 0 k, (k : Int)) ∧ k + w = (cn Z.1).toNat) ?_ FU (cn Z.1).toNat _ V ⟨fr_refl, g, 0, rfl, by omega⟩ (by unfold FU; omega)
    rintro w y U ⟨hf, hmv, k, rfl, hw⟩
    show Wp (B_X9_odds_52 G x p l n (cn Z.1) (ci (odf Z.1 p l) 0 0 k) (k : Int) U) _
    have hc0 := (ci_rg (odf Z.1 p l) 0 (cn Z.1).toNat 0).1
    unfold B_X9_odds_52
    refine W_gd ⟨by omega, by omega⟩ (W_gd ⟨by omega, by omega⟩ (W_if (fun q => W_so (Or.inr ⟨Nat.one_ne_zero, hf, hmv, ?_⟩)) (fun q => ?_)))
    · have e : k = (cn Z.1).toNat := by omega
      show ci (odf Z.1 p l) 0 0 k = _
      rw [e]; unfold omi; omega
    · obtain ⟨U1, g1, f1, r1⟩ := m_home (V := U) (s9_9s hG) hn
      have f01 := hf.trans (f1.mono (fun i q => by omega))
      obtain ⟨U2, v2, g2, f2, r2, m2⟩ := c_awayL (V := U1) (cr := x + 27) (c := gR G x 10) (mo := x + 236) hG5 (s9_10s hG) (s9_9s hG) ho.1 (b.fr f01 (fun j p q _ => by omega)) (by omega) (by omega) (l0 := idl) r1 okL_id (by rw [f1.I (by omega)]; exact hmv) (p := (k : Int)) ⟨by omega, by omega⟩ (by show (k : Int) ≠ -1; omega)
      have f02 := f01.trans (f2.mono (fun i q => by simp only [sA'] at q; omega))
      have hL2 : okL (cn Z.1) (sendA Z.1 idl k).1 := wav_ok ho.1 10 (okL_uf okL_id ⟨by omega, by omega⟩ (Or.inl rfl)) (by show 0 ≤ (k : Int) ∧ (k : Int) < _; omega) (nob_first okL_id ⟨by omega, by omega⟩ (by show (k : Int) ≠ -1; omega))
      have hb := hL2.1 p h1.1 h1.2
      have cs := ci_snoc (odf Z.1 p l) 0 k 0
      rw [show (0 : Int) + (k : Int) = (k : Int) by omega] at cs
      refine W_be g1 (W_be g2 (W_be (rw_get (s4_1s (s9_9s hG)) (s4_1c (s9_9s hG)) r2 hn.2 h1) (W_gd ⟨by omega, by omega⟩ (W_gd hl (W_if (fun z => ?_) (fun z => ?_))))))
      · have o : odf Z.1 p l k = 1 := by unfold odf; rw [if_pos z]
        exact W_lt (W_so (Or.inl ⟨rfl, w - 1, by omega, f02, m2, k + 1, by rw [cs, o, if_neg (by decide), Int.add_zero]; rfl, by omega⟩))
      · have o : odf Z.1 p l k = 0 := by unfold odf; rw [if_neg z]
        exact W_lt (W_lt (W_so (Or.inl ⟨rfl, w - 1, by omega, f02, m2, k + 1, by rw [cs, o, if_pos rfl]; rfl, by omega⟩)))
  obtain ⟨V1, q, e3, k1, k2, e4⟩ := main
  have hby := omi_by (C := Z.1) (p := p) (l := l)
  obtain ⟨w1, w2, w3⟩ := pw_bd (a := (cn Z.1).toNat) (b := omi Z.1 p l) (n := n.toNat) (by omega) (by omega) (by omega) (by omega)
  have key := E_for (B := fun (s : Int × Int × Int) V => B_X9_odds_118 G x p l n (cn Z.1) q.2.1 s.1 s.2.1 s.2.2 V) (t := 1) (by decide) (fun k => ((((cn Z.1).toNat ^ k : Nat) : Int), ((omi Z.1 p l ^ k : Nat) : Int), (k : Int))) (fun _ => V1) n.toNat ?_ ?_ FU (by unfold FU; omega)
  · refine ⟨V1, E_y e1 (E_y e2 (E_gd hp (E_gd hl (E_if (fun q => absurd q h3) (fun _ => E_gd hk (E_if (fun q => by omega) (fun _ => E_if (fun _ => E_bd p7_size ?_) (fun q => absurd h4.2 q)))))))), k1.mono (fun i q => by simp only [zE]; omega), a, b.fr k1 (fun j p q _ => by omega), c.fr k1 (fun j p q => by omega), d.fr k1 (by omega) (by omega), ⟨e0, f.fr k1 (fun j p q => by omega)⟩, k2, i.fr k1 (fun j p q => by omega), j.fr k1 (by omega) (by omega)⟩
    rw [hsz]
    refine E_bd e3 (E_bd key ?_)
    show gd (rg (((cn Z.1).toNat ^ n.toNat : Nat) : Int)) (if (((cn Z.1).toNat ^ n.toNat : Nat) : Int) ≤ 0 then _ else gd (rg (((((cn Z.1).toNat ^ n.toNat : Nat) : Int) - ((omi Z.1 p l ^ n.toNat : Nat) : Int)) * 1000)) (gd ((((cn Z.1).toNat ^ n.toNat : Nat) : Int) ≠ 0) (some (V1, (((((cn Z.1).toNat ^ n.toNat : Nat) : Int) - ((omi Z.1 p l ^ n.toNat : Nat) : Int)) * 1000).tdiv (((cn Z.1).toNat ^ n.toNat : Nat) : Int))))) = _
    generalize (cn Z.1).toNat ^ n.toNat = A at w1 w2 w3 ⊢
    generalize omi Z.1 p l ^ n.toNat = D at w1 ⊢
    refine E_gd ⟨by omega, by omega⟩ (E_if (fun q => by omega) (fun _ => E_gd ⟨by omega, by omega⟩ (E_gd (by omega) (E_so rfl ?_))))
    rw [Int.mul_comm]
  · intro k hkn
    show B_X9_odds_118 G x p l n (cn Z.1) q.2.1 (((cn Z.1).toNat ^ k : Nat) : Int) ((omi Z.1 p l ^ k : Nat) : Int) (k : Int) V1 = some (V1, 0, ((((cn Z.1).toNat ^ (k + 1) : Nat) : Int), ((omi Z.1 p l ^ (k + 1) : Nat) : Int), ((k + 1 : Nat) : Int)))
    unfold B_X9_odds_118
    refine E_gd ⟨by omega, by omega⟩ (E_gd ⟨by omega, by omega⟩ (E_if (fun q => by omega) (fun _ => E_lt (E_lt (E_lt ?_)))))
    rw [Nat.pow_succ, Nat.pow_succ, Int.natCast_mul, Int.natCast_mul, Int.toNat_of_nonneg hn.1, e4]; rfl
  · show B_X9_odds_118 G x p l n (cn Z.1) q.2.1 (((cn Z.1).toNat ^ n.toNat : Nat) : Int) ((omi Z.1 p l ^ n.toNat : Nat) : Int) ((n.toNat : Nat) : Int) V1 = _
    unfold B_X9_odds_118
    exact E_gd ⟨by omega, by omega⟩ (E_gd ⟨by omega, by omega⟩ (E_if (fun _ => rfl) (fun q => by omega)))
/-- all go home (reference) -/
theorem r_homes (ho : okC C) (hv : rC V m C) {lv : Int → Int} (hM : rM (gA V (m + 37)) (cn C) (mh M, lv, mw M, mp M, me M)) {p l n by' q : Int} (hq : rg q) :
    ∃ V', lp (fun (s : Int) V => B_X10_odds_57 G m p l n by' q s V) FU 0 V = some (V', 1, cn C) ∧ rH m V V' ∧ gI V' = gI V ∧ rM (gA V' (m + 37)) (cn C) (mh M, idl, mw M, mp M, me M) := by
  have hn := ho.1
  have main : Wp (lp (fun (s : Int) V => B_X10_odds_57 G m p l n by' q s V) FU 0 V) (fun V' u => u = (1, cn C) ∧ rH m V V' ∧ gI V' = gI V ∧ rM (gA V' (m + 37)) (cn C) (mh M, idl, mw M, mp M, me M)) := by
    refine W_lp (fun w (y : Int) U => rH m V U ∧ gI U = gI V ∧ ∃ k : Nat, y = (k : Int) ∧ k + w = (cn C).toNat ∧ rM (gA U (m + 37)) (cn C) (mh M, fun j => if j < (k : Int) then j else lv j, mw M, mp M, me M)) ?_ FU (cn C).toNat _ V ⟨rH_refl, rfl, 0, rfl, by omega, rM_cg hM (fun p a b => by rw [if_neg (by omega)]) (fun _ _ _ _ _ _ => rfl)⟩ (by unfold FU; omega)
    rintro w y U ⟨hf, hI, k, rfl, hw, hMU⟩
    unfold B_X10_odds_57
    refine W_be (r_many (hv.fr hf.cs)) (W_gd ⟨by omega, by omega⟩ (W_gd ⟨by omega, by omega⟩ (W_if (fun z => W_so (Or.inr ⟨Nat.one_ne_zero, ?_, hf, hI, ?_⟩)) (fun z => ?_))))
    · exact Prod.ext rfl (by show (k : Int) = cn C; omega)
    · exact rM_cg hMU (fun p a b => by show p = if p < (k : Int) then p else lv p; rw [if_pos (by omega)]) (fun _ _ _ _ _ _ => rfl)
    · refine W_be (r_live hn.2 ⟨by omega, by omega⟩) (W_lt (W_so (Or.inl ⟨rfl, w - 1, by omega, hf.trans (rH_sA (Or.inl rfl)), hI, k + 1, rfl, by omega, ?_⟩)))
      rw [gA_sAe]
      have := rM_setL (v := (k : Int)) hMU hn.2 (p := (k : Int)) ⟨by omega, by omega⟩
      refine rM_cg this (fun p a b => ?_) (fun _ _ _ _ _ _ => rfl)
      show (if p < ((k + 1 : Nat) : Int) then p else lv p) = uf (fun j => if j < (k : Int) then j else lv j) (k : Int) (k : Int) p
      unfold uf
      by_cases e : p = (k : Int)
      · rw [if_pos e, if_pos (by omega), e]
      · rw [if_neg e]
        show (if p < ((k + 1 : Nat) : Int) then p else lv p) = if p < (k : Int) then p else lv p
        by_cases e2 : p < (k : Int)
        · rw [if_pos e2, if_pos (by omega)]
        · rw [if_neg e2, if_neg (by omega)]
  obtain ⟨V', u, e1, rfl, e2, e3, e4⟩ := main
  exact ⟨V', e1, e2, e3, e4⟩
theorem r_odds (ho : okZ Z) (hv : rZ V m Z) {p l n : Int} (hp : rg p) (hl : rg l) (hk : rg n) :
    ∃ V', F_X10_odds G m p l n V = some (V', aOdds Z.1 p l n) ∧ rQ m V V' ∧ rZ V' m Z := by
  have hn := ho.1.1
  have e1 := r_isP (G := G) ho.1 hv.1 hp
  have e2 := r_isP (G := G) ho.1 hv.1 hl
  have ei := r_isIn (G := G) (V := V) (x := n) (a := 0) (b := 4) ⟨by omega, by omega⟩ ⟨by decide, by decide⟩ ⟨by decide, by decide⟩
  unfold F_X10_odds aOdds
  by_cases h1 : 0 ≤ p ∧ p < cn Z.1
  rotate_left
  · rw [if_neg h1] at e1; rw [if_neg (fun q => h1 q.1.1)]; exact ⟨V, E_n e1 rfl, rQ_refl, hv⟩
  rw [if_pos h1] at e1
  by_cases h2 : 0 ≤ l ∧ l < cn Z.1
  rotate_left
  · rw [if_neg h2] at e2; rw [if_neg (fun q => h2 q.1.2)]; exact ⟨V, E_y e1 (E_n e2 rfl), rQ_refl, hv⟩
  rw [if_pos h2] at e2
  by_cases h3 : p = l
  · rw [if_neg (fun q => q.2.1 h3)]; exact ⟨V, E_y e1 (E_y e2 (E_gd hp (E_gd hl (E_if (fun _ => rfl) (fun q => absurd h3 q))))), rQ_refl, hv⟩
  by_cases h4 : 0 ≤ n ∧ n ≤ 4
  rotate_left
  · rw [if_neg h4] at ei
    rw [if_neg (fun q => h4 q.2.2)]; exact ⟨V, E_y e1 (E_y e2 (E_gd hp (E_gd hl (E_if (fun q => absurd q h3) (fun _ => E_gd hk (E_n ei rfl)))))), rQ_refl, hv⟩
  rw [if_pos h4] at ei
  rw [if_pos ⟨⟨h1, h2⟩, h3, h4⟩]
  obtain ⟨V1, hV1⟩ : ∃ V1, V1 = sF V (m + 38) (up 282 (gA V (m + 37)) (gA V (m + 38))) := ⟨_, rfl⟩
  have g1 := r_puts (G := G) (V := V) (m := m)
  rw [← hV1] at g1
  have k1 : rQ m V V1 := by rw [hV1]; exact rQ_sF ⟨by omega, by omega⟩
  have a37 : gA V1 (m + 37) = gA V (m + 37) := by rw [hV1, gA_sFo (by omega)]
  have i1 : gI V1 = gI V := by rw [hV1]; rfl
  have hvC1 := hv.1.fr k1.cs
  have main : Wp (lp (fun (s : Int × Int) V => B_X10_odds_45 G m p l n s.1 s.2 V) FU (0, 0) V1) (fun V' q => rH m V1 V' ∧ gI V' m 61 = gI V m 61 ∧ q.2.1 = (oby Z.1 p l : Int)) := by
    refine W_lp (fun w (y : Int × Int) U => rH m V1 U ∧ gI U m 61 = gI V m 61 ∧ (∃ lv, rM (gA U (m + 37)) (cn Z.1) (mh Z.2.1, lv, mw Z.2.1, mp Z.2.1, me Z.2.1)) ∧ ∃ k : Nat, y = (ci (odf Z.1 p l) 1 0 k, (k : Int)) ∧ k + w = (cn Z.1).toNat) ?_ FU (cn Z.1).toNat _ V1 ⟨rH_refl, by rw [i1], ⟨ml Z.2.1, by rw [a37]; exact hv.2.1⟩, 0, rfl, by omega⟩ (by unfold FU; omega)
    rintro w y U ⟨hf, h61, ⟨lv, hMU⟩, k, rfl, hw⟩
    show Wp (B_X10_odds_45 G m p l n (ci (odf Z.1 p l) 1 0 k) (k : Int) U) _
    have hvU := hvC1.fr hf.cs
    have hc0 := (ci_rg (odf Z.1 p l) 1 (cn Z.1).toNat 0).1
    unfold B_X10_odds_45
    refine W_be (r_many hvU) (W_gd ⟨by omega, by omega⟩ (W_gd ⟨by omega, by omega⟩ (W_if (fun q => W_so (Or.inr ⟨Nat.one_ne_zero, hf, h61, ?_⟩)) (fun q => ?_))))
    · have e : k = (cn Z.1).toNat := by omega
      show ci (odf Z.1 p l) 1 0 k = _
      rw [e]; unfold oby; omega
    · obtain ⟨U1, g2, f1, I1, M1⟩ := r_homes (G := G) (M := Z.2.1) (p := p) (l := l) (n := n) (by' := ci (odf Z.1 p l) 1 0 k) (q := (k : Int)) ho.1 hvU hMU ⟨by omega, by omega⟩
      have okI : okM (cn Z.1) (mh Z.2.1, idl, mw Z.2.1, mp Z.2.1, me Z.2.1) := ⟨ho.2.1.1, okL_id.1, okL_id.2, ho.2.1.2.2.2⟩
      obtain ⟨U2, v2, g3, f2, M2, -, -, -, s61⟩ := r_called (G := G) (V := U1) ho.1 (hvU.fr f1.cs) M1 okI (p := (k : Int)) ⟨by omega, by omega⟩ (by show (k : Int) ≠ -1; omega)
      have hL2 : okL (cn Z.1) (sendA Z.1 idl k).1 := wav_ok ho.1 10 (okL_uf okL_id ⟨by omega, by omega⟩ (Or.inl rfl)) (by show 0 ≤ (k : Int) ∧ (k : Int) < _; omega) (nob_first okL_id ⟨by omega, by omega⟩ (by show (k : Int) ≠ -1; omega))
      have hb := hL2.1 p h1.1 h1.2
      have cs := ci_snoc (odf Z.1 p l) 1 k 0
      rw [show (0 : Int) + (k : Int) = (k : Int) by omega] at cs
      have f02 := (hf.trans f1).trans f2
      have h61' : gI U2 m 61 = gI V m 61 := by rw [s61, I1, h61]
      have lvs : F_X10_livesNow G m p U2 = some (U2, (sendA Z.1 idl k).1 p) := r_lives M2 hn.2 h1
      refine W_be g2 (W_be g3 (W_be lvs (W_gd ⟨by omega, by omega⟩ (W_gd hl (W_if (fun z => ?_) (fun z => ?_))))))
      · have o : odf Z.1 p l k = 1 := by unfold odf; rw [if_pos z]
        exact W_lt (W_lt (W_so (Or.inl ⟨rfl, w - 1, by omega, f02, h61', ⟨_, M2⟩, k + 1, by rw [cs, o, if_pos rfl]; rfl, by omega⟩)))
      · have o : odf Z.1 p l k = 0 := by unfold odf; rw [if_neg z]
        exact W_lt (W_so (Or.inl ⟨rfl, w - 1, by omega, f02, h61', ⟨_, M2⟩, k + 1, by rw [cs, o, if_neg (by decide), Int.add_zero]; rfl, by omega⟩))
  obtain ⟨V2, q, e3, k2, h61, e4⟩ := main
  have e5 := r_takes (G := G) (V := V2) (m := m)
  have back := aside_back (V := V) (V1 := V1) (V2 := V2) hV1 (k2.1 _ (by omega) (by omega) (by omega) (by omega))
  have k3 : rQ m V (sF V2 (m + 37) (up 282 (gA V2 (m + 38)) (gA V2 (m + 37)))) := (k1.trans k2.Q).trans (rQ_sF ⟨by omega, by omega⟩)
  obtain ⟨V3, hV3⟩ : ∃ V3, V3 = sF V2 (m + 37) (up 282 (gA V2 (m + 38)) (gA V2 (m + 37))) := ⟨_, rfl⟩
  rw [← hV3] at e5 back k3
  have z3 : rZ V3 m Z := rZ_ask ho hv k3 back (by rw [hV3]; show gI V2 m 61 = -1 ∨ gI V2 m 61 = 0 ∨ gI V2 m 61 = 1; rw [h61]; exact hv.2.2.2.2)
  have hby := omi_by (C := Z.1) (p := p) (l := l)
  obtain ⟨w1, w2, w3⟩ := pw_bd (a := (cn Z.1).toNat) (b := omi Z.1 p l) (n := n.toNat) (by omega) (by omega) (by omega) (by omega)
  have key := E_for (B := fun (s : Int × Int × Int) V => B_X10_odds_117 G m p l n q.2.1 s.1 s.2.1 s.2.2 V) (t := 1) (by decide) (fun k => ((((cn Z.1).toNat ^ k : Nat) : Int), ((omi Z.1 p l ^ k : Nat) : Int), (k : Int))) (fun _ => V3) n.toNat ?_ ?_ FU (by unfold FU; omega)
  · refine ⟨V3, E_y e1 (E_y e2 (E_gd hp (E_gd hl (E_if (fun q => absurd q h3) (fun _ => E_gd hk (E_y ei (E_bd g1 (E_bd e3 (E_bd e5 (E_bd key ?_)))))))))), k3, z3⟩
    show gd (rl (1000 * ((((cn Z.1).toNat ^ n.toNat : Nat) : Int) - ((omi Z.1 p l ^ n.toNat : Nat) : Int)))) (gd (rl (((cn Z.1).toNat ^ n.toNat : Nat) : Int)) (gd ((((cn Z.1).toNat ^ n.toNat : Nat) : Int) ≠ 0) (some (V3, (1000 * ((((cn Z.1).toNat ^ n.toNat : Nat) : Int) - ((omi Z.1 p l ^ n.toNat : Nat) : Int))).tdiv (((cn Z.1).toNat ^ n.toNat : Nat) : Int))))) = _
    generalize (cn Z.1).toNat ^ n.toNat = A at w1 w2 w3 ⊢
    generalize omi Z.1 p l ^ n.toNat = D at w1 ⊢
    exact E_gd ⟨by omega, by omega⟩ (E_gd ⟨by omega, by omega⟩ (E_gd (by omega) rfl))
  · intro k hkn
    show B_X10_odds_117 G m p l n q.2.1 (((cn Z.1).toNat ^ k : Nat) : Int) ((omi Z.1 p l ^ k : Nat) : Int) (k : Int) V3 = some (V3, 0, ((((cn Z.1).toNat ^ (k + 1) : Nat) : Int), ((omi Z.1 p l ^ (k + 1) : Nat) : Int), ((k + 1 : Nat) : Int)))
    unfold B_X10_odds_117
    have hm : cn Z.1 - q.2.1 = (omi Z.1 p l : Int) := by rw [e4]; omega
    refine E_gd ⟨by omega, by omega⟩ (E_gd ⟨by omega, by omega⟩ (E_if (fun q => by omega) (fun _ => E_bd (r_many z3.1) (E_gd ⟨by omega, by omega⟩ (E_lt (E_bd (r_many z3.1) ?_))))))
    rw [hm]
    refine E_gd ⟨by omega, by omega⟩ (E_lt (E_lt ?_))
    rw [Nat.pow_succ, Nat.pow_succ, Int.natCast_mul, Int.natCast_mul, Int.toNat_of_nonneg hn.1]; rfl
  · show B_X10_odds_117 G m p l n q.2.1 (((cn Z.1).toNat ^ n.toNat : Nat) : Int) ((omi Z.1 p l ^ n.toNat : Nat) : Int) ((n.toNat : Nat) : Int) V3 = _
    unfold B_X10_odds_117
    exact E_gd ⟨by omega, by omega⟩ (E_gd ⟨by omega, by omega⟩ (E_if (fun _ => rfl) (fun q => by omega)))
end

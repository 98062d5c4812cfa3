/-! waves (class) -/
def okL (n : Int) (lv : Int → Int) : Prop := (∀ p, 0 ≤ p → p < n → -1 ≤ lv p ∧ lv p < n) ∧ (∀ p q, 0 ≤ p → p < n → 0 ≤ q → q < n → lv p = lv q → lv p ≠ -1 → p = q)
theorem okM.L {n : Int} {M : mMo} (h : okM n M) : okL n (ml M) := ⟨h.2.1, h.2.2.1⟩
/-- a life nobody has is given away -/
theorem okL_uf {n k left : Int} {lv : Int → Int} (h : okL n lv) (hk : 0 ≤ k ∧ k < n) (hl : left = -1 ∨ (0 ≤ left ∧ left < n ∧ ∀ q, 0 ≤ q → q < n → lv q ≠ left)) : okL n (uf lv k left) := by
  refine ⟨fun p a b => ?_, fun p q a b c d e f => ?_⟩
  · unfold uf; split
    · omega
    · exact h.1 p a b
  · unfold uf at e f
    by_cases e1 : p = k
    · by_cases e2 : q = k
      · omega
      · rw [if_pos e1] at f; rw [if_pos e1, if_neg e2] at e
        rcases hl with hl | ⟨_, _, hl⟩
        · exact absurd hl f
        · exact absurd e.symm (hl q c d)
    · by_cases e2 : q = k
      · rw [if_neg e1] at f; rw [if_neg e1, if_pos e2] at e
        rcases hl with hl | ⟨_, _, hl⟩
        · omega
        · exact absurd e (hl p a b)
      · rw [if_neg e1] at f; rw [if_neg e1, if_neg e2] at e
        exact h.2 p q a b c d e f
/-- nobody has it -/
def nob (n : Int) (lv : Int → Int) (left : Int) : Prop := ∀ q, 0 ≤ q → q < n → lv q ≠ left
theorem nob_next {n k left : Int} {lv : Int → Int} (h : okL n lv) (hk : 0 ≤ k ∧ k < n) (hl : nob n lv left) (hq : lv k = k) : nob n (uf lv k left) k := by
  intro q a b e
  unfold uf at e
  by_cases e1 : q = k
  · rw [if_pos e1] at e
    exact hl k hk.1 hk.2 (by rw [hq, e])
  · rw [if_neg e1] at e
    exact e1 (h.2 q k a b hk.1 hk.2 (by rw [e, hq]) (by rw [e]; omega))
theorem nob_first {n p : Int} {lv : Int → Int} (h : okL n lv) (hp : 0 ≤ p ∧ p < n) (hh : lv p ≠ -1) : nob n (uf lv p (-1)) (lv p) := by
  intro q a b e
  unfold uf at e
  by_cases e1 : q = p
  · rw [if_pos e1] at e; omega
  · rw [if_neg e1] at e
    exact e1 (h.2 q p a b hp.1 hp.2 e (by rw [e]; exact hh))
theorem wav_ok {C : mCy} (ho : okC C) : ∀ (f : Nat) {lv : Int → Int} {left : Int} {mv : List Int}, okL (cn C) lv → (0 ≤ left ∧ left < cn C) → nob (cn C) lv left → okL (cn C) (wav C f lv left mv).1
  | 0, _, _, _, h, _, _ => h
  | f + 1, lv, left, mv, h, hl, hn => by
    unfold wav
    split
    · exact h
    · next q =>
      have hb := (ho.2.2.2.2.2.1 left hl.1 hl.2).2
      have q1 : cb C left ≠ -1 := fun e => q (Or.inl e)
      have q2 : lv (cb C left) = cb C left := Decidable.byContradiction (fun e => q (Or.inr e))
      exact wav_ok ho f (okL_uf h ⟨by omega, by omega⟩ (Or.inr ⟨hl.1, hl.2, hn⟩)) ⟨by omega, by omega⟩ (nob_next h ⟨by omega, by omega⟩ hn q2)
theorem okM_cal {C : mCy} {M : mMo} (ho : okC C) (h : okM (cn C) M) {p : Int} (hp : 0 ≤ p ∧ p < cn C) (hh : ml M p ≠ -1) : okM (cn C) (calM C M p) := by
  have hr := h.2.1 p hp.1 hp.2
  have k : okL (cn C) (sendA C (ml M) p).1 := wav_ok ho 10 (okL_uf h.L hp (Or.inl rfl)) ⟨by omega, by omega⟩ (nob_first h.L hp hh)
  exact ⟨h.1, k.1, k.2, h.2.2.2⟩
def mvR (V : mV) (cr : Nat) (l : List Int) : Prop := gI V (cr + 3) 1 = (l.length : Int) ∧ ∀ i : Nat, i < l.length → rc V (cr + 3) i = l.getD i 0
def sA' (cr mo : Nat) (i : Nat) : Prop := i = mo + 2 ∨ i = cr ∨ i = cr + 3 ∨ i = cr + 4
theorem m_setL {G : mG} {V : mV} {mo : Nat} {n B : Int} {M : mMo} (hm : is4 G mo) (hn : n ≤ 10) (h : vM V mo n M B) {p v : Int} (hp : 0 ≤ p ∧ p < n) :
    F_X7_put G (mo + 1) p v V = some (sA V (mo + 2) p.toNat v, 0) ∧ vM (sA V (mo + 2) p.toNat v) mo n (mh M, uf (ml M) p v, mw M, mp M, me M) B := by
  obtain ⟨a, b, c, d, e, f⟩ := h
  obtain ⟨h1, h2⟩ := rw_put (v := v) (s4_1s hm) (s4_1c hm) b hn hp
  have k : fr (fun i => i = mo + 2) V (sA V (mo + 2) p.toNat v) := fr_sA rfl
  exact ⟨h1, a, h2, c.fr k (by omega) (by omega), d.fr k (by omega) (by omega), e, f.fr k (by omega) (by omega)⟩
section
variable {G : mG} {V : mV} {cr c mo : Nat} {C : mCy} {B : Int} {M : mMo}
theorem c_away (hG : is2 G cr) (hc : is1 G c) (hm : is4 G mo) (ho : okC C) (hv : vC V c C) (hmo : cr + 10 < mo) (hd : mo + 8 < c) (hM : vM V mo (cn C) M B) (hoM : okM (cn C) M) (hmv : 0 ≤ gI V (cr + 3) 1 ∧ gI V (cr + 3) 1 ≤ 10) {p : Int} (hp : 0 ≤ p ∧ p < cn C) (hh : ml M p ≠ -1) :
    Wp (F_X2_sendAway G cr c mo p V) (fun V' _ => fr (sA' cr mo) V V' ∧ vM V' mo (cn C) (calM C M p) B ∧ gI V' cr 2 = (sendA C (ml M) p).2.1 ∧ mvR V' cr (sendA C (ml M) p).2.2) := by
  have hn := ho.1
  have hr := hoM.2.1 p hp.1 hp.2
  have k1 : fr (sA' cr mo) V (rcut V (cr + 3) 0) := fr_rcut (Or.inr (Or.inr (Or.inl rfl)))
  have z1 : gI (rcut V (cr + 3) 0) (cr + 3) 1 = 0 := by
    unfold rcut; split
    · rw [gI_sI, if_pos ⟨rfl, rfl⟩]
    · omega
  have nS : ∀ i, mo ≤ i → i ≤ mo + 8 → i ≠ mo + 2 → ¬ sA' cr mo i := by intro i a b d q; simp only [sA'] at q; omega
  have hM1 : vM (rcut V (cr + 3) 0) mo (cn C) M B := hM.fr (fr_rcut (S := fun i => i = cr + 3) rfl) (fun i a b => by omega)
  have k2 : fr (sA' cr mo) (rcut V (cr + 3) 0) (sI (rcut V (cr + 3) 0) cr 2 (ml M p)) := fr_sI (Or.inr (Or.inl rfl))
  have hM2 : vM (sI (rcut V (cr + 3) 0) cr 2 (ml M p)) mo (cn C) M B := hM1.fr (fr_sI (S := fun i => i = cr) rfl) (fun i a b => by omega)
  obtain ⟨g3, hM3⟩ := m_setL (v := -1) hm hn.2 hM2 hp
  have k3 : fr (sA' cr mo) (sI (rcut V (cr + 3) 0) cr 2 (ml M p)) (sA (sI (rcut V (cr + 3) 0) cr 2 (ml M p)) (mo + 2) p.toNat (-1)) := fr_sA (Or.inl rfl)
  unfold F_X2_sendAway
  refine W_be (p7_cut (s2_1s hG) (rw_rz (s2_1c hG) rfl ⟨hmv.1, hmv.2⟩) ⟨by omega, by omega⟩) (W_be (rw_get (s4_1s hm) (s4_1c hm) hM1.2.1 hn.2 hp) (W_lt (W_be g3 (W_bd (R := fun V' _ => fr (sA' cr mo) V V' ∧ vM V' mo (cn C) (calM C M p) B ∧ gI V' cr 2 = (sendA C (ml M) p).2.1 ∧ mvR V' cr (sendA C (ml M) p).2.2) ?_ (fun U u q => W_if (fun _ => W_so q) (fun _ => W_so q))))))
  refine W_lp (fun w x U => ∃ (lv : Int → Int) (left : Int) (mv : List Int), x = (mv.length : Int) ∧ mv.length + w = 10 ∧ fr (sA' cr mo) V U ∧ vM U mo (cn C) (mh M, lv, mw M, mp M, me M) B ∧ gI U cr 2 = left ∧ (0 ≤ left ∧ left < cn C) ∧ okL (cn C) lv ∧ nob (cn C) lv left ∧ mvR U cr mv ∧ wav C w lv left mv = sendA C (ml M) p) ?_ FU 10 0 _ ⟨uf (ml M) p (-1), ml M p, [], rfl, rfl, (k1.trans k2).trans k3, hM3, ?_, ⟨by omega, by omega⟩, okL_uf hoM.L hp (Or.inl rfl), nob_first hoM.L hp hh, ⟨?_, fun i hi => absurd hi (Nat.not_lt_zero _)⟩, rfl⟩ (by unfold FU; omega)
  · rintro w x U ⟨lv, left, mv, rfl, hw, hf, hU, h2, hl, hL, hN, hmv', hwv⟩
    have fin : ∀ U', U' = U → ((lv, left, mv) = sendA C (ml M) p) → fr (sA' cr mo) V U' ∧ vM U' mo (cn C) (calM C M p) B ∧ gI U' cr 2 = (sendA C (ml M) p).2.1 ∧ mvR U' cr (sendA C (ml M) p).2.2 := by
      rintro U' rfl e
      refine ⟨hf, ?_, ?_, ?_⟩
      · show vM U' mo (cn C) (mh M, (sendA C (ml M) p).1, mw M, mp M, me M) B
        rw [← e]; exact hU
      · rw [← e]; exact h2
      · rw [← e]; exact hmv'
    unfold B_X2_sendAway_32
    refine W_gd ⟨by omega, by omega⟩ (W_if (fun q => ?_) (fun q => ?_))
    · refine W_so (Or.inr ⟨(show (2 : Nat) ≠ 0 by decide), fin U rfl ?_⟩)
      have e : w = 0 := by omega
      subst e; exact hwv
    · obtain ⟨w, rfl⟩ : ∃ v, w = v + 1 := ⟨w - 1, by omega⟩
      have hb := (ho.2.2.2.2.2.1 left hl.1 hl.2).2
      have hcb : rw' U (c + 7) (cn C) (cb C) := hv.2.1.2.2.2.1.fr hf (by simp only [sA']; omega) (by simp only [sA']; omega)
      rw [h2]
      refine W_be (rw_get (s1_3s hc) (s1_3c hc) hcb hn.2 hl) (W_gd ⟨by omega, by omega⟩ (W_if (fun q1 => ?_) (fun q1 => ?_)))
      · refine W_so (Or.inr ⟨Nat.one_ne_zero, fin U rfl ?_⟩)
        rw [← hwv]; unfold wav; rw [if_pos (Or.inl q1)]
      · have hlv := hL.1 (cb C left) (by omega) (by omega)
        refine W_be (rw_get (s4_1s hm) (s4_1c hm) hU.2.1 hn.2 ⟨by omega, by omega⟩) ?_
        show Wp (gd (rg (lv (cb C left))) (if lv (cb C left) = cb C left then _ else _)) _
        refine W_gd ⟨by omega, by omega⟩ (W_if (fun q2 => ?_) (fun q2 => ?_))
        · obtain ⟨g4, hU4⟩ := m_setL (v := left) hm hn.2 hU (p := cb C left) ⟨by omega, by omega⟩
          have k4 : fr (sA' cr mo) U (sA U (mo + 2) (cb C left).toNat left) := fr_sA (Or.inl rfl)
          have k4' : fr (fun i => i = mo + 2) U (sA U (mo + 2) (cb C left).toNat left) := fr_sA rfl
          have sz : gI (sA U (mo + 2) (cb C left).toNat left) (cr + 3) 1 = (mv.length : Int) := hmv'.1
          have g5 := p7_add (v := cb C left) (s2_1s hG) (rw_rz (V := sA U (mo + 2) (cb C left).toNat left) (s2_1c hG) sz ⟨by omega, by omega⟩)
          rw [s2_1c hG] at g5
          have ra : radd (sA U (mo + 2) (cb C left).toNat left) (cr + 3) 10 (cb C left) = sI (sA (sA U (mo + 2) (cb C left).toNat left) (cr + 4) mv.length (cb C left)) (cr + 3) 1 ((mv.length : Int) + 1) := by
            unfold radd; rw [sz, if_pos (by omega)]; rfl
          rw [ra] at g5
          have k5 : fr (fun i => i = cr + 4 ∨ i = cr + 3 ∨ i = cr) (sA U (mo + 2) (cb C left).toNat left) (sI (sI (sA (sA U (mo + 2) (cb C left).toNat left) (cr + 4) mv.length (cb C left)) (cr + 3) 1 ((mv.length : Int) + 1)) cr 2 (cb C left)) := ((fr_sA (Or.inl rfl)).trans (fr_sI (Or.inr (Or.inl rfl)))).trans (fr_sI (Or.inr (Or.inr rfl)))
          have g4' : F_X7_put G (mo + 1) (cb C left) (gI U cr 2) U = some (sA U (mo + 2) (cb C left).toNat left, 0) := by rw [h2]; exact g4
          refine W_be g4' (W_be g5 (W_lt (W_lt (W_so (Or.inl ⟨rfl, w, by omega, uf lv (cb C left) left, cb C left, mv ++ [cb C left], ?_, ?_, ?_, ?_, ?_, ⟨by omega, by omega⟩, okL_uf hL ⟨by omega, by omega⟩ (Or.inr ⟨hl.1, hl.2, hN⟩), nob_next hL ⟨by omega, by omega⟩ hN q2, ⟨?_, fun i hi => ?_⟩, ?_⟩)))))
          · show (mv.length : Int) + 1 = _
            rw [List.length_append]; rfl
          · rw [List.length_append]; show mv.length + 1 + w = 10; omega
          · exact (hf.trans k4).trans (k5.mono (fun i q => by simp only [sA']; omega))
          · exact hU4.fr k5 (fun i a b => by omega)
          · rw [gI_sI, if_pos ⟨rfl, rfl⟩]
          · rw [gI_sI, if_neg (by omega), gI_sI, if_pos ⟨rfl, rfl⟩, List.length_append]; rfl
          · rw [List.length_append] at hi
            show gA (sA (sA U (mo + 2) (cb C left).toNat left) (cr + 4) mv.length (cb C left)) (cr + 4) i = _
            rw [gA_sA]
            by_cases e : i = mv.length
            · rw [if_pos ⟨rfl, e⟩, gD_r _ _ _ _ (by omega), e, Nat.sub_self]; rfl
            · have hi' : i < mv.length := by have : i < mv.length + 1 := hi; omega
              rw [if_neg (fun q => e q.2), gD_l _ _ _ _ hi', gA_sA, if_neg (by rintro ⟨q, -⟩; omega)]
              exact hmv'.2 i hi'
          · rw [← hwv]
            show _ = wav C (w + 1) lv left mv
            rw [wav, if_neg (by rintro (q | q); exact q1 q; exact q q2)]
        · refine W_so (Or.inr ⟨Nat.one_ne_zero, fin U rfl ?_⟩)
          rw [← hwv]; unfold wav; rw [if_pos (Or.inr q2)]
  · show gI (sI (rcut V (cr + 3) 0) cr 2 (ml M p)) cr 2 = _
    rw [gI_sI, if_pos ⟨rfl, rfl⟩]
  · show gI (sI (rcut V (cr + 3) 0) cr 2 (ml M p)) (cr + 3) 1 = 0
    rw [gI_sI, if_neg (by omega)]; exact z1
end

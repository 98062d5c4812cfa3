/-! an image goes on: both -/
theorem rM_setW {g : Nat → Int} {n p v : Int} {M : mMo} (h : rM g n M) (hn : n ≤ 10) (hp : 0 ≤ p ∧ p < n) : rM (uN g (2 + 12 * p).toNat v) n (mh M, ml M, uf (mw M) p v, mp M, me M) := by
  obtain ⟨a, b, c, d, e⟩ := h
  refine ⟨?_, fun q q1 q2 => ⟨?_, ?_⟩, fun q r q1 q2 r1 r2 => ?_, ?_, fun i hi => ⟨?_, ?_, ?_, ?_⟩⟩
  · show uN g _ v 0 = _; unfold uN; rw [if_neg (by omega)]; exact a
  · unfold uN; rw [if_neg (by omega)]; exact (b q q1 q2).1
  · show uN g _ v _ = uf (mw M) p v q
    unfold uN uf
    by_cases e1 : q = p
    · rw [if_pos (by rw [e1]), if_pos e1]
    · rw [if_neg (by omega), if_neg e1]; exact (b q q1 q2).2
  · unfold uN; rw [if_neg (by omega)]; exact c q r q1 q2 r1 r2
  · unfold uN; rw [if_neg (by omega)]; exact d
  · unfold uN; rw [if_neg (by omega)]; exact (e i hi).1
  · unfold uN; rw [if_neg (by omega)]; exact (e i hi).2.1
  · unfold uN; rw [if_neg (by omega)]; exact (e i hi).2.2.1
  · unfold uN; rw [if_neg (by omega)]; exact (e i hi).2.2.2
/-- so far it is put -/
def imA (T : mT2) (n p : Nat) (l w : Int → Int) (g : Int → Int → Int) : Prop := ∀ q : Nat, q < p → l (q : Int) = T.1 (2 + (n + 2) * q) - 1 ∧ w (q : Int) = T.1 (2 + (n + 2) * q + 1) - 1 ∧ ∀ r : Nat, r < n → g (q : Int) (r : Int) = T.1 (2 + (n + 2) * q + 2 + r)
theorem imM_l {T : mT2} {n q : Nat} : ml (imM T n) (q : Int) = T.1 (2 + (n + 2) * q) - 1 := by show T.1 (2 + (n + 2) * ((q : Int)).toNat) - 1 = _; rw [Int.toNat_natCast]
theorem imM_w {T : mT2} {n q : Nat} : mw (imM T n) (q : Int) = T.1 (2 + (n + 2) * q + 1) - 1 := by show T.1 (2 + (n + 2) * ((q : Int)).toNat + 1) - 1 = _; rw [Int.toNat_natCast]
theorem imM_p {T : mT2} {n q r : Nat} : mp (imM T n) (q : Int) (r : Int) = T.1 (2 + (n + 2) * q + 2 + r) := by show T.1 (2 + (n + 2) * ((q : Int)).toNat + 2 + ((r : Int)).toNat) = _; rw [Int.toNat_natCast, Int.toNat_natCast]
section
variable {G : mG} {V V' : mV} {x m N : Nat} {Y : mY}
theorem c_take (hG : is9 G x) (h : okY Y) (hv : vY G V x Y) {n : Nat} (hnn : (n : Int) = cn (yZ Y).1) (hI : imOk (yT Y) n) :
    ∃ V', F_X9_takeImage G x V = some (V', 0) ∧ fr (fun i => (x + 227 ≤ i ∧ i ≤ x + 235) ∨ i = x + 45) V V' ∧ vM V' (x + 227) (n : Int) (imM (yT Y) n) 0 ∧ gI V' (x + 45) 1 = 0 ∧ gI V' (x + 45) 2 = gI V (x + 45) 2 := by
  obtain ⟨T, hTe⟩ : ∃ T, T = yT Y := ⟨_, rfl⟩
  have hT : tOk T := by rw [hTe]; exact h.2.2.1
  rw [← hTe] at hI ⊢
  have hn := h.1.1.1
  have hN := imN_le (n := n) (by omega)
  have hNp : ∀ p, p < n → 2 + (n + 2) * p + (n + 2) ≤ imN n := fun p hp => by have := imN_p hp; unfold imN; omega
  have hsz : gI V (gR G x 10 + 1) 1 = cn (yZ Y).1 := hv.1.2.1.2.1.1.1
  have ha := hv.1.1
  have hG8 := s9_8s hG
  have hlen : T.2 = imN n + 1 := hI.1
  have hT1 := hT.1
  have hrt : rw' V (x + 1) (T.2 : Int) (fun k => T.1 k.toNat) := by rw [hTe]; exact hv.2.2.1
  obtain ⟨P, hP⟩ : ∃ P : Nat → Prop, P = fun i => (x + 227 ≤ i ∧ i ≤ x + 235) ∨ i = x + 45 := ⟨_, rfl⟩
  have tg : ∀ {U : mV} (z : Int) (k : Nat), fr P V U → z = (k : Int) → k ≤ imN n → F_X7_get G (x + 1) z U = some (U, T.1 k) := by
    intro U z k hk hz hk2
    have r := hrt.fr hk (by rw [hP]; omega) (by rw [hP]; omega)
    have := rw_get (k := z) (s9_0s hG) (s9_0c hG) r (by show (T.2 : Int) ≤ 1600; omega) ⟨by omega, by omega⟩
    rw [hz] at this ⊢
    rw [this, Int.toNat_natCast]
  have tb : ∀ k, k ≤ imN n → 0 ≤ T.1 k ∧ T.1 k ≤ 255 := fun k hk => hT.2 k (by omega)
  obtain ⟨V1, e1, k1, w1⟩ := m_begin (V := V) (mo := x + 227) hG8 (s9_10s hG) (Or.inl (by omega)) h.1.1 hv.1.2.1
  have f1 : fr P V V1 := k1.mono (fun i q => by rw [hP]; left; omega)
  obtain ⟨V2, hV2⟩ : ∃ V2, V2 = sI V1 (x + 45) 1 0 := ⟨_, rfl⟩
  have k2 : fr (fun i => i = x + 45) V1 V2 := by rw [hV2]; exact fr_sI rfl
  have f2 : fr P V V2 := f1.trans (k2.mono (fun i q => by rw [hP]; right; exact q))
  have w2 := w1.fr k2 (fun i p q => by omega)
  obtain ⟨V3, hV3⟩ : ∃ V3, V3 = sI V2 (x + 227) 0 (T.1 0 * 256 + T.1 1) := ⟨_, rfl⟩
  have k3 : fr (fun i => i = x + 227) V2 V3 := by rw [hV3]; exact fr_sI rfl
  have f3 : fr P V V3 := f2.trans (k3.mono (fun i q => by rw [hP]; left; omega))
  have w3 : vM V3 (x + 227) (n : Int) (T.1 0 * 256 + T.1 1, fun p => p, fun _ => -1, ck (yZ Y).1, []) 0 := by
    rw [← hnn] at w2
    obtain ⟨b1, b2, b3, b4, b5, b6⟩ := w2
    have e5 : gI V3 (x + 227) 5 = gI V2 (x + 227) 5 := by rw [hV3, gI_sI, if_neg (by omega)]
    refine ⟨by rw [hV3, gI_sI, if_pos ⟨rfl, rfl⟩]; rfl, b2.fr k3 (by omega) (by omega), b3.fr k3 (by omega) (by omega), b4.fr k3 (by omega) (by omega), by rw [e5]; exact b5, ?_⟩
    rw [e5]; exact b6.fr k3 (by omega) (by omega)
  have z1 : gI V3 (x + 45) 1 = 0 := by rw [k3.I (by omega), hV2, gI_sI, if_pos ⟨rfl, rfl⟩]
  have z2 : gI V3 (x + 45) 2 = gI V (x + 45) 2 := by rw [k3.I (by omega), hV2, gI_sI, if_neg (by omega), k1.I (by omega)]
  have main : Wp (lp (fun (s : Int) V => B_X9_takeImage_59 G x (n : Int) s V) FU 0 V3) (fun V' _ => fr (fun i => x + 227 ≤ i ∧ i ≤ x + 235) V3 V' ∧ ∃ l w g, vM V' (x + 227) (n : Int) (T.1 0 * 256 + T.1 1, l, w, g, []) 0 ∧ imA T n n l w g) := by
    refine W_lp (fun w (y : Int) U => ∃ p : Nat, y = (p : Int) ∧ p + w = n ∧ fr (fun i => x + 227 ≤ i ∧ i ≤ x + 235) V3 U ∧ ∃ l w g, vM U (x + 227) (n : Int) (T.1 0 * 256 + T.1 1, l, w, g, []) 0 ∧ imA T n p l w g) ?_ FU n _ V3 ⟨0, rfl, by omega, fr_refl, _, _, _, w3, fun q hq => by omega⟩ (by unfold FU; omega)
    rintro w y U ⟨p, rfl, hw, hk, l, wa, g, hM, hA⟩
    unfold B_X9_takeImage_59
    refine W_gd ⟨by omega, by omega⟩ (W_gd ⟨by omega, by omega⟩ (W_if (fun q => W_so (Or.inr ⟨Nat.one_ne_zero, hk, l, wa, g, hM, ?_⟩)) (fun q => ?_)))
    · have e : p = n := by omega
      rw [e] at hA; exact hA
    have hp : p < n := by omega
    have hb := hNp p hp
    have fP : ∀ {U'}, fr (fun i => x + 227 ≤ i ∧ i ≤ x + 235) V3 U' → fr P V U' := fun hk => f3.trans (hk.mono (fun i q => by rw [hP]; left; exact q))
    rw [ix_e]
    obtain ⟨a1, m1⟩ := m_setL (v := T.1 (2 + (n + 2) * p) - 1) hG8 (by omega) hM (p := (p : Int)) ⟨by omega, by omega⟩
    obtain ⟨U1, hU1⟩ : ∃ U1, U1 = sA U (x + 227 + 2) ((p : Int)).toNat (T.1 (2 + (n + 2) * p) - 1) := ⟨_, rfl⟩
    rw [← hU1] at a1 m1
    have hk1 : fr (fun i => x + 227 ≤ i ∧ i ≤ x + 235) V3 U1 := hk.trans (by rw [hU1]; exact fr_sA ⟨by omega, by omega⟩)
    obtain ⟨a2, m2⟩ := m_setW (v := T.1 (2 + (n + 2) * p + 1) - 1) hG8 (by omega) m1 (p := (p : Int)) ⟨by omega, by omega⟩
    obtain ⟨U2, hU2⟩ : ∃ U2, U2 = sA U1 (x + 227 + 4) ((p : Int)).toNat (T.1 (2 + (n + 2) * p + 1) - 1) := ⟨_, rfl⟩
    rw [← hU2] at a2 m2
    have hk2 : fr (fun i => x + 227 ≤ i ∧ i ≤ x + 235) V3 U2 := hk1.trans (by rw [hU2]; exact fr_sA ⟨by omega, by omega⟩)
    have inner : Wp (lp (fun (s : Int) V => B_X9_takeImage_119 G x (n : Int) (p : Int) ((2 + (n + 2) * p : Nat) : Int) s V) FU 0 U2) (fun V' _ => fr (fun i => x + 227 ≤ i ∧ i ≤ x + 235) V3 V' ∧ ∃ l w g, vM V' (x + 227) (n : Int) (T.1 0 * 256 + T.1 1, l, w, g, []) 0 ∧ imA T n (p + 1) l w g) := by
      refine W_lp (fun w (y : Int) U => ∃ r : Nat, y = (r : Int) ∧ r + w = n ∧ fr (fun i => x + 227 ≤ i ∧ i ≤ x + 235) V3 U ∧ ∃ g, vM U (x + 227) (n : Int) (T.1 0 * 256 + T.1 1, uf l (p : Int) (T.1 (2 + (n + 2) * p) - 1), uf wa (p : Int) (T.1 (2 + (n + 2) * p + 1) - 1), g, []) 0 ∧ (∀ q : Nat, q < p → ∀ r : Nat, r < n → g (q : Int) (r : Int) = T.1 (2 + (n + 2) * q + 2 + r)) ∧ ∀ s : Nat, s < r → g (p : Int) (s : Int) = T.1 (2 + (n + 2) * p + 2 + s)) ?_ FU n _ U2 ⟨0, rfl, by omega, hk2, g, m2, fun q hq => (hA q hq).2.2, fun s hs => by omega⟩ (by unfold FU; omega)
      rintro w y U ⟨r, rfl, hw, hk, g', hM, hB, hC⟩
      unfold B_X9_takeImage_119
      refine W_gd ⟨by omega, by omega⟩ (W_gd ⟨by omega, by omega⟩ (W_if (fun q => W_so (Or.inr ⟨Nat.one_ne_zero, hk, _, _, g', hM, fun q hq => ⟨?_, ?_, fun s hs => ?_⟩⟩)) (fun q => ?_)))
      · unfold uf
        by_cases e : q = p
        · rw [if_pos (by omega), e]
        · rw [if_neg (by omega)]; exact (hA q (by omega)).1
      · unfold uf
        by_cases e : q = p
        · rw [if_pos (by omega), e]
        · rw [if_neg (by omega)]; exact (hA q (by omega)).2.1
      · by_cases e : q = p
        · rw [e]; exact hC s (by omega)
        · exact hB q (by omega) s hs
      have hr : r < n := by omega
      have im := (hI.2.2.2 p hp).2.2.1 r hr
      have bb := tb (2 + (n + 2) * p + 2 + r) (by omega)
      obtain ⟨U3, a3, q3, m3⟩ := m_setP hG8 (by omega) hM (p := (p : Int)) (l := (r : Int)) (v := T.1 (2 + (n + 2) * p + 2 + r)) ⟨by omega, by omega⟩ ⟨by omega, by omega⟩ ⟨by omega, by omega⟩
      refine W_be (tg _ (2 + (n + 2) * p + 2 + r) (fP hk) (by omega) (by omega)) (W_be a3 (W_lt (W_so (Or.inl ⟨rfl, w - 1, by omega, r + 1, rfl, by omega, hk.trans (q3.mono (fun i q => by omega)), _, m3, fun q hq s hs => ?_, fun s hs => ?_⟩))))
      · unfold ug
        rw [if_neg (by omega)]; exact hB q hq s hs
      · unfold ug
        by_cases e : s = r
        · rw [if_pos ⟨rfl, by omega⟩, e, Int.min_eq_right (by omega), Int.max_eq_right (by omega)]
        · rw [if_neg (by omega)]; exact hC s (by omega)
    obtain ⟨U4, u4, a4, q4, l', w', g', m4, A4⟩ := inner
    exact W_lt (W_be (tg _ (2 + (n + 2) * p) (fP hk) rfl (by omega)) (W_be a1 (W_be (tg _ (2 + (n + 2) * p + 1) (fP hk1) (by omega) (by omega)) (W_be a2 (W_be a4 (W_lt (W_so (Or.inl ⟨rfl, w - 1, by omega, p + 1, rfl, by omega, q4, l', w', g', m4, A4⟩))))))))
  obtain ⟨V4, u4, e4, k4, l, w, g, m4, A4⟩ := main
  refine ⟨V4, ?_, by rw [hP] at f3; exact f3.trans (k4.mono (fun i q => Or.inl q)), ?_, ?_, ?_⟩
  · unfold F_X9_takeImage
    refine E_bd p7_size ?_
    rw [hsz, ← hnn]
    refine E_bd e1 (E_bd (show F_X5_clear G (x + 45) V1 = some (V2, 0) by rw [hV2]; rfl) (E_bd (tg 0 0 f2 rfl (Nat.zero_le _)) (E_bd (tg 1 1 f2 rfl (by unfold imN; omega)) (E_lt ?_))))
    rw [← hV3]
    exact E_bd e4 rfl
  · obtain ⟨b1, b2, b3, b4, b5, b6⟩ := m4
    refine ⟨b1, rw_cg b2 (fun j j0 j1 => ?_), rw_cg b3 (fun j j0 j1 => ?_), b4.cg (fun a b a0 a1 b0 b1 => ?_), b5, b6⟩
    · obtain ⟨k, rfl⟩ : ∃ k : Nat, j = (k : Int) := ⟨j.toNat, by omega⟩
      rw [imM_l]; exact ((A4 k (by omega)).1).symm
    · obtain ⟨k, rfl⟩ : ∃ k : Nat, j = (k : Int) := ⟨j.toNat, by omega⟩
      rw [imM_w]; exact ((A4 k (by omega)).2.1).symm
    · obtain ⟨k, rfl⟩ : ∃ k : Nat, a = (k : Int) := ⟨a.toNat, by omega⟩
      obtain ⟨r, rfl⟩ : ∃ k : Nat, b = (k : Int) := ⟨b.toNat, by omega⟩
      rw [imM_p]; exact ((A4 k (by omega)).2.2 r (by omega)).symm
  · rw [k4.I (by omega)]; exact z1
  · rw [k4.I (by omega)]; exact z2
theorem r_on (hG10 : is10 G m) (h : okY Y) (hv : rY V m Y) {n : Nat} (hnn : (n : Int) = cn (yZ Y).1) (hI : imOk (yT Y) n) {V2 : mV} (hV2 : V2 = sI V m 1 0)
    (hr : F_X10_isTold G m (gI V m 1) V2 = some (V2, 1)) :
    ∃ V', F_X10_on G m V = some (V', 1) ∧ (∀ i, i ≠ m + 37 → gA V' i = gA V2 i) ∧ (∀ i k, (i ≠ m ∨ k ≠ 69) → gI V' i k = gI V2 i k) ∧ gJ V' = gJ V ∧ gL V' = gL V ∧ gI V' m 69 = 0 ∧ rM (gA V' (m + 37)) (n : Int) (imM (yT Y) n) := by
  obtain ⟨T, hTe⟩ : ∃ T, T = yT Y := ⟨_, rfl⟩
  have hT : tOk T := by rw [hTe]; exact h.2.2.1
  rw [← hTe] at hI ⊢
  have hn := h.1.1.1
  have hN := imN_le (n := n) (by omega)
  have hNp : ∀ p, p < n → 2 + (n + 2) * p + (n + 2) ≤ imN n := fun p hp => by have := imN_p hp; unfold imN; omega
  have hlen : T.2 = imN n + 1 := hI.1
  have hT1 := hT.1
  have tc : ∀ k, k ≤ imN n → gA V2 (m + 1) k = T.1 k := by
    intro k hk
    have : gA V (m + 1) k = (yT Y).1 k := hv.2.1.1 k (by rw [← hTe]; omega)
    rw [hV2, hTe]; exact this
  obtain ⟨P, hP⟩ : ∃ P : mV → Prop, P = fun U => (∀ i, i ≠ m + 37 → gA U i = gA V2 i) ∧ gI U = gI V2 ∧ gJ U = gJ V ∧ gL U = gL V := ⟨_, rfl⟩
  have P2 : P V2 := by rw [hP, hV2]; exact ⟨fun _ _ => rfl, rfl, rfl, rfl⟩
  have Ps : ∀ {U k v}, P U → P (sA U (m + 37) k v) := by
    intro U k v hU
    rw [hP] at hU ⊢
    exact ⟨fun i hi => by rw [gA_sAo hi]; exact hU.1 i hi, hU.2.1, hU.2.2.1, hU.2.2.2⟩
  have Pt : ∀ {U k}, P U → k ≤ imN n → gA U (m + 1) k = T.1 k := by
    intro U k hU hk
    rw [hP] at hU
    rw [hU.1 _ (by omega)]; exact tc k hk
  have many : ∀ {U}, P U → F_X10_peopleMany G m U = some (U, (n : Int)) := by
    intro U hU
    rw [hP] at hU
    rw [hnn]
    refine r_many (hv.1.1.fr ⟨fun i p q => ?_, by rw [hU.2.2.2]⟩)
    rw [hU.1 _ (by omega), hV2]; rfl
  obtain ⟨V8, hV8⟩ : ∃ V8, V8 = sA V2 (m + 37) 0 ((256 * (gA V2 (m + 1) 0)) + (gA V2 (m + 1) 1)) := ⟨_, rfl⟩
  have P8 : P V8 := by rw [hV8]; exact Ps P2
  have hM8 : rM (gA V8 (m + 37)) (n : Int) (T.1 0 * 256 + T.1 1, ml (yZ Y).2.1, mw (yZ Y).2.1, mp (yZ Y).2.1, me (yZ Y).2.1) := by
    obtain ⟨b1, b2, b3, b4, b5⟩ := hv.1.2.1
    have e : ∀ k, k ≠ 0 → gA V8 (m + 37) k = gA V (m + 37) k := by
      intro k hk
      rw [hV8, gA_sAf, if_neg hk, hV2]; rfl
    rw [← hnn] at b2 b3
    refine ⟨?_, fun p p0 p1 => ⟨?_, ?_⟩, fun p l p0 p1 l0 l1 => ?_, ?_, fun i hi => ⟨?_, ?_, ?_, ?_⟩⟩
    · rw [hV8, gA_sAf, if_pos rfl, tc 0 (Nat.zero_le _), tc 1 (by unfold imN; omega), Int.mul_comm]; rfl
    · rw [e _ (by omega)]; exact (b2 p p0 p1).1
    · rw [e _ (by omega)]; exact (b2 p p0 p1).2
    · rw [e _ (by omega)]; exact b3 p l p0 p1 l0 l1
    · rw [e _ (by omega)]; exact b4
    · rw [e _ (by omega)]; exact (b5 i hi).1
    · rw [e _ (by omega)]; exact (b5 i hi).2.1
    · rw [e _ (by omega)]; exact (b5 i hi).2.2.1
    · rw [e _ (by omega)]; exact (b5 i hi).2.2.2
  generalize me (yZ Y).2.1 = K at hM8
  have main : Wp (lp (fun (s : Int) V => B_X10_on_55 G m s V) FU 0 V8) (fun V' _ => P V' ∧ ∃ l w g, rM (gA V' (m + 37)) (n : Int) (T.1 0 * 256 + T.1 1, l, w, g, K) ∧ imA T n n l w g) := by
    refine W_lp (fun w (y : Int) U => ∃ p : Nat, y = (p : Int) ∧ p + w = n ∧ P U ∧ ∃ l w g, rM (gA U (m + 37)) (n : Int) (T.1 0 * 256 + T.1 1, l, w, g, K) ∧ imA T n p l w g) ?_ FU n _ V8 ⟨0, rfl, by omega, P8, _, _, _, hM8, fun q hq => by omega⟩ (by unfold FU; omega)
    rintro w y U ⟨p, rfl, hw, hk, l, wa, g, hM, hA⟩
    unfold B_X10_on_55
    refine W_be (many hk) (W_gd ⟨by omega, by omega⟩ (W_gd ⟨by omega, by omega⟩ (W_if (fun q => W_so (Or.inr ⟨Nat.one_ne_zero, hk, l, wa, g, ?_, ?_⟩)) (fun q => ?_))))
    · exact hM
    · have e : p = n := by omega
      rw [e] at hA; exact hA
    have hp : p < n := by omega
    have hb := hNp p hp
    have s1 := r_live (G := G) (V := U) (m := m) (p := (p : Int)) (v := T.1 (2 + (n + 2) * p) - 1) (n := (n : Int)) (by omega) ⟨by omega, by omega⟩
    obtain ⟨U1, hU1⟩ : ∃ U1, U1 = sA U (m + 37) (1 + 12 * (p : Int)).toNat (T.1 (2 + (n + 2) * p) - 1) := ⟨_, rfl⟩
    rw [← hU1] at s1
    have q1 : P U1 := by rw [hU1]; exact Ps hk
    have m1 := rM_setL (p := (p : Int)) (v := T.1 (2 + (n + 2) * p) - 1) hM (by omega) ⟨by omega, by omega⟩
    rw [← gA_sAe, ← hU1] at m1
    obtain ⟨U2, hU2⟩ : ∃ U2, U2 = sA U1 (m + 37) (2 + 12 * (p : Int)).toNat (T.1 (2 + (n + 2) * p + 1) - 1) := ⟨_, rfl⟩
    have q2 : P U2 := by rw [hU2]; exact Ps q1
    have m2 := rM_setW (p := (p : Int)) (v := T.1 (2 + (n + 2) * p + 1) - 1) m1 (by omega) ⟨by omega, by omega⟩
    rw [← gA_sAe, ← hU2] at m2
    have inner : Wp (lp (fun (s : Int) V => B_X10_on_111 G m (p : Int) ((2 + (n + 2) * p : Nat) : Int) s V) FU 0 U2) (fun V' _ => P V' ∧ ∃ l w g, rM (gA V' (m + 37)) (n : Int) (T.1 0 * 256 + T.1 1, l, w, g, K) ∧ imA T n (p + 1) l w g) := by
      refine W_lp (fun w (y : Int) U => ∃ r : Nat, y = (r : Int) ∧ r + w = n ∧ P U ∧ ∃ g, rM (gA U (m + 37)) (n : Int) (T.1 0 * 256 + T.1 1, uf l (p : Int) (T.1 (2 + (n + 2) * p) - 1), uf wa (p : Int) (T.1 (2 + (n + 2) * p + 1) - 1), g, K) ∧ (∀ q : Nat, q < p → ∀ r : Nat, r < n → g (q : Int) (r : Int) = T.1 (2 + (n + 2) * q + 2 + r)) ∧ ∀ s : Nat, s < r → g (p : Int) (s : Int) = T.1 (2 + (n + 2) * p + 2 + s)) ?_ FU n _ U2 ⟨0, rfl, by omega, q2, g, m2, fun q hq => (hA q hq).2.2, fun s hs => by omega⟩ (by unfold FU; omega)
      rintro w y U ⟨r, rfl, hw, hk, g', hM, hB, hC⟩
      unfold B_X10_on_111
      refine W_be (many hk) (W_gd ⟨by omega, by omega⟩ (W_gd ⟨by omega, by omega⟩ (W_if (fun q => W_so (Or.inr ⟨Nat.one_ne_zero, hk, _, _, g', hM, fun q hq => ⟨?_, ?_, fun s hs => ?_⟩⟩)) (fun q => ?_))))
      · unfold uf
        by_cases e : q = p
        · rw [if_pos (by omega), e]
        · rw [if_neg (by omega)]; exact (hA q (by omega)).1
      · unfold uf
        by_cases e : q = p
        · rw [if_pos (by omega), e]
        · rw [if_neg (by omega)]; exact (hA q (by omega)).2.1
      · by_cases e : q = p
        · rw [e]; exact hC s (by omega)
        · exact hB q (by omega) s hs
      have hr : r < n := by omega
      have ei : (((2 + (n + 2) * p : Nat) : Int) + 2 + (r : Int)).toNat = 2 + (n + 2) * p + 2 + r := by omega
      rw [ei, Pt hk (by omega)]
      have s3 := r_knows (G := G) (V := U) (m := m) (p := (p : Int)) (l := (r : Int)) (v := T.1 (2 + (n + 2) * p + 2 + r)) (n := (n : Int)) (by omega) ⟨by omega, by omega⟩ ⟨by omega, by omega⟩
      have m3 := rM_setP (p := (p : Int)) (l := (r : Int)) (v := T.1 (2 + (n + 2) * p + 2 + r)) hM (by omega) ⟨by omega, by omega⟩ ⟨by omega, by omega⟩
      rw [← gA_sAe] at m3
      refine W_gd ⟨by omega, by omega, by omega⟩ (W_be s3 (W_lt (W_so (Or.inl ⟨rfl, w - 1, by omega, r + 1, rfl, by omega, Ps hk, _, m3, fun q hq s hs => ?_, fun s hs => ?_⟩))))
      · unfold ug
        rw [if_neg (by omega)]; exact hB q hq s hs
      · unfold ug
        by_cases e : s = r
        · rw [if_pos ⟨rfl, by omega⟩, e]
        · rw [if_neg (by omega)]; exact hC s (by omega)
    obtain ⟨U4, u4, a4, q4, l', w', g', m4, A4⟩ := inner
    have ei0 : (((2 + (n + 2) * p : Nat) : Int)).toNat = 2 + (n + 2) * p := Int.toNat_natCast _
    have ei1 : (((2 + (n + 2) * p : Nat) : Int) + 1).toNat = 2 + (n + 2) * p + 1 := by omega
    refine W_be (many hk) ?_
    rw [ix_e2]
    refine W_lt (W_gd ⟨by omega, by omega, by omega⟩ ?_)
    rw [ei0, Pt hk (by omega)]
    refine W_be s1 (W_gd ⟨by omega, by omega, by omega⟩ (W_gd ⟨by omega, by omega, by omega⟩ (W_lt ?_)))
    rw [ei1, Pt q1 (by omega), ← hU2]
    exact W_be a4 (W_lt (W_so (Or.inl ⟨rfl, w - 1, by omega, p + 1, rfl, by omega, q4, l', w', g', m4, A4⟩)))
  obtain ⟨V4, u4, e4, p4, l, w, g, m4, A4⟩ := main
  rw [hP] at p4
  refine ⟨sI (sA V4 (m + 37) 121 0) m 69 0, ?_, fun i hi => ?_, fun i k q => ?_, p4.2.2.1, p4.2.2.2, by rw [gI_sI, if_pos ⟨rfl, rfl⟩], ?_⟩
  · unfold F_X10_on
    refine E_lt (E_lt ?_)
    rw [← hV2]
    refine E_bd hr (E_gd (by decide) (E_if (fun q => absurd q (by decide)) (fun _ => E_lt ?_)))
    rw [← hV8]
    exact E_bd e4 (E_lt (E_lt rfl))
  · show gA (sA V4 (m + 37) 121 0) i = _
    rw [gA_sAo hi]; exact p4.1 i hi
  · rw [gI_sI, if_neg (by omega)]
    show gI V4 i k = _
    rw [p4.2.1]
  · obtain ⟨b1, b2, b3, b4, b5⟩ := m4
    have e : ∀ k, k ≠ 121 → gA (sI (sA V4 (m + 37) 121 0) m 69 0) (m + 37) k = gA V4 (m + 37) k := by
      intro k hk
      show gA (sA V4 (m + 37) 121 0) (m + 37) k = _
      rw [gA_sAf, if_neg hk]
    refine ⟨?_, fun p p0 p1 => ⟨?_, ?_⟩, fun p l p0 p1 l0 l1 => ?_, ?_, fun i hi => ?_⟩
    · rw [e _ (by omega)]; exact b1
    · rw [e _ (by omega), (b2 p p0 p1).1]
      obtain ⟨k, rfl⟩ : ∃ k : Nat, p = (k : Int) := ⟨p.toNat, by omega⟩
      rw [imM_l]; exact (A4 k (by omega)).1
    · rw [e _ (by omega), (b2 p p0 p1).2]
      obtain ⟨k, rfl⟩ : ∃ k : Nat, p = (k : Int) := ⟨p.toNat, by omega⟩
      rw [imM_w]; exact (A4 k (by omega)).2.1
    · rw [e _ (by omega), b3 p l p0 p1 l0 l1]
      obtain ⟨k, rfl⟩ : ∃ k : Nat, p = (k : Int) := ⟨p.toNat, by omega⟩
      obtain ⟨r, rfl⟩ : ∃ k : Nat, l = (k : Int) := ⟨l.toNat, by omega⟩
      rw [imM_p]; exact (A4 k (by omega)).2.2 r (by omega)
    · show gA (sA V4 (m + 37) 121 0) (m + 37) 121 = _
      rw [gA_sAf, if_pos rfl]; rfl
    · have : i < ([] : List (Int × Int × Int × Int)).length := hi
      rw [List.length_nil] at this; omega
/-- the tape is empty -/
def yCut (Y : mY) : mY := (yZ Y, ((yT Y).1, 0), Y.2.2)
theorem okA_cut (h : okA N Y) : okA N (yCut Y) := by
  obtain ⟨⟨a1, a2, a3, a4, a5, a6, a7⟩, b, c, d⟩ := h
  exact ⟨⟨a1, a2, ⟨by show 0 ≤ 1600; omega, fun j hj => by have hj' : j < 0 := hj; omega⟩, a4, a5, a6, a7⟩, b, c, d⟩
theorem c_cut (hG : is9 G x) (h : okY Y) (hv : vY G V x Y) : ∃ V', F_X7_cut G (x + 1) 0 V = some (V', 0) ∧ fr (fun i => i = x + 1) V V' ∧ vY G V' x (yCut Y) := by
  have hT := h.2.2.1
  obtain ⟨V1, e1, k1, r1⟩ := rw_cut0 (f := fun k => (yT Y).1 k.toNat) (s9_0s hG) (rw_rz (s9_0c hG) hv.2.2.1.1 ⟨by omega, by have := hT.1; show ((yT Y).2 : Int) ≤ 1600; omega⟩)
  exact ⟨V1, e1, k1, vY_tp hv (k1.mono (fun i q => Or.inl q)) r1⟩
theorem S_on (hG : is9 G x) (hG10 : is10 G m) (hm : m = x + 327) (h : okA N Y) : STEP G x m N (F_X9_on G x) (F_X10_on G m) Y := by
  have ho := h.1.1
  have hn := ho.1.1
  have hT := h.1.2.2.1
  obtain ⟨n, hnn⟩ : ∃ n : Nat, (n : Int) = cn (yZ Y).1 := ⟨(cn (yZ Y).1).toNat, by omega⟩
  have hC2 : ∀ {V}, rY V m Y → rC (sI V m 1 0) m (yZ Y).1 := fun hv => hv.1.1.fr ⟨fun i p q => rfl, rfl⟩
  have tl : ∀ {V}, rY V m Y → gI V m 1 = ((yT Y).2 : Int) := fun hv => hv.2.1.2
  have hcut : ∀ {V}, rY V m Y → rY (sI V m 1 0) m (yCut Y) := fun {V} hv => rY_tp hv (fun _ _ => rfl) (fun k hk => by rw [gI_sI, if_neg (by omega)]) rfl rfl ⟨fun j hj => by have hj' : j < 0 := hj; omega, by rw [gI_sI, if_pos ⟨rfl, rfl⟩]; rfl⟩
  by_cases c : imOk (yT Y) n
  · refine ⟨(((yZ Y).1, imM (yT Y) n, [], (yZ Y).2.2.2), (yCut Y).2), 1, fun V hv => ?_, fun V hv => ?_, ?_, ⟨by decide, by decide⟩⟩
    · obtain ⟨r, er, hr⟩ := c_isIm hG h.1 hv hnn
      have hr1 : r = 1 := by
        rcases hr with q | q
        · exact q.1
        · exact absurd c q.2
      rw [hr1] at er
      obtain ⟨V1, e1, k1, m1, z1, z2⟩ := c_take hG h.1 hv hnn c
      have ha := hv.1.1
      have k1E : ∀ i, ¬ zE G x i → gI V1 i = gI V i ∧ gA V1 i = gA V i := fun i hi => k1.2.2 i (fun q => hi (by simp only [zE]; omega))
      have v1 : vY G V1 x (((yZ Y).1, imM (yT Y) n, [], (yZ Y).2.2.2), Y.2) := by
        refine vY_of hv rfl rfl rfl rfl (by rw [k1.1]; exact hv.2.2.2.2.2.2.1) k1E ?_
        obtain ⟨p1, p2, p3, p4, ⟨e0, p5⟩, p6, p7, p8⟩ := hv.1
        refine ⟨p1, p2.fr k1 (fun j p q _ => by omega), ?_, p4.fr k1 (by omega) (by omega), ⟨e0, p5.fr k1 (fun j p q => by omega)⟩, by rw [k1.I (by omega)]; exact p6, ⟨by rw [z1]; rfl, Nat.zero_le _, by rw [z2]; exact p7.2.2.1, fun i hi => by have hi' : i < 0 := hi; omega⟩, p8.fr k1 (by omega) (by omega)⟩
        show vM V1 (x + 227) (cn (yZ Y).1) (imM (yT Y) n) (240 * mh (imM (yT Y) n))
        rw [← hnn]
        have := (imM_ok hT c).1
        exact m1.more (by omega)
      have o1 : okY (((yZ Y).1, imM (yT Y) n, [], (yZ Y).2.2.2), Y.2) := by
        obtain ⟨⟨a1, a2, a3, a4, a5, a6, a7⟩, b, c', d⟩ := h
        exact ⟨⟨a1.1, by show okM (cn (yZ Y).1) _; rw [← hnn]; exact imM_ok hT c, fun Q hQ => absurd hQ (List.not_mem_nil)⟩, a2, a3, a4, a5, a6, a7⟩
      obtain ⟨V2, e2, k2, v2⟩ := c_cut hG o1 v1
      refine ⟨V2, ?_, fun i hi => ?_, v2⟩
      · unfold F_X9_on
        refine E_bd er (E_gd (by decide) (E_if (fun q => absurd q (by decide)) (fun _ => E_bd e1 ?_)))
        unfold F_X9_on_J13
        exact E_bd e2 (E_gd (by decide) (E_if (fun q => absurd q (by decide)) (fun _ => E_gd (Or.inr rfl) rfl)))
      · have k12 := (k1.mono (S' := fun i => i < m) (fun i q => by omega)).trans (k2.mono (fun i q => by omega))
        obtain ⟨y1, y2⟩ := k12.2.2 i (by omega)
        exact ⟨y1, y2, by rw [k12.1], by rw [k12.2.1]⟩
    · obtain ⟨V2, hV2⟩ : ∃ V2, V2 = sI V m 1 0 := ⟨_, rfl⟩
      obtain ⟨r, er, hr⟩ := r_isIm (V := V2) hG10 ho.1 hT (by rw [hV2]; exact hC2 hv) (fun j hj => by rw [hV2]; exact hv.2.1.1 j hj) hnn
      have hr1 : r = 1 := by
        rcases hr with q | q
        · exact q.1
        · exact absurd c q.2
      rw [hr1, ← tl hv] at er
      obtain ⟨V', e, b1, b2, b3, b4, b5, b6⟩ := r_on hG10 h.1 hv hnn c hV2 er
      have hc := hcut hv
      rw [← hV2] at hc
      have gJ2 : gJ V2 = gJ V := by rw [hV2]; rfl
      have gL2 : gL V2 = gL V := by rw [hV2]; rfl
      refine ⟨V', e, fun i hi => ⟨?_, ?_, by rw [b3], by rw [b4]⟩, rY_of hc rfl rfl rfl rfl (by rw [b3, ← gJ2]; exact hc.2.2.2.2.2.1) ⟨fun i p q => b1 i (by omega), fun i k q => b2 i k (by omega), fun i k q => by rw [b3, gJ2], fun i q => by rw [b4, gL2]⟩ ?_⟩
      · funext k
        rw [b2 i k (by omega), hV2, gI_sI, if_neg (by omega)]
      · rw [b1 i (by omega), hV2]; rfl
      · obtain ⟨d1, d2, d3, d4, d5⟩ := hc.1
        refine ⟨d1.fr ⟨fun i p q => b1 i (by omega), by rw [b4, gL2]⟩, ?_, ⟨b5, Nat.zero_le _, by rw [b2 m 70 (by omega)]; exact d3.2.2.1, fun i hi => by have hi' : i < 0 := hi; omega⟩, fun k k0 k1 => by rw [b1 _ (by omega)]; exact d4 k k0 k1, by rw [b2 m 61 (by omega)]; exact d5⟩
        show rM _ (cn (yZ Y).1) _
        rw [← hnn]; exact b6
    · obtain ⟨⟨a1, a2, a3, a4, a5, a6, a7⟩, b, c', d⟩ := okA_cut (okA_s h)
      refine ⟨⟨⟨a1.1, by show okM (cn (yZ Y).1) _; rw [← hnn]; exact imM_ok hT c, fun Q hQ => absurd hQ (List.not_mem_nil)⟩, a2, a3, a4, a5, a6, a7⟩, ⟨fun e he => absurd he (List.not_mem_nil), fun Q hQ => absurd hQ (List.not_mem_nil)⟩, c', Nat.zero_le _⟩
  · refine ⟨(refZ (yZ Y) 5, (yCut Y).2), 0, fun V hv => ?_, fun V hv => ?_, okA_ref (okA_cut h), ⟨by decide, by decide⟩⟩
    · obtain ⟨r, er, hr⟩ := c_isIm hG h.1 hv hnn
      have hr1 : r = 0 := by
        rcases hr with q | q
        · exact absurd q.2 c
        · exact q.1
      rw [hr1] at er
      obtain ⟨V1, e1, k1, v1⟩ := c_cut hG h.1 hv
      have R := CL_ref (Y := yCut Y) (k := 5) (a := 0) (f := fun U => bd (F_X9_refuse G x 5 U) fun V12 v13 => gd ((0 : Int) = 0 ∨ (0 : Int) = 1) <| some (V12, (0 : Int))) hG hm ⟨by decide, by decide⟩ (fun U U1 _ e => E_bd e (E_gd (Or.inl rfl) rfl))
      obtain ⟨V2, e2, k2, v2⟩ := R V1 v1
      refine ⟨V2, ?_, fun i hi => ?_, v2⟩
      · unfold F_X9_on
        refine E_bd er (E_gd (by decide) (E_if (fun _ => ?_) (fun q => absurd rfl q)))
        unfold F_X9_on_J13
        exact E_bd e1 (E_gd (by decide) (E_if (fun _ => e2) (fun q => absurd rfl q)))
      · obtain ⟨y1, y2, y3, y4⟩ := k2 i hi
        obtain ⟨z1, z2⟩ := k1.2.2 i (by omega)
        exact ⟨by rw [y1, z1], by rw [y2, z2], by rw [y3, k1.1], by rw [y4, k1.2.1]⟩
    · obtain ⟨V2, hV2⟩ : ∃ V2, V2 = sI V m 1 0 := ⟨_, rfl⟩
      obtain ⟨r, er, hr⟩ := r_isIm (V := V2) hG10 ho.1 hT (by rw [hV2]; exact hC2 hv) (fun j hj => by rw [hV2]; exact hv.2.1.1 j hj) hnn
      have hr1 : r = 0 := by
        rcases hr with q | q
        · exact absurd q.2 c
        · exact q.1
      rw [hr1, ← tl hv] at er
      have hc := hcut hv
      rw [← hV2] at hc
      have R := RF_ref (G := G) (Y := yCut Y) (m := m) (k := 5) (a := 0) (f := fun U => some (sA U (m + 2) 5 (gA U (m + 2) 5 + 1), 0)) ⟨by decide, by decide⟩ (fun U U1 _ e hU => by rw [hU]; rfl)
      obtain ⟨V3, e3, k3, v3⟩ := R V2 hc
      refine ⟨V3, ?_, fun i hi => ?_, v3⟩
      · unfold F_X10_on
        refine E_lt (E_lt ?_)
        rw [← hV2]
        exact E_bd er (E_gd (by decide) (E_if (fun _ => E_lt e3) (fun q => absurd rfl q)))
      · obtain ⟨y1, y2, y3, y4⟩ := k3 i hi
        refine ⟨?_, by rw [y2, hV2]; rfl, by rw [y3, hV2]; rfl, by rw [y4, hV2]; rfl⟩
        rw [y1, hV2]
        funext k
        rw [gI_sI, if_neg (by omega)]
end

/-! an image taken: both -/
def bm2 (x : Int) (P : Int → Prop) : Prop := (0 ≤ x ∧ x < 2048) ∧ ∀ l, 0 ≤ l → l < 11 → ((shr x l) % 2 = 0 ↔ ¬ P l)
theorem bm2_0 {P : Int → Prop} (h : ∀ l, ¬ P l) : bm2 0 P := ⟨by decide, fun l h0 _ => ⟨fun _ => h l, fun _ => by rw [shr_bit (by decide) h0]; simp⟩⟩
theorem bm2_or {x a : Int} {P : Int → Prop} (h : bm2 x P) (ha : 0 ≤ a) (ha2 : a < 11) : bm2 (bor x (shl 1 a)) (fun l => P l ∨ l = a) := by
  obtain ⟨⟨h1, h2⟩, h3⟩ := h
  have hb : (bor x (shl 1 a)) = ((x.toNat ||| (2 ^ a.toNat) : Nat) : Int) := by unfold bor; rw [shl1 ha]; rfl
  refine ⟨⟨by rw [hb]; omega, ?_⟩, fun l l0 l1 => ?_⟩
  · rw [hb]
    have : x.toNat ||| 2 ^ a.toNat < 2 ^ 11 := Nat.or_lt_two_pow (by omega) (Nat.pow_lt_pow_right (by decide) (by omega))
    omega
  · have q := h3 l l0 l1
    rw [shr_bit h1 l0] at q
    rw [shr_bit (by rw [hb]; omega) l0, hb, Int.toNat_natCast, Nat.testBit_or, Nat.testBit_two_pow]
    by_cases e : l = a
    · subst e; simp
    · have : ¬ a.toNat = l.toNat := by omega
      simp only [this, decide_false, Bool.or_false, e, or_false]
      exact q
def imP (T : mT2) (n p : Nat) : Prop := (T.1 (2 + (n + 2) * p) ≤ (n : Int) ∧ T.1 (2 + (n + 2) * p + 1) ≤ (n : Int) ∧ T.1 (2 + (n + 2) * p + 1) ≠ (p : Int) + 1) ∧ (∀ i, i < p → 0 < T.1 (2 + (n + 2) * p) → T.1 (2 + (n + 2) * i) ≠ T.1 (2 + (n + 2) * p)) ∧ (∀ l, l < n → T.1 (2 + (n + 2) * p + 2 + l) ≤ 99) ∧ T.1 (2 + (n + 2) * p + 2 + p) = 99
def imOk (T : mT2) (n : Nat) : Prop := T.2 = imN n + 1 ∧ T.1 (imN n) = chk T.1 (imN n) ∧ T.1 0 * 256 + T.1 1 ≤ 9999 ∧ ∀ p, p < n → imP T n p
def imM (T : mT2) (n : Nat) : mMo := (T.1 0 * 256 + T.1 1, fun p => T.1 (2 + (n + 2) * p.toNat) - 1, fun p => T.1 (2 + (n + 2) * p.toNat + 1) - 1, fun p l => T.1 (2 + (n + 2) * p.toNat + 2 + l.toNat), [])
theorem imM_ok {T : mT2} {n : Nat} (hT : tOk T) (h : imOk T n) : okM (n : Int) (imM T n) := by
  obtain ⟨h1, h2, h3, h4⟩ := h
  have hN : ∀ p, p < n → 2 + (n + 2) * p + (n + 2) ≤ imN n := fun p hp => by have := imN_p hp; unfold imN; omega
  have n0 : 2 ≤ imN n := by unfold imN; omega
  have t0 := hT.2 0 (by omega)
  have t1 := hT.2 1 (by omega)
  refine ⟨⟨by show 0 ≤ T.1 0 * 256 + T.1 1; omega, h3⟩, fun p p0 p1 => ?_, fun p q p0 p1 q0 q1 e ne => ?_, fun p p0 p1 => ?_, fun p l p0 p1 l0 l1 => ?_, fun p p0 p1 => ?_, Nat.zero_le _⟩
  · have a := h4 p.toNat (by omega)
    have b := hN p.toNat (by omega)
    have c := hT.2 (2 + (n + 2) * p.toNat) (by omega)
    show -1 ≤ T.1 (2 + (n + 2) * p.toNat) - 1 ∧ T.1 (2 + (n + 2) * p.toNat) - 1 < (n : Int)
    have := a.1.1
    omega
  · have e' : T.1 (2 + (n + 2) * p.toNat) - 1 = T.1 (2 + (n + 2) * q.toNat) - 1 := e
    have ne' : T.1 (2 + (n + 2) * p.toNat) - 1 ≠ -1 := ne
    have cp := hT.2 (2 + (n + 2) * p.toNat) (by have := hN p.toNat (by omega); omega)
    refine Classical.byContradiction (fun z => ?_)
    rcases Nat.lt_trichotomy p.toNat q.toNat with w | w | w
    · exact (h4 q.toNat (by omega)).2.1 p.toNat w (by omega) (by omega)
    · omega
    · exact (h4 p.toNat (by omega)).2.1 q.toNat w (by omega) (by omega)
  · have a := h4 p.toNat (by omega)
    have b := hN p.toNat (by omega)
    have c := hT.2 (2 + (n + 2) * p.toNat + 1) (by omega)
    show -1 ≤ T.1 (2 + (n + 2) * p.toNat + 1) - 1 ∧ T.1 (2 + (n + 2) * p.toNat + 1) - 1 < (n : Int) ∧ T.1 (2 + (n + 2) * p.toNat + 1) - 1 ≠ p
    have := a.1.2.1
    have := a.1.2.2
    omega
  · have a := h4 p.toNat (by omega)
    have b := hN p.toNat (by omega)
    have c := hT.2 (2 + (n + 2) * p.toNat + 2 + l.toNat) (by omega)
    exact ⟨c.1, a.2.2.1 l.toNat (by omega)⟩
  · exact (h4 p.toNat (by omega)).2.2.2
section
variable {G : mG} {V V' : mV} {x m N : Nat} {Y : mY}
theorem ix_e {n p : Nat} : 2 + (p : Int) * (2 + (n : Int)) = ((2 + (n + 2) * p : Nat) : Int) := by
  rw [Int.natCast_add, Int.natCast_mul, Int.natCast_add, Int.mul_comm, Int.add_comm 2 (n : Int)]; rfl
theorem ix_e2 {n p : Nat} : 2 + (2 + (n : Int)) * (p : Int) = ((2 + (n + 2) * p : Nat) : Int) := by
  rw [Int.natCast_add, Int.natCast_mul, Int.natCast_add, Int.add_comm 2 (n : Int)]; rfl
theorem c_isIm (hG : is9 G x) (h : okY Y) (hv : vY G V x Y) {n : Nat} (hnn : (n : Int) = cn (yZ Y).1) : ∃ r, F_X9_isImage G x V = some (V, r) ∧ ((r = 1 ∧ imOk (yT Y) n) ∨ (r = 0 ∧ ¬ imOk (yT Y) n)) := by
  have hT := h.2.2.1
  have hn := h.1.1.1
  have hN := imN_le (n := n) (by omega)
  have hsz : gI V (gR G x 10 + 1) 1 = cn (yZ Y).1 := hv.1.2.1.2.1.1.1
  have hs1 : gI V (x + 1) 1 = ((yT Y).2 : Int) := hv.2.2.1.1
  have hT1 := hT.1
  have hNp : ∀ p, p < n → 2 + (n + 2) * p + (n + 2) ≤ imN n := fun p hp => by have := imN_p hp; unfold imN; omega
  have e2 : 2 + (n : Int) * (2 + (n : Int)) = ((imN n : Nat) : Int) := ix_e
  unfold F_X9_isImage
  by_cases c1 : (yT Y).2 = imN n + 1
  rotate_left
  · refine ⟨0, E_bd p7_size ?_, Or.inr ⟨rfl, fun q => c1 q.1⟩⟩
    rw [hsz, ← hnn, e2]
    refine E_lt (E_bd p7_size ?_)
    rw [hs1]
    exact E_gd ⟨by omega, by omega⟩ (E_gd ⟨by omega, by omega⟩ (E_if (fun q => by omega) (fun _ => rfl)))
  have tg : ∀ (z : Int) (k : Nat), z = (k : Int) → k ≤ imN n → F_X7_get G (x + 1) z V = some (V, (yT Y).1 k) := by
    intro z k hz hk
    have := tp_get hG hT hv (k := z) (by omega) (by omega)
    rw [hz, Int.toNat_natCast] at this
    rw [hz]; exact this
  have tb : ∀ k, k ≤ imN n → 0 ≤ (yT Y).1 k ∧ (yT Y).1 k ≤ 255 := fun k hk => hT.2 k (by omega)
  have ec := c_chk (g := (yT Y).1) (s9_0s hG) (s9_0c hG) (by decide) hv.2.2.1 ⟨by omega, by show ((yT Y).2 : Int) ≤ 1600; omega⟩ (B := imN n) (by omega) (fun k hk => ⟨by show (yT Y).1 ((k : Int)).toNat = _; rw [Int.toNat_natCast], tb k (by omega)⟩)
  have cr := chk_rg (f := (yT Y).1) (imN n)
  have bN := tb (imN n) (Nat.le_refl _)
  have b0 := tb 0 (Nat.zero_le _)
  have b1 := tb 1 (by unfold imN; omega)
  have top : ∀ {res : Option (mV × Int)}, (if (yT Y).1 (imN n) = chk (yT Y).1 (imN n) then (bd (F_X7_get G (x + 1) 0 V) fun V20 v21 =>
  bd (F_X7_get G (x + 1) 1 V20) fun V23 v24 =>
  gd (rg ((v21 * 256) + v24)) <|
  if ((v21 * 256) + v24) ≤ 9999 then (bd (lp (fun (s : Int × Int) V => B_X9_isImage_87 G x (n : Int) s.1 s.2 V) FU (0, 0) V23) fun V70 u71 =>
  if u71.1 = 1 then (some (V70, 0)) else if u71.1 = 2 then (some (V70, 0)) else if u71.1 = 3 then (some (V70, 0)) else (some (V70, 1))) else (some (V23, 0))) else (some (V, 0))) = res → (bd (F_X7_size G ((gR G x 10) + 1) V) fun V1 v2 =>
  lt (2 + (v2 * (2 + v2))) fun y4 =>
  bd (F_X7_size G (x + 1) V1) fun V5 v6 =>
  gd (rg v6) <|
  gd (rg (y4 + 1)) <|
  if v6 = (y4 + 1) then (bd (F_X7_get G (x + 1) y4 V5) fun V11 v12 =>
  bd (F_X9_checkOf G (x + 1) y4 V11) fun V14 v15 =>
  gd (rg v12) <|
  gd (rg v15) <|
  if v12 = v15 then (bd (F_X7_get G (x + 1) 0 V14) fun V20 v21 =>
  bd (F_X7_get G (x + 1) 1 V20) fun V23 v24 =>
  gd (rg ((v21 * 256) + v24)) <|
  if ((v21 * 256) + v24) ≤ 9999 then (bd (lp (fun (s : Int × Int) V => B_X9_isImage_87 G x v2 s.1 s.2 V) FU (0, 0) V23) fun V70 u71 =>
  if u71.1 = 1 then (some (V70, 0)) else if u71.1 = 2 then (some (V70, 0)) else if u71.1 = 3 then (some (V70, 0)) else (some (V70, 1))) else (some (V23, 0))) else (some (V14, 0))) else (some (V5, 0))) = res := by
    intro res er
    refine E_bd p7_size ?_
    rw [hsz, ← hnn, e2]
    refine E_lt (E_bd p7_size ?_)
    rw [hs1]
    refine E_gd ⟨by omega, by omega⟩ (E_gd ⟨by omega, by omega⟩ (E_if (fun _ => E_bd (tg _ (imN n) rfl (Nat.le_refl _)) (E_bd ec (E_gd ⟨by omega, by omega⟩ (E_gd ⟨by omega, by omega⟩ er)))) (fun q => by omega)))
  by_cases c2 : (yT Y).1 (imN n) = chk (yT Y).1 (imN n)
  rotate_left
  · exact ⟨0, top (if_neg c2), Or.inr ⟨rfl, fun q => c2 q.2.1⟩⟩
  by_cases c3 : (yT Y).1 0 * 256 + (yT Y).1 1 ≤ 9999
  rotate_left
  · refine ⟨0, top ?_, Or.inr ⟨rfl, fun q => c3 q.2.2.1⟩⟩
    rw [if_pos c2]
    exact E_bd (tg 0 0 rfl (Nat.zero_le _)) (E_bd (tg 1 1 rfl (by unfold imN; omega)) (E_gd ⟨by omega, by omega⟩ (E_if (fun q => absurd q c3) (fun _ => rfl))))
  have main : Wp (lp (fun (s : Int × Int) V => B_X9_isImage_87 G x (n : Int) s.1 s.2 V) FU (0, 0) V) (fun V' q => V' = V ∧ (((q.1 = 1 ∨ q.1 = 2 ∨ q.1 = 3) ∧ ¬ ∀ p, p < n → imP (yT Y) n p) ∨ (q.1 = 4 ∧ ∀ p, p < n → imP (yT Y) n p))) := by
    refine W_lp (fun w (y : Int × Int) U => U = V ∧ ∃ p : Nat, y.2 = (p : Int) ∧ p + w = n ∧ bm2 y.1 (fun l => ∃ i, i < p ∧ (yT Y).1 (2 + (n + 2) * i) = l) ∧ ∀ q, q < p → imP (yT Y) n q) ?_ FU n _ V ⟨rfl, 0, rfl, by omega, bm2_0 (by rintro l ⟨i, hi, -⟩; omega), fun q hq => by omega⟩ (by unfold FU; omega)
    rintro w ⟨ya, yb⟩ U ⟨rfl, p, hyb, hw, hbm, hall⟩
    have hyb' : yb = (p : Int) := hyb
    subst hyb'
    have hbm' : bm2 ya (fun l => ∃ i, i < p ∧ (yT Y).1 (2 + (n + 2) * i) = l) := hbm
    show Wp (B_X9_isImage_87 G x (n : Int) ya (p : Int) U) _
    unfold B_X9_isImage_87
    refine W_gd ⟨by omega, by omega⟩ (W_gd ⟨by omega, by omega⟩ (W_if (fun q => W_so (Or.inr ⟨(by decide : (4 : Nat) ≠ 0), rfl, Or.inr ⟨rfl, fun q hq => hall q (by omega)⟩⟩)) (fun q => ?_)))
    have hp : p < n := by omega
    have hb := hNp p hp
    have kb := tb (2 + (n + 2) * p) (by omega)
    have kb1 := tb (2 + (n + 2) * p + 1) (by omega)
    rw [ix_e]
    refine W_lt (W_be (tg _ (2 + (n + 2) * p) rfl (by omega)) (W_be (tg _ (2 + (n + 2) * p + 1) (by omega) (by omega)) (W_gd ⟨by omega, by omega⟩ ?_)))
    have bad : ∀ {t : Nat} {z : Int × Int}, t = 1 ∨ t = 2 ∨ t = 3 → ¬ imP (yT Y) n p → Wp (some (U, t, z)) (fun V' q => (q.1 = 0 ∧ ∃ w', w' < w ∧ V' = U ∧ ∃ p : Nat, q.2.2 = (p : Int) ∧ p + w' = n ∧ bm2 q.2.1 (fun l => ∃ i, i < p ∧ (yT Y).1 (2 + (n + 2) * i) = l) ∧ ∀ q, q < p → imP (yT Y) n q) ∨ (q.1 ≠ 0 ∧ V' = U ∧ (((q.1 = 1 ∨ q.1 = 2 ∨ q.1 = 3) ∧ ¬ ∀ p, p < n → imP (yT Y) n p) ∨ (q.1 = 4 ∧ ∀ p, p < n → imP (yT Y) n p)))) :=
      fun ht hb => W_so (Or.inr ⟨by show _ ≠ 0; rcases ht with q | q | q <;> omega, rfl, Or.inl ⟨ht, fun z => hb (z p hp)⟩⟩)
    have d0 : ∀ a, (n : Int) < (yT Y).1 (2 + (n + 2) * p) → a = a → ¬ imP (yT Y) n p := fun (a : Nat) z _ z2 => by have := z2.1.1; omega
    refine W_if (fun q1 => bad (Or.inl rfl) (fun z => by have := z.1.1; omega)) (fun q1 => W_gd ⟨by omega, by omega⟩ (W_if (fun q2 => bad (Or.inl rfl) (fun z => by have := z.1.2.1; omega)) (fun q2 => W_gd ⟨by omega, by omega⟩ (W_if (fun q3 => bad (Or.inl rfl) (fun z => z.1.2.2 q3)) (fun q3 => ?_)))))
    -- the points
    have J : (∀ i, i < p → 0 < (yT Y).1 (2 + (n + 2) * p) → (yT Y).1 (2 + (n + 2) * i) ≠ (yT Y).1 (2 + (n + 2) * p)) → Wp (F_X9_isImage_J167_87 G x (n : Int) ya (p : Int) ((2 + (n + 2) * p : Nat) : Int) ((yT Y).1 (2 + (n + 2) * p)) U) (fun V' q => (q.1 = 0 ∧ ∃ w', w' < w ∧ V' = U ∧ ∃ p : Nat, q.2.2 = (p : Int) ∧ p + w' = n ∧ bm2 q.2.1 (fun l => ∃ i, i < p ∧ (yT Y).1 (2 + (n + 2) * i) = l) ∧ ∀ q, q < p → imP (yT Y) n q) ∨ (q.1 ≠ 0 ∧ V' = U ∧ (((q.1 = 1 ∨ q.1 = 2 ∨ q.1 = 3) ∧ ¬ ∀ p, p < n → imP (yT Y) n p) ∨ (q.1 = 4 ∧ ∀ p, p < n → imP (yT Y) n p)))) := by
      intro hdis
      unfold F_X9_isImage_J167_87
      have inner : ∀ y47 : Int, Wp (lp (fun (s : Int) V => B_X9_isImage_177 G x (n : Int) y47 (p : Int) ((2 + (n + 2) * p : Nat) : Int) s V) FU 0 U) (fun V' q => V' = U ∧ ((q.1 = 1 ∧ ¬ ((∀ l, l < n → (yT Y).1 (2 + (n + 2) * p + 2 + l) ≤ 99) ∧ (yT Y).1 (2 + (n + 2) * p + 2 + p) = 99)) ∨ (q.1 = 2 ∧ ((∀ l, l < n → (yT Y).1 (2 + (n + 2) * p + 2 + l) ≤ 99) ∧ (yT Y).1 (2 + (n + 2) * p + 2 + p) = 99)))) := by
        intro y47
        refine W_lp (fun w (y : Int) V0 => V0 = U ∧ ∃ l : Nat, y = (l : Int) ∧ l + w = n ∧ (∀ j, j < l → (yT Y).1 (2 + (n + 2) * p + 2 + j) ≤ 99) ∧ (p < l → (yT Y).1 (2 + (n + 2) * p + 2 + p) = 99)) ?_ FU n _ U ⟨rfl, 0, rfl, by omega, fun j hj => by omega, fun z => by omega⟩ (by unfold FU; omega)
        rintro w y V0 ⟨rfl, l, rfl, hw, h1, h2⟩
        unfold B_X9_isImage_177
        refine W_gd ⟨by omega, by omega⟩ (W_gd ⟨by omega, by omega⟩ (W_if (fun q => W_so (Or.inr ⟨(by decide : (2 : Nat) ≠ 0), rfl, Or.inr ⟨rfl, fun j hj => h1 j (by omega), h2 (by omega)⟩⟩)) (fun q => ?_)))
        have lb := tb (2 + (n + 2) * p + 2 + l) (by omega)
        refine W_be (tg _ (2 + (n + 2) * p + 2 + l) (by omega) (by omega)) (W_gd ⟨by omega, by omega⟩ (W_if (fun z => W_so (Or.inr ⟨Nat.one_ne_zero, rfl, Or.inl ⟨rfl, fun z2 => by have := z2.1 l (by omega); omega⟩⟩)) (fun z => W_gd ⟨by omega, by omega⟩ (W_if (fun e => W_if (fun e2 => ?_) (fun e2 => ?_)) (fun e => ?_)))))
        · refine W_lt (W_so (Or.inl ⟨rfl, w - 1, by omega, rfl, l + 1, rfl, by omega, fun j hj => ?_, fun _ => ?_⟩))
          · by_cases ej : j = l
            · rw [ej]; omega
            · exact h1 j (by omega)
          · have : l = p := by omega
            rw [← this]; rw [← this] at e2; exact e2
        · refine W_so (Or.inr ⟨Nat.one_ne_zero, rfl, Or.inl ⟨rfl, fun z2 => e2 ?_⟩⟩)
          have : l = p := by omega
          rw [this]; exact z2.2
        · refine W_lt (W_so (Or.inl ⟨rfl, w - 1, by omega, rfl, l + 1, rfl, by omega, fun j hj => ?_, fun hpl => h2 (by omega)⟩))
          by_cases ej : j = l
          · rw [ej]; omega
          · exact h1 j (by omega)
      have hs : 0 ≤ shl 1 ((yT Y).1 (2 + (n + 2) * p)) := by rw [shl1 kb.1]; exact Int.natCast_nonneg _
      refine W_gd ⟨by omega, by omega⟩ (W_gd ⟨hbm'.1.1, hs⟩ (W_lt ?_))
      obtain ⟨V1, qq, i1, rfl, i2⟩ := inner (bor ya (shl 1 ((yT Y).1 (2 + (n + 2) * p))))
      refine W_be i1 ?_
      rcases i2 with ⟨a, b⟩ | ⟨a, b⟩
      · rw [if_pos a]
        exact bad (Or.inr (Or.inr rfl)) (fun z => b ⟨z.2.2.1, z.2.2.2⟩)
      · rw [if_neg (by omega)]
        refine W_lt (W_so (Or.inl ⟨rfl, w - 1, by omega, rfl, p + 1, rfl, by omega, ?_, fun q hq => ?_⟩))
        · have o := bm2_or (a := (yT Y).1 (2 + (n + 2) * p)) hbm' kb.1 (by omega)
          refine ⟨o.1, fun l l0 l1 => (o.2 l l0 l1).trans (not_congr ⟨?_, ?_⟩)⟩
          · rintro (⟨i, hi, e⟩ | e)
            · exact ⟨i, by omega, e⟩
            · exact ⟨p, by omega, e.symm⟩
          · rintro ⟨i, hi, e⟩
            by_cases ei : i = p
            · rw [ei] at e; exact Or.inr e.symm
            · exact Or.inl ⟨i, by omega, e⟩
        · by_cases eq : q = p
          · rw [eq]
            exact ⟨⟨by omega, by omega, q3⟩, hdis, b.1, b.2⟩
          · exact hall q (by omega)
    have l11 : (yT Y).1 (2 + (n + 2) * p) < 11 := by omega
    have bits := hbm'.2 _ kb.1 l11
    refine W_if (fun q4 => J (fun i hi z => by omega)) (fun q4 => W_gd ⟨by have := hbm'.1; omega, by have := hbm'.1; omega⟩ (W_gd ⟨by omega, by omega⟩ (W_gd ?_ (W_if (fun q5 => ?_) (fun q5 => J (fun i hi _ e => ?_))))))
    · have h1 := Int.emod_nonneg (shr ya ((yT Y).1 (2 + (n + 2) * p))) (show (2 : Int) ≠ 0 by decide)
      have h2 := Int.emod_lt_of_pos (shr ya ((yT Y).1 (2 + (n + 2) * p))) (show (0 : Int) < 2 by decide)
      exact ⟨by omega, by omega⟩
    · refine bad (Or.inr (Or.inl rfl)) (fun z => ?_)
      have hex : ∃ i, i < p ∧ (yT Y).1 (2 + (n + 2) * i) = (yT Y).1 (2 + (n + 2) * p) := by
        refine Classical.byContradiction (fun nz => ?_)
        have := bits.mpr nz
        omega
      obtain ⟨i, hi, e⟩ := hex
      exact z.2.1 i hi (by omega) e
    · have hb01 : (shr ya ((yT Y).1 (2 + (n + 2) * p))) % 2 = 0 := by
        have h1 := Int.emod_nonneg (shr ya ((yT Y).1 (2 + (n + 2) * p))) (show (2 : Int) ≠ 0 by decide)
        have h2 := Int.emod_lt_of_pos (shr ya ((yT Y).1 (2 + (n + 2) * p))) (show (0 : Int) < 2 by decide)
        omega
      exact (bits.mp hb01) ⟨i, hi, e⟩
  obtain ⟨V', q, e1, rfl, e3⟩ := main
  have top2 : ∀ r, (if q.1 = 1 then some (V', (0 : Int)) else if q.1 = 2 then some (V', 0) else if q.1 = 3 then some (V', 0) else some (V', 1)) = some (V', r) → F_X9_isImage G x V' = some (V', r) := by
    intro r hr
    unfold F_X9_isImage
    refine top ?_
    rw [if_pos c2]
    exact E_bd (tg 0 0 rfl (Nat.zero_le _)) (E_bd (tg 1 1 rfl (by unfold imN; omega)) (E_gd ⟨by omega, by omega⟩ (E_if (fun _ => E_bd e1 hr) (fun q => absurd c3 q))))
  have top3 : ∀ r, F_X9_isImage G x V' = some (V', r) → _ := fun r hr => hr
  unfold F_X9_isImage at top2
  rcases e3 with ⟨a, b⟩ | ⟨a, b⟩
  · refine ⟨0, top2 0 ?_, Or.inr ⟨rfl, fun z => b z.2.2.2⟩⟩
    rcases a with a | a | a
    · rw [if_pos a]
    · rw [if_neg (by omega), if_pos a]
    · rw [if_neg (by omega), if_neg (by omega), if_pos a]
  · refine ⟨1, top2 1 ?_, Or.inl ⟨rfl, c1, c2, c3, b⟩⟩
    rw [if_neg (by omega), if_neg (by omega), if_neg (by omega)]
theorem r_isIm (hG10 : is10 G m) (ho : okC (yZ Y).1) (hT : tOk (yT Y)) (hC : rC V m (yZ Y).1) (hcell : ∀ j, j < (yT Y).2 → gA V (m + 1) j = (yT Y).1 j) {n : Nat} (hnn : (n : Int) = cn (yZ Y).1) : ∃ r, F_X10_isTold G m ((yT Y).2 : Int) V = some (V, r) ∧ ((r = 1 ∧ imOk (yT Y) n) ∨ (r = 0 ∧ ¬ imOk (yT Y) n)) := by
  have hn := ho.1
  have hN := imN_le (n := n) (by omega)
  have hT1 := hT.1
  have hNp : ∀ p, p < n → 2 + (n + 2) * p + (n + 2) ≤ imN n := fun p hp => by have := imN_p hp; unfold imN; omega
  have e2 : 2 + (2 + (n : Int)) * (n : Int) = ((imN n : Nat) : Int) := ix_e2
  have many : F_X10_peopleMany G m V = some (V, (n : Int)) := by rw [hnn]; exact r_many hC
  unfold F_X10_isTold
  by_cases c1 : (yT Y).2 = imN n + 1
  rotate_left
  · refine ⟨0, E_bd many (E_lt (E_bd many (E_gd ⟨by omega, by omega⟩ (E_gd ⟨by omega, by omega⟩ (E_if (fun q => by omega) (fun _ => rfl)))))), Or.inr ⟨rfl, fun q => c1 q.1⟩⟩
  have tb : ∀ k, k ≤ imN n → 0 ≤ (yT Y).1 k ∧ (yT Y).1 k ≤ 255 := fun k hk => hT.2 k (by omega)
  have cl : ∀ (z : Int) (k : Nat), z = (k : Int) → k ≤ imN n → gA V (m + 1) z.toNat = (yT Y).1 k := by
    intro z k hz hk
    rw [hz, Int.toNat_natCast]; exact hcell k (by omega)
  have q1 : qG G (m + 1) = 1600 := by unfold qG; rw [s10_0s hG10]
  have ec := r_chk (V := V) (g := (yT Y).1) q1 (by decide) (B := imN n) (by omega) (fun k hk => ⟨hcell k (by omega), tb k (by omega)⟩)
  have cr := chk_rg (f := (yT Y).1) (imN n)
  have bN := tb (imN n) (Nat.le_refl _)
  have b0 := tb 0 (Nat.zero_le _)
  have b1 := tb 1 (by unfold imN; omega)
  have c0 : gA V (m + 1) 0 = (yT Y).1 0 := hcell 0 (by omega)
  have c11 : gA V (m + 1) 1 = (yT Y).1 1 := hcell 1 (by unfold imN at c1; omega)
  have top : ∀ {res : Option (mV × Int)}, (if (yT Y).1 (imN n) = chk (yT Y).1 (imN n) then (gd (rg ((256 * ((yT Y).1 0)) + ((yT Y).1 1))) <|
  if ((256 * ((yT Y).1 0)) + ((yT Y).1 1)) ≤ 9999 then (bd (lp (fun (s : Int) V => B_X10_isTold_67 G m ((yT Y).2 : Int) s V) FU 0 V) fun V32 u33 =>
  if u33.1 = 1 then (some (V32, 0)) else (some (V32, 1))) else (some (V, 0))) else (some (V, 0))) = res → (bd (F_X10_peopleMany G m V) fun V1 v2 =>
  lt (2 + v2) fun y4 =>
  bd (F_X10_peopleMany G m V1) fun V5 v6 =>
  gd (rg ((yT Y).2 : Int)) <|
  gd (rg (3 + (y4 * v6))) <|
  if ((yT Y).2 : Int) = (3 + (y4 * v6)) then (gd (0 ≤ (((yT Y).2 : Int) - 1) ∧ (((yT Y).2 : Int) - 1) < (1600 : Int) ∧ (((yT Y).2 : Int) - 1) ≤ 2147483647) <|
  bd (F_X10_checked G (m + 1) (((yT Y).2 : Int) - 1) V5) fun V12 v13 =>
  gd (rg (gA V5 (m + 1) (((yT Y).2 : Int) - 1).toNat)) <|
  gd (rg v13) <|
  if (gA V5 (m + 1) (((yT Y).2 : Int) - 1).toNat) = v13 then (gd (rg ((256 * (gA V12 (m + 1) 0)) + (gA V12 (m + 1) 1))) <|
  if ((256 * (gA V12 (m + 1) 0)) + (gA V12 (m + 1) 1)) ≤ 9999 then (bd (lp (fun (s : Int) V => B_X10_isTold_67 G m ((yT Y).2 : Int) s V) FU 0 V12) fun V32 u33 =>
  if u33.1 = 1 then (some (V32, 0)) else (some (V32, 1))) else (some (V12, 0))) else (some (V12, 0))) else (some (V5, 0))) = res := by
    intro res er
    have ez : ((yT Y).2 : Int) - 1 = ((imN n : Nat) : Int) := by omega
    refine E_bd many (E_lt (E_bd many (E_gd ⟨by omega, by omega⟩ (E_gd ⟨by omega, by omega⟩ (E_if (fun _ => ?_) (fun q => by omega))))))
    rw [ez]
    refine E_gd ⟨by omega, by omega, by omega⟩ (E_bd ec ?_)
    rw [cl _ (imN n) rfl (Nat.le_refl _), c0, c11]
    exact E_gd ⟨by omega, by omega⟩ (E_gd ⟨by omega, by omega⟩ er)
  by_cases c2 : (yT Y).1 (imN n) = chk (yT Y).1 (imN n)
  rotate_left
  · exact ⟨0, top (if_neg c2), Or.inr ⟨rfl, fun q => c2 q.2.1⟩⟩
  by_cases c3 : (yT Y).1 0 * 256 + (yT Y).1 1 ≤ 9999
  rotate_left
  · refine ⟨0, top ?_, Or.inr ⟨rfl, fun q => c3 q.2.2.1⟩⟩
    rw [if_pos c2]
    exact E_gd ⟨by omega, by omega⟩ (E_if (fun q => by omega) (fun _ => rfl))
  have pers : ∀ p, p < n → ∃ r, F_X10_isPersonTold G m (p : Int) V = some (V, r) ∧ ((r = 1 ∧ imP (yT Y) n p) ∨ (r = 0 ∧ ¬ imP (yT Y) n p)) := by
    intro p hp
    have hb := hNp p hp
    have kb := tb (2 + (n + 2) * p) (by omega)
    have kb1 := tb (2 + (n + 2) * p + 1) (by omega)
    have kb2 := tb (2 + (n + 2) * p + 2 + p) (by omega)
    have g0 := cl ((2 + (n + 2) * p : Nat) : Int) (2 + (n + 2) * p) rfl (by omega)
    have g1 := cl (((2 + (n + 2) * p : Nat) : Int) + 1) (2 + (n + 2) * p + 1) (by omega) (by omega)
    have g2 := cl (((2 + (n + 2) * p : Nat) : Int) + 2 + (p : Int)) (2 + (n + 2) * p + 2 + p) (by omega) (by omega)
    have head : ∀ {res : Option (mV × Int)}, (if (n : Int) < (yT Y).1 (2 + (n + 2) * p) then (some (V, 0)) else (if (n : Int) < (yT Y).1 (2 + (n + 2) * p + 1) then (some (V, 0)) else (if (yT Y).1 (2 + (n + 2) * p + 1) = (p : Int) + 1 then (some (V, 0)) else (if (yT Y).1 (2 + (n + 2) * p + 2 + p) = 99 then (bd (lp (fun (s : Int) V => B_X10_isPersonTold_75 G m (p : Int) (2 + (n : Int)) ((2 + (n + 2) * p : Nat) : Int) s V) FU 0 V) fun V37 u38 =>
  if u38.1 = 1 then (some (V37, 0)) else (bd (lp (fun (s : Int) V => B_X10_isPersonTold_121 G m (p : Int) ((2 + (n + 2) * p : Nat) : Int) s V) FU 0 V37) fun V51 u52 =>
  if u52.1 = 1 then (some (V51, 0)) else (some (V51, 1)))) else (some (V, 0)))))) = res → F_X10_isPersonTold G m (p : Int) V = res := by
      intro res er
      unfold F_X10_isPersonTold
      refine E_bd many (E_lt ?_)
      rw [ix_e2]
      refine E_lt (E_gd ⟨by omega, by omega, by omega⟩ (E_bd many ?_))
      rw [g0]
      refine E_gd ⟨by omega, by omega⟩ (E_gd ⟨by omega, by omega⟩ ?_)
      by_cases q1 : (n : Int) < (yT Y).1 (2 + (n + 2) * p)
      · rw [if_pos q1] at er ⊢; exact er
      rw [if_neg q1] at er ⊢
      refine E_gd ⟨by omega, by omega, by omega⟩ (E_bd many ?_)
      rw [g1]
      refine E_gd ⟨by omega, by omega⟩ (E_gd ⟨by omega, by omega⟩ ?_)
      by_cases q2 : (n : Int) < (yT Y).1 (2 + (n + 2) * p + 1)
      · rw [if_pos q2] at er ⊢; exact er
      rw [if_neg q2] at er ⊢
      refine E_gd ⟨by omega, by omega⟩ (E_gd ⟨by omega, by omega⟩ ?_)
      by_cases q3 : (yT Y).1 (2 + (n + 2) * p + 1) = (p : Int) + 1
      · rw [if_pos q3] at er ⊢; exact er
      rw [if_neg q3] at er ⊢
      refine E_gd ⟨by omega, by omega, by omega⟩ ?_
      rw [g2]
      exact E_gd ⟨by omega, by omega⟩ er
    by_cases q1 : (n : Int) < (yT Y).1 (2 + (n + 2) * p)
    · exact ⟨0, head (if_pos q1), Or.inr ⟨rfl, fun z => by have := z.1.1; omega⟩⟩
    by_cases q2 : (n : Int) < (yT Y).1 (2 + (n + 2) * p + 1)
    · exact ⟨0, head ((if_neg q1).trans (if_pos q2)), Or.inr ⟨rfl, fun z => by have := z.1.2.1; omega⟩⟩
    by_cases q3 : (yT Y).1 (2 + (n + 2) * p + 1) = (p : Int) + 1
    · exact ⟨0, head ((if_neg q1).trans ((if_neg q2).trans (if_pos q3))), Or.inr ⟨rfl, fun z => z.1.2.2 q3⟩⟩
    by_cases q4 : (yT Y).1 (2 + (n + 2) * p + 2 + p) = 99
    rotate_left
    · exact ⟨0, head ((if_neg q1).trans ((if_neg q2).trans ((if_neg q3).trans (if_neg q4)))), Or.inr ⟨rfl, fun z => q4 z.2.2.2⟩⟩
    have l1 : Wp (lp (fun (s : Int) V => B_X10_isPersonTold_75 G m (p : Int) (2 + (n : Int)) ((2 + (n + 2) * p : Nat) : Int) s V) FU 0 V) (fun V' q => V' = V ∧ ((q.1 = 1 ∧ ¬ ∀ i, i < p → 0 < (yT Y).1 (2 + (n + 2) * p) → (yT Y).1 (2 + (n + 2) * i) ≠ (yT Y).1 (2 + (n + 2) * p)) ∨ (q.1 = 2 ∧ ∀ i, i < p → 0 < (yT Y).1 (2 + (n + 2) * p) → (yT Y).1 (2 + (n + 2) * i) ≠ (yT Y).1 (2 + (n + 2) * p)))) := by
      refine W_lp (fun w (y : Int) U => U = V ∧ ∃ i : Nat, y = (i : Int) ∧ i + w = p ∧ ∀ j, j < i → 0 < (yT Y).1 (2 + (n + 2) * p) → (yT Y).1 (2 + (n + 2) * j) ≠ (yT Y).1 (2 + (n + 2) * p)) ?_ FU p _ V ⟨rfl, 0, rfl, by omega, fun j hj => by omega⟩ (by unfold FU; omega)
      rintro w y U ⟨rfl, i, rfl, hw, hr⟩
      unfold B_X10_isPersonTold_75
      refine W_gd ⟨by omega, by omega⟩ (W_gd ⟨by omega, by omega⟩ (W_if (fun q => W_so (Or.inr ⟨(by decide : (2 : Nat) ≠ 0), rfl, Or.inr ⟨rfl, fun j hj => hr j (by omega)⟩⟩)) (fun q => W_gd ⟨by omega, by omega, by omega⟩ ?_)))
      rw [g0, ix_e2]
      have hbi := hNp i (by omega)
      have gi := cl ((2 + (n + 2) * i : Nat) : Int) (2 + (n + 2) * i) rfl (by omega)
      have kbi := tb (2 + (n + 2) * i) (by omega)
      refine W_gd ⟨by omega, by omega⟩ (W_if (fun z => ?_) (fun z => W_gd ⟨by omega, by omega, by omega⟩ ?_))
      · refine W_lt (W_so (Or.inl ⟨rfl, w - 1, by omega, rfl, i + 1, rfl, by omega, fun j hj z2 => by omega⟩))
      · rw [gi]
        refine W_gd ⟨by omega, by omega⟩ (W_if (fun e => ?_) (fun e => ?_))
        · exact W_so (Or.inr ⟨Nat.one_ne_zero, rfl, Or.inl ⟨rfl, fun z2 => z2 i (by omega) (by omega) e⟩⟩)
        · refine W_lt (W_so (Or.inl ⟨rfl, w - 1, by omega, rfl, i + 1, rfl, by omega, fun j hj z2 => ?_⟩))
          by_cases ej : j = i
          · rw [ej]; exact e
          · exact hr j (by omega) z2
    have l2 : Wp (lp (fun (s : Int) V => B_X10_isPersonTold_121 G m (p : Int) ((2 + (n + 2) * p : Nat) : Int) s V) FU 0 V) (fun V' q => V' = V ∧ ((q.1 = 1 ∧ ¬ ∀ l, l < n → (yT Y).1 (2 + (n + 2) * p + 2 + l) ≤ 99) ∨ (q.1 = 2 ∧ ∀ l, l < n → (yT Y).1 (2 + (n + 2) * p + 2 + l) ≤ 99))) := by
      refine W_lp (fun w (y : Int) U => U = V ∧ ∃ i : Nat, y = (i : Int) ∧ i + w = n ∧ ∀ j, j < i → (yT Y).1 (2 + (n + 2) * p + 2 + j) ≤ 99) ?_ FU n _ V ⟨rfl, 0, rfl, by omega, fun j hj => by omega⟩ (by unfold FU; omega)
      rintro w y U ⟨rfl, i, rfl, hw, hr⟩
      unfold B_X10_isPersonTold_121
      refine W_be many (W_gd ⟨by omega, by omega⟩ (W_gd ⟨by omega, by omega⟩ (W_if (fun q => W_so (Or.inr ⟨(by decide : (2 : Nat) ≠ 0), rfl, Or.inr ⟨rfl, fun j hj => hr j (by omega)⟩⟩)) (fun q => W_gd ⟨by omega, by omega, by omega⟩ ?_))))
      have gi := cl (((2 + (n + 2) * p : Nat) : Int) + 2 + (i : Int)) (2 + (n + 2) * p + 2 + i) (by omega) (by omega)
      have kbi := tb (2 + (n + 2) * p + 2 + i) (by omega)
      rw [gi]
      refine W_gd ⟨by omega, by omega⟩ (W_if (fun z => ?_) (fun z => ?_))
      · refine W_lt (W_so (Or.inl ⟨rfl, w - 1, by omega, rfl, i + 1, rfl, by omega, fun j hj => ?_⟩))
        by_cases ej : j = i
        · rw [ej]; exact z
        · exact hr j (by omega)
      · exact W_so (Or.inr ⟨Nat.one_ne_zero, rfl, Or.inl ⟨rfl, fun z2 => z (z2 i (by omega))⟩⟩)
    obtain ⟨V1, u1, f1, rfl, f2⟩ := l1
    obtain ⟨V2, u2', f3, hV2, f4⟩ := l2
    subst hV2
    have hd : ∀ {res : Option (mV × Int)}, (if u1.1 = 1 then (some (V2, (0 : Int))) else (if u2'.1 = 1 then (some (V2, 0)) else (some (V2, 1)))) = res → F_X10_isPersonTold G m (p : Int) V2 = res := by
      intro res er
      refine head ((if_neg q1).trans ((if_neg q2).trans ((if_neg q3).trans ((if_pos q4).trans ?_))))
      refine E_bd f1 ?_
      by_cases z : u1.1 = 1
      · rw [if_pos z] at er ⊢; exact er
      · rw [if_neg z] at er ⊢
        exact E_bd f3 er
    rcases f2 with ⟨a, b⟩ | ⟨a, b⟩
    · exact ⟨0, hd (if_pos a), Or.inr ⟨rfl, fun z => b z.2.1⟩⟩
    · rcases f4 with ⟨a', b'⟩ | ⟨a', b'⟩
      · exact ⟨0, hd ((if_neg (by omega)).trans (if_pos a')), Or.inr ⟨rfl, fun z => b' z.2.2.1⟩⟩
      · exact ⟨1, hd ((if_neg (by omega)).trans (if_neg (by omega))), Or.inl ⟨rfl, ⟨by omega, by omega, q3⟩, b, b', q4⟩⟩
  have main : Wp (lp (fun (s : Int) V => B_X10_isTold_67 G m ((yT Y).2 : Int) s V) FU 0 V) (fun V' q => V' = V ∧ ((q.1 = 1 ∧ ¬ ∀ p, p < n → imP (yT Y) n p) ∨ (q.1 = 2 ∧ ∀ p, p < n → imP (yT Y) n p))) := by
    refine W_lp (fun w (y : Int) U => U = V ∧ ∃ p : Nat, y = (p : Int) ∧ p + w = n ∧ ∀ q, q < p → imP (yT Y) n q) ?_ FU n _ V ⟨rfl, 0, rfl, by omega, fun q hq => by omega⟩ (by unfold FU; omega)
    rintro w y U ⟨rfl, p, rfl, hw, hr⟩
    unfold B_X10_isTold_67
    refine W_be many (W_gd ⟨by omega, by omega⟩ (W_gd ⟨by omega, by omega⟩ (W_if (fun q => W_so (Or.inr ⟨(by decide : (2 : Nat) ≠ 0), rfl, Or.inr ⟨rfl, fun j hj => hr j (by omega)⟩⟩)) (fun q => ?_))))
    obtain ⟨r, e1, e2'⟩ := pers p (by omega)
    refine W_be e1 ?_
    rcases e2' with ⟨a, b⟩ | ⟨a, b⟩
    · rw [a]
      refine W_gd (by decide) (W_if (fun z => absurd z (by decide)) (fun _ => W_lt (W_so (Or.inl ⟨rfl, w - 1, by omega, rfl, p + 1, rfl, by omega, fun j hj => ?_⟩))))
      by_cases ej : j = p
      · rw [ej]; exact b
      · exact hr j (by omega)
    · rw [a]
      exact W_gd (by decide) (W_if (fun _ => W_so (Or.inr ⟨Nat.one_ne_zero, rfl, Or.inl ⟨rfl, fun z2 => b (z2 p (by omega))⟩⟩)) (fun z => absurd rfl z))
  obtain ⟨V', q, e1, rfl, e3⟩ := main
  have top2 : ∀ r, (if q.1 = 1 then some (V', (0 : Int)) else some (V', 1)) = some (V', r) → (if (yT Y).1 (imN n) = chk (yT Y).1 (imN n) then (gd (rg ((256 * ((yT Y).1 0)) + ((yT Y).1 1))) <|
  if ((256 * ((yT Y).1 0)) + ((yT Y).1 1)) ≤ 9999 then (bd (lp (fun (s : Int) V => B_X10_isTold_67 G m ((yT Y).2 : Int) s V) FU 0 V') fun V32 u33 =>
  if u33.1 = 1 then (some (V32, 0)) else (some (V32, 1))) else (some (V', 0))) else (some (V', 0))) = some (V', r) := by
    intro r hr
    rw [if_pos c2]
    exact E_gd ⟨by omega, by omega⟩ (E_if (fun _ => E_bd e1 hr) (fun q => by omega))
  rcases e3 with ⟨a, b⟩ | ⟨a, b⟩
  · exact ⟨0, top (top2 0 (if_pos a)), Or.inr ⟨rfl, fun z => b z.2.2.2⟩⟩
  · exact ⟨1, top (top2 1 (if_neg (by omega))), Or.inl ⟨rfl, c1, c2, c3, b⟩⟩
end

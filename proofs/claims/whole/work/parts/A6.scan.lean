/-! from bytes to tokens: the class's -/
theorem rw_add {G : mG} {V : mV} {r cap : Nat} {n v : Int} {f : Int → Int} (hr : is7 G r) (hq : qG G (r + 1) = cap) (h : rw' V r n f) (hn : 0 ≤ n ∧ n < (cap : Int)) (hv : f n = v) :
    ∃ V', F_X7_add G r v V = some (V', 0) ∧ fr (fun i => i = r ∨ i = r + 1) V V' ∧ rw' V' r (n + 1) f := by
  obtain ⟨h1, h2⟩ := h
  have e : radd V r (qG G (r + 1)) v = sI (sA V (r + 1) n.toNat v) r 1 (n + 1) := by
    unfold radd; rw [hq, h1, if_pos hn.2]
  refine ⟨sI (sA V (r + 1) n.toNat v) r 1 (n + 1), ?_, ?_, ?_, fun j a b => ?_⟩
  · rw [p7_add hr (rw_rz hq h1 ⟨hn.1, by omega⟩), e]
  · exact (fr_sA (Or.inr rfl)).trans (fr_sI (Or.inl rfl))
  · rw [gI_sI, if_pos ⟨rfl, rfl⟩]
  · show gA (sA V (r + 1) n.toNat v) (r + 1) j.toNat = f j
    rw [gA_sA]
    by_cases q : j = n
    · rw [if_pos ⟨rfl, by rw [q]⟩, q, hv]
    · rw [if_neg (by omega)]
      exact h2 j a (by omega)
theorem rw_cut0 {G : mG} {V : mV} {r : Nat} {f : Int → Int} (hr : is7 G r) (hz : rz G V r) : ∃ V', F_X7_cut G r 0 V = some (V', 0) ∧ fr (fun i => i = r) V V' ∧ rw' V' r 0 f := by
  refine ⟨rcut V r 0, p7_cut hr hz ⟨by decide, by decide⟩, fr_rcut rfl, ?_, fun j a b => by omega⟩
  unfold rcut
  have := hz.1
  split
  · rw [gI_sI, if_pos ⟨rfl, rfl⟩]
  · next q => omega
theorem p6_dig {G : mG} {V : mV} {c : Int} (h : rg c) : F_X6_isDigit G c V = some (V, if isD c = true then 1 else 0) := by
  unfold F_X6_isDigit
  refine E_gd h (E_if (fun a => ?_) (fun a => E_if (fun b => ?_) (fun b => ?_)))
  · rw [if_neg (fun q => by have := isD_i.mp q; omega)]
  · rw [if_neg (fun q => by have := isD_i.mp q; omega)]
  · rw [if_pos (isD_i.mpr ⟨by omega, by omega⟩)]
theorem p6_let {G : mG} {V : mV} {c : Int} (h : rg c) : F_X6_isLetter G c V = some (V, if isL c = true then 1 else 0) := by
  unfold F_X6_isLetter
  refine E_gd h (E_if (fun a => ?_) (fun a => E_if (fun b => ?_) (fun b => ?_)))
  · rw [if_neg (fun q => by have := isL_i.mp q; omega)]
  · rw [if_neg (fun q => by have := isL_i.mp q; omega)]
  · rw [if_pos (isL_i.mpr ⟨by omega, by omega⟩)]
/-- bits put above -/
theorem bor_add {a b : Int} {i : Nat} (ha : 0 ≤ a ∧ a < ((2 ^ i : Nat) : Int)) (hb : 0 ≤ b) : bor a (b * ((2 ^ i : Nat) : Int)) = a + b * ((2 ^ i : Nat) : Int) := by
  obtain ⟨x, rfl⟩ : ∃ x : Nat, a = (x : Int) := ⟨a.toNat, by omega⟩
  obtain ⟨y, rfl⟩ : ∃ y : Nat, b = (y : Int) := ⟨b.toNat, by omega⟩
  have hx : x < 2 ^ i := by omega
  unfold bor
  rw [← Int.natCast_mul, Int.toNat_natCast, Int.toNat_natCast, ← Nat.shiftLeft_eq, Nat.or_comm, ← Nat.shiftLeft_add_eq_or_of_lt hx, Nat.shiftLeft_eq]
  rw [Int.natCast_add, Int.natCast_mul]
  omega
/-- a text in a row -/
def vTx (V : mV) (r : Nat) (T : mT2) : Prop := gI V r 1 = (T.2 : Int) ∧ T.2 ≤ 1600 ∧ (∀ j, j < T.2 → gA V (r + 1) j = T.1 j) ∧ ∀ j, j < T.2 → 0 ≤ T.1 j ∧ T.1 j ≤ 255
theorem vTx.fr {S : Nat → Prop} {V V1 : mV} {r : Nat} {T : mT2} (h : vTx V r T) (k : fr S V V1) (h1 : ¬ S r) (h2 : ¬ S (r + 1)) : vTx V1 r T :=
  ⟨by rw [k.I h1]; exact h.1, h.2.1, fun j hj => by rw [k.A h2]; exact h.2.2.1 j hj, h.2.2.2⟩
section
variable {G : mG} {V : mV} {r tp : Nat} {T : mT2}
theorem tx_get (ht : is7 G tp) (hq : qG G (tp + 1) = 1600) (h : vTx V tp T) {k : Nat} (hk : k < T.2) : F_X7_get G tp (k : Int) V = some (V, T.1 k) := by
  have h1 := h.1
  have h2 := h.2.1
  rw [p7_get ht (rw_rz hq h.1 ⟨by omega, by omega⟩) ⟨by omega, by omega⟩, rget_in (by omega) (by omega)]
  show some (V, gA V (tp + 1) ((k : Int)).toNat) = _
  rw [Int.toNat_natCast, h.2.2.1 k hk]
theorem tx_rg (h : vTx V tp T) {k : Nat} (hk : k < T.2) : rg (T.1 k) := by
  have := h.2.2.2 k hk
  exact ⟨by omega, by omega⟩
/-- the byte ahead, if there is one -/
theorem tx_pre (ht : is7 G tp) (hq : qG G (tp + 1) = 1600) (h : vTx V tp T) {k : Nat} (hk : k < T.2) : ∃ c, F_X7_get G tp ((k : Int) - 1) V = some (V, c) ∧ rg c ∧ (isD c = true ↔ k ≠ 0 ∧ isD (T.1 (k - 1)) = true) ∧ (isL c = true ↔ k ≠ 0 ∧ isL (T.1 (k - 1)) = true) := by
  by_cases k0 : k = 0
  · subst k0
    refine ⟨-1, ?_, ⟨by decide, by decide⟩, ⟨fun q => absurd q (by decide), fun q => absurd rfl q.1⟩, ⟨fun q => absurd q (by decide), fun q => absurd rfl q.1⟩⟩
    have h1 := h.1
    have h2 := h.2.1
    rw [p7_get ht (rw_rz hq h.1 ⟨by omega, by omega⟩) ⟨by decide, by decide⟩, rget_out (by left; decide)]
  · refine ⟨T.1 (k - 1), ?_, tx_rg h (by omega), ⟨fun q => ⟨k0, q⟩, fun q => q.2⟩, ⟨fun q => ⟨k0, q⟩, fun q => q.2⟩⟩
    rw [show (k : Int) - 1 = ((k - 1 : Nat) : Int) by omega]
    exact tx_get ht hq h (by omega)
theorem lp_num (ht : is7 G tp) (hq : qG G (tp + 1) = 1600) (h : vTx V tp T) {p : Nat} (hp : p < T.2) : lp (fun (s : Int × Int) V => B_X6_scanNumber_5 G r tp (p : Int) s.1 s.2 V) FU (0, (p : Int)) V = some (V, 1, (dig T p (min (ew isD T p - p) 4), ((ew isD T p : Nat) : Int))) := by
  obtain ⟨a, b, c, d⟩ := ew_spec (A := isD) (T := T) (p := p) (by omega)
  have h1 := h.1
  have h2 := h.2.1
  have key := E_for (B := fun (s : Int × Int) V => B_X6_scanNumber_5 G r tp (p : Int) s.1 s.2 V) (t := 1) (by decide) (fun j => (dig T p (min j 4), ((p + j : Nat) : Int))) (fun _ => V) (ew isD T p - p) ?_ ?_ FU (by unfold FU; omega)
  · rw [show p + (ew isD T p - p) = ew isD T p by omega] at key
    exact key
  · intro j hj
    have hD := run_at (A := isD) (T := T) (p := p) (by omega) hj
    have hr := tx_rg h (k := p + j) (by omega)
    have hD' := isD_i.mp hD
    show B_X6_scanNumber_5 G r tp (p : Int) (dig T p (min j 4)) ((p + j : Nat) : Int) V = some (V, 0, (dig T p (min (j + 1) 4), ((p + (j + 1) : Nat) : Int)))
    unfold B_X6_scanNumber_5
    refine E_bd p7_size (E_gd ⟨by omega, by omega⟩ (E_gd (by rw [h1]; exact ⟨by omega, by omega⟩) (E_if (fun q => by rw [h1] at q; omega) (fun _ => E_bd (tx_get ht hq h (by omega)) (E_bd (p6_dig hr) ?_)))))
    rw [if_pos hD]
    refine E_gd (by decide) (E_if (fun q => absurd q (by decide)) (fun _ => E_gd ⟨by omega, by omega⟩ (E_if (fun q => E_lt (E_so rfl ?_)) (fun q => E_bd (tx_get ht hq h (by omega)) (E_lt (E_lt (E_so rfl ?_)))))))
    · rw [Nat.min_eq_right (show 4 ≤ j by omega), Nat.min_eq_right (show 4 ≤ j + 1 by omega)]
      refine Prod.ext rfl (Prod.ext rfl ?_)
      show ((p + j : Nat) : Int) + 1 = ((p + (j + 1) : Nat) : Int)
      omega
    · rw [Nat.min_eq_left (show j ≤ 4 by omega), Nat.min_eq_left (show j + 1 ≤ 4 by omega)]
      refine Prod.ext rfl (Prod.ext ?_ ?_)
      · show 10 * dig T p j + T.1 (p + j) - 48 = 10 * dig T p j + (T.1 (p + j) - 48)
        omega
      · show ((p + j : Nat) : Int) + 1 = ((p + (j + 1) : Nat) : Int)
        omega
  · show B_X6_scanNumber_5 G r tp (p : Int) (dig T p (min (ew isD T p - p) 4)) ((p + (ew isD T p - p) : Nat) : Int) V = _
    rw [show p + (ew isD T p - p) = ew isD T p by omega]
    unfold B_X6_scanNumber_5
    refine E_bd p7_size (E_gd ⟨by omega, by omega⟩ (E_gd (by rw [h1]; exact ⟨by omega, by omega⟩) (E_if (fun q => rfl) (fun q => ?_))))
    rw [h1] at q
    have nd := d (by omega)
    refine E_bd (tx_get ht hq h (by omega)) (E_bd (p6_dig (tx_rg h (by omega))) ?_)
    rw [if_neg nd]
    exact E_gd (by decide) (E_if (fun _ => rfl) (fun q => absurd rfl q))
theorem lp_word (ht : is7 G tp) (hq : qG G (tp + 1) = 1600) (h : vTx V tp T) {p : Nat} (hp : p < T.2) : lp (fun (s : Int × Int) V => B_X6_scanWord_5 G r tp (p : Int) s.1 s.2 V) FU (0, (p : Int)) V = some (V, 1, (nm5 (ltr T p (min (ew isL T p - p) 6)), ((ew isL T p : Nat) : Int))) := by
  obtain ⟨a, b, c, d⟩ := ew_spec (A := isL) (T := T) (p := p) (by omega)
  have h1 := h.1
  have h2 := h.2.1
  have key := E_for (B := fun (s : Int × Int) V => B_X6_scanWord_5 G r tp (p : Int) s.1 s.2 V) (t := 1) (by decide) (fun j => (nm5 (ltr T p (min j 6)), ((p + j : Nat) : Int))) (fun _ => V) (ew isL T p - p) ?_ ?_ FU (by unfold FU; omega)
  · rw [show p + (ew isL T p - p) = ew isL T p by omega] at key
    exact key
  · intro j hj
    have hD := run_at (A := isL) (T := T) (p := p) (by omega) hj
    have hr := tx_rg h (k := p + j) (by omega)
    have hD' := isL_i.mp hD
    show B_X6_scanWord_5 G r tp (p : Int) (nm5 (ltr T p (min j 6))) ((p + j : Nat) : Int) V = some (V, 0, (nm5 (ltr T p (min (j + 1) 6)), ((p + (j + 1) : Nat) : Int)))
    unfold B_X6_scanWord_5
    refine E_bd p7_size (E_gd ⟨by omega, by omega⟩ (E_gd (by rw [h1]; exact ⟨by omega, by omega⟩) (E_if (fun q => by rw [h1] at q; omega) (fun _ => E_bd (tx_get ht hq h (by omega)) (E_bd (p6_let hr) ?_)))))
    rw [if_pos hD]
    refine E_gd (by decide) (E_if (fun q => absurd q (by decide)) (fun _ => E_gd ⟨by omega, by omega⟩ (E_if (fun q => E_lt (E_so rfl ?_)) (fun q => E_bd (tx_get ht hq h (by omega)) ?_))))
    · rw [Nat.min_eq_right (show 6 ≤ j by omega), Nat.min_eq_right (show 6 ≤ j + 1 by omega)]
      refine Prod.ext rfl (Prod.ext rfl ?_)
      show ((p + j : Nat) : Int) + 1 = ((p + (j + 1) : Nat) : Int)
      omega
    · have j6 : j < 6 := by omega
      rw [Nat.min_eq_left (show j ≤ 6 by omega), Nat.min_eq_left (show j + 1 ≤ 6 by omega)]
      have ok := ltr_ok (T := T) (p := p) j (fun i hi => run_at (A := isL) (by omega) (by omega))
      have nn := nm5_nn ok
      have lt := nm5_lt ok
      rw [ltr_len] at lt
      have e5 : (5 * (((p + j : Nat) : Int) - (p : Int))) = ((5 * j : Nat) : Int) := by omega
      have e32 : (32 ^ j : Nat) = 2 ^ (5 * j) := by rw [Nat.pow_mul]
      have es : shl (T.1 (p + j) - 97 + 1) (5 * (((p + j : Nat) : Int) - (p : Int))) = (T.1 (p + j) - 96) * ((2 ^ (5 * j) : Nat) : Int) := by
        rw [e5]; unfold shl
        rw [Int.toNat_natCast, show T.1 (p + j) - 97 + 1 = T.1 (p + j) - 96 by omega]
      refine E_gd (by rw [e5]; omega) (E_gd ⟨nn, by rw [es]; exact Int.mul_nonneg (by omega) (by omega)⟩ (E_lt (E_lt (E_so rfl ?_))))
      refine Prod.ext rfl (Prod.ext ?_ ?_)
      · show bor (nm5 (ltr T p j)) (shl (T.1 (p + j) - 97 + 1) (5 * (((p + j : Nat) : Int) - (p : Int)))) = nm5 (ltr T p j ++ [T.1 (p + j) - 96])
        rw [es, nm5_app, ltr_len, e32]
        rw [e32] at lt
        exact bor_add ⟨nn, lt⟩ (by omega)
      · show ((p + j : Nat) : Int) + 1 = ((p + (j + 1) : Nat) : Int)
        omega
  · show B_X6_scanWord_5 G r tp (p : Int) (nm5 (ltr T p (min (ew isL T p - p) 6))) ((p + (ew isL T p - p) : Nat) : Int) V = _
    rw [show p + (ew isL T p - p) = ew isL T p by omega]
    unfold B_X6_scanWord_5
    refine E_bd p7_size (E_gd ⟨by omega, by omega⟩ (E_gd (by rw [h1]; exact ⟨by omega, by omega⟩) (E_if (fun q => rfl) (fun q => ?_))))
    rw [h1] at q
    have nd := d (by omega)
    refine E_bd (tx_get ht hq h (by omega)) (E_bd (p6_let (tx_rg h (by omega))) ?_)
    rw [if_neg nd]
    exact E_gd (by decide) (E_if (fun _ => rfl) (fun q => absurd rfl q))
/-- the tokens so far -/
def tkR (V : mV) (r : Nat) (T : mT2) (n : Nat) : Prop := rw' V (r + 1) (n : Int) (fun k => ((kdT T (pT T k.toNat) : Nat) : Int)) ∧ rw' V (r + 3) (n : Int) (fun k => ((pT T k.toNat : Nat) : Int)) ∧ rw' V (r + 5) (n : Int) (fun k => ((lnT T (pT T k.toNat) : Nat) : Int)) ∧ rw' V (r + 7) (n : Int) (fun k => vlT T (pT T k.toNat)) ∧ rw' V (r + 9) (n : Int) (fun k => nmT T (pT T k.toNat))
theorem tkR.fr {S : Nat → Prop} {V V1 : mV} {r n : Nat} {T : mT2} (h : tkR V r T n) (k : fr S V V1) (hS : ∀ i, r + 1 ≤ i → i ≤ r + 10 → ¬ S i) : tkR V1 r T n :=
  ⟨h.1.fr k (hS _ (by omega) (by omega)) (hS _ (by omega) (by omega)), h.2.1.fr k (hS _ (by omega) (by omega)) (hS _ (by omega) (by omega)), h.2.2.1.fr k (hS _ (by omega) (by omega)) (hS _ (by omega) (by omega)), h.2.2.2.1.fr k (hS _ (by omega) (by omega)) (hS _ (by omega) (by omega)), h.2.2.2.2.fr k (hS _ (by omega) (by omega)) (hS _ (by omega) (by omega))⟩
theorem wf33_bd : ∀ j : Int, 0 ≤ j → j < 33 → 0 ≤ wf33 j ∧ wf33 j < 1073741824 := by
  intro j a b
  have k : ∀ i : Fin 33, 0 ≤ wf33 (i.val : Int) ∧ wf33 (i.val : Int) < 1073741824 := by decide +kernel
  have := k ⟨j.toNat, by omega⟩
  simp only [Int.toNat_of_nonneg a] at this
  exact this
theorem p6_put (hG : is6 G r) (hw : rw' V (r + 11) 33 wf33) {i p : Nat} (h : tkR V r T i) (hi : i ≤ 1600) (hp : pT T i = p) (hv : kdT T p = 0 → lnT T p ≤ 6 → rg (vlT T p)) (hl : lnT T p ≤ 1600) {s ln : Int} (hs : s = ((kdT T p : Nat) : Int)) (hln : ln = ((lnT T p : Nat) : Int)) :
    ∃ V', F_X6_put G r s (p : Int) ln (vlT T p) V = some (V', 0) ∧ fr (fun i => r + 1 ≤ i ∧ i ≤ r + 10) V V' ∧ tkR V' r T (i + 1) := by
  obtain ⟨h1, h2, h3, h4, h5⟩ := h
  have c1 := s6_0c hG
  have c2 := s6_1c hG
  have c3 := s6_2c hG
  have c4 := s6_3c hG
  have c5 := s6_4c hG
  have hin : 0 ≤ (i : Int) ∧ (i : Int) < ((1601 : Nat) : Int) := ⟨by omega, by omega⟩
  have ei : ((i : Int)).toNat = i := Int.toNat_natCast i
  obtain ⟨V1, e1, k1, w1⟩ := rw_add (v := ((kdT T p : Nat) : Int)) (s6_0s hG) c1 h1 hin (by show ((kdT T (pT T ((i : Int)).toNat) : Nat) : Int) = _; rw [ei, hp])
  obtain ⟨V2, e2, k2, w2⟩ := rw_add (V := V1) (v := (p : Int)) (s6_1s hG) c2 (h2.fr k1 (by omega) (by omega)) hin (by show ((pT T ((i : Int)).toNat : Nat) : Int) = _; rw [ei, hp])
  have k12 : fr (fun i => r + 1 ≤ i ∧ i ≤ r + 4) V V2 := (k1.mono (fun i q => by omega)).trans (k2.mono (fun i q => by omega))
  obtain ⟨V3, e3, k3, w3⟩ := rw_add (V := V2) (v := ((lnT T p : Nat) : Int)) (s6_2s hG) c3 (h3.fr k12 (by omega) (by omega)) hin (by show ((lnT T (pT T ((i : Int)).toNat) : Nat) : Int) = _; rw [ei, hp])
  have k13 : fr (fun i => r + 1 ≤ i ∧ i ≤ r + 6) V V3 := (k12.mono (fun i q => by omega)).trans (k3.mono (fun i q => by omega))
  obtain ⟨V4, e4, k4, w4⟩ := rw_add (V := V3) (v := vlT T p) (s6_3s hG) c4 (h4.fr k13 (by omega) (by omega)) hin (by show vlT T (pT T ((i : Int)).toNat) = _; rw [ei, hp])
  have k14 : fr (fun i => r + 1 ≤ i ∧ i ≤ r + 8) V V4 := (k13.mono (fun i q => by omega)).trans (k4.mono (fun i q => by omega))
  obtain ⟨V5, e5, k5, w5⟩ := rw_add (V := V4) (v := nmT T p) (s6_4s hG) c5 (h5.fr k14 (by omega) (by omega)) hin (by show nmT T (pT T ((i : Int)).toNat) = _; rw [ei, hp])
  have k15 : fr (fun i => r + 1 ≤ i ∧ i ≤ r + 10) V V5 := (k14.mono (fun i q => by omega)).trans (k5.mono (fun i q => by omega))
  have hw4 : rw' V4 (r + 11) 33 wf33 := hw.fr k14 (by omega) (by omega)
  have ec : ((i + 1 : Nat) : Int) = (i : Int) + 1 := by omega
  refine ⟨V5, ?_, k15, ?_⟩
  · have kb : kdT T p ≤ 4 := by
      unfold kdT
      (repeat' split) <;> decide
    have cases0 : ∀ b : Int, (b = 0 → nmT T p = -1) → (b ≠ 0 → kdT T p = 0 ∧ lnT T p ≤ 6) → (b = 0 ∨ b = 1) → F_X6_put_J15 G r s (p : Int) ln (vlT T p) b V = some (V5, 0) := by
      intro b b0 b1 b2
      unfold F_X6_put_J15
      rw [hs, hln]
      refine E_bd e1 (E_bd e2 (E_bd e3 (E_bd e4 (E_gd ⟨by omega, by omega⟩ (E_if (fun q => ?_) (fun q => ?_))))))
      · have := b0 q
        rw [this] at e5
        exact E_bd e5 rfl
      · obtain ⟨k0, l6⟩ := b1 q
        have ef := p7_find (s6_5s hG) (rw_rz (V := V4) (s6_5c hG) hw4.1 ⟨by decide, by decide⟩) (fun j j0 j1 => by
          rw [hw4.1] at j1
          rw [hw4.2 j j0 j1]
          have := wf33_bd j j0 j1
          exact ⟨by omega, by omega⟩) (hv k0 l6)
        rw [hw4.1] at ef
        have e33 : fi (rc V4 (r + 11)) (vlT T p) 0 33 = nmT T p := by
          unfold nmT
          rw [if_pos ⟨k0, l6⟩]
          exact fi_cg (fun j a b => hw4.2 j a (by omega))
        refine E_bd ef ?_
        show bd (F_X7_add G (r + 9) (fi (rc V4 (r + 11)) (vlT T p) 0 33) V4) _ = _
        rw [e33]
        exact E_bd e5 rfl
    have j14 : ¬ (kdT T p = 0 ∧ lnT T p ≤ 6) → F_X6_put_J14 G r s (p : Int) ln (vlT T p) V = some (V5, 0) := fun q => by
      unfold F_X6_put_J14
      exact cases0 0 (fun _ => by unfold nmT; rw [if_neg q]) (fun z => absurd rfl z) (Or.inl rfl)
    unfold F_X6_put
    refine E_gd (by rw [hs]; exact ⟨by omega, by omega⟩) (E_if (fun q => E_gd (by rw [hln]; exact ⟨by omega, by omega⟩) (E_if (fun q2 => j14 (by omega)) (fun q2 => ?_))) (fun q => j14 (by omega)))
    exact cases0 1 (fun z => absurd z (by decide)) (fun _ => ⟨by omega, by omega⟩) (Or.inr rfl)
  · unfold tkR
    rw [ec]
    exact ⟨((((w1.fr k2 (by omega) (by omega)).fr k3 (by omega) (by omega)).fr k4 (by omega) (by omega)).fr k5 (by omega) (by omega)), (((w2.fr k3 (by omega) (by omega)).fr k4 (by omega) (by omega)).fr k5 (by omega) (by omega)), ((w3.fr k4 (by omega) (by omega)).fr k5 (by omega) (by omega)), (w4.fr k5 (by omega) (by omega)), w5⟩
end

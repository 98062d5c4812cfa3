/-! the next token (reference): what stands there -/
/-- lexing touches these alone -/
def rLk (m : Nat) (V V' : mV) : Prop := gA V' = gA V ∧ gJ V' = gJ V ∧ gL V' = gL V ∧ ∀ i k, (i ≠ m ∨ (k ≠ 2 ∧ k ≠ 4 ∧ k ≠ 5 ∧ k ≠ 6 ∧ k ≠ 10 ∧ k ≠ 35)) → gI V' i k = gI V i k
theorem rLk_refl {m : Nat} {V : mV} : rLk m V V := ⟨rfl, rfl, rfl, fun _ _ _ => rfl⟩
theorem rLk.trans {m : Nat} {V V1 V2 : mV} (h : rLk m V V1) (k : rLk m V1 V2) : rLk m V V2 := ⟨k.1.trans h.1, k.2.1.trans h.2.1, k.2.2.1.trans h.2.2.1, fun i j q => (k.2.2.2 i j q).trans (h.2.2.2 i j q)⟩
theorem rLk_sI {m k : Nat} {V : mV} {x : Int} (hk : k = 2 ∨ k = 4 ∨ k = 5 ∨ k = 6 ∨ k = 10 ∨ k = 35) : rLk m V (sI V m k x) := ⟨rfl, rfl, rfl, fun i j q => by rw [gI_sI, if_neg (by omega)]⟩
/-- no token begins within another one -/
def bdy (T : mT2) (p : Nat) : Prop := p < T.2 → p ≠ 0 → ¬ (isL (T.1 p) = true ∧ isL (T.1 (p - 1)) = true) ∧ ¬ (isD (T.1 p) = true ∧ isD (T.1 (p - 1)) = true)
def rA (V : mV) (m : Nat) (T : mT2) (p : Nat) : Prop := (∀ j, j < T.2 → gA V (m + 1) j = T.1 j) ∧ gI V m 3 = (T.2 : Int) ∧ (∃ a : Nat, gI V m 2 = (a : Int) ∧ a ≤ T.2 ∧ bsk T a = p) ∧ (-1 ≤ gI V m 4 ∧ gI V m 4 ≤ (p : Int)) ∧ (gI V m 4 = (p : Int) ↔ p ≠ 0 ∧ (isL (T.1 (p - 1)) = true ∨ isD (T.1 (p - 1)) = true)) ∧ bdy T p
def rs10 (V : mV) (m : Nat) (T : mT2) (x : (Int × Int) ⊕ Nat) : Prop := match x with
  | .inl e => gI V m 5 = e.1 ∧ gI V m 6 = e.2 ∧ rg e.1 ∧ e.1 ≠ 0
  | .inr q => rA V m T q ∧ gI V m 5 = 0
def lkc (T : mT2) (p : Nat) : Int := if p < T.2 then T.1 p else -1
section
variable {G : mG} {V : mV} {m : Nat} {T : mT2} {p : Nat}
theorem rA.lk {V' : mV} {a : Nat} (h : rA V m T p) (k : rLk m V V') (h2 : gI V' m 2 = (a : Int)) (ha : a ≤ T.2) (hb : bsk T a = p) (h4 : gI V' m 4 = gI V m 4) : rA V' m T p := by
  obtain ⟨x1, x2, -, x4, x5, x6⟩ := h
  exact ⟨fun j hj => by rw [k.1]; exact x1 j hj, by rw [k.2.2.2 m 3 (by omega)]; exact x2, ⟨a, h2, ha, hb⟩, by rw [h4]; exact x4, by rw [h4]; exact x5, x6⟩
theorem rA_le (h : rA V m T p) : p ≤ T.2 := by
  obtain ⟨-, -, ⟨a, -, ha, hb⟩, -⟩ := h
  rw [← hb]; exact (bsk_spec ha).2.1
theorem lkc_rg (hT : tOk T) : rg (lkc T p) ∧ -1 ≤ lkc T p ∧ lkc T p ≤ 255 := by
  unfold lkc
  split
  · next h => have := hT.2 p h; exact ⟨⟨by omega, by omega⟩, by omega, by omega⟩
  · decide
theorem r_isL {c : Int} (h : rg c) : F_X10_isLetter G c V = some (V, if isL c = true then 1 else 0) := by
  unfold F_X10_isLetter
  refine E_gd h (E_if (fun a => ?_) (fun a => E_if (fun b => ?_) (fun b => ?_)))
  · rw [if_neg (fun q => by have := isL_i.mp q; omega)]
  · rw [if_neg (fun q => by have := isL_i.mp q; omega)]
  · rw [if_pos (isL_i.mpr ⟨by omega, by omega⟩)]
theorem r_isD {c : Int} (h : rg c) : F_X10_isDigit G c V = some (V, if isD c = true then 1 else 0) := by
  unfold F_X10_isDigit
  refine E_gd h (E_if (fun a => ?_) (fun a => E_if (fun b => ?_) (fun b => ?_)))
  · rw [if_neg (fun q => by have := isD_i.mp q; omega)]
  · rw [if_neg (fun q => by have := isD_i.mp q; omega)]
  · rw [if_pos (isD_i.mpr ⟨by omega, by omega⟩)]
theorem r_look (hT : tOk T) (h : rA V m T p) : ∃ V', F_X10_look G m V = some (V', lkc T p) ∧ rLk m V V' ∧ rA V' m T p ∧ gI V' m 2 = (p : Int) ∧ gI V' m 5 = gI V m 5 ∧ gI V' m 4 = gI V m 4 := by
  have hn := hT.1
  have h0 := h
  obtain ⟨x1, x2, ⟨a, xa, xl, xb⟩, x4, x5, x6⟩ := h
  have ap : a ≤ p := by rw [← xb]; exact (bsk_spec xl).1
  have pn : p ≤ T.2 := rA_le h0
  have main : Wp (lp (fun (s : Unit) V => B_X10_look_0 G m V) FU () V) (fun V' q => rLk m V V' ∧ gI V' m 2 = (p : Int) ∧ gI V' m 5 = gI V m 5 ∧ gI V' m 4 = gI V m 4) := by
    refine W_lp (fun w (_ : Unit) U => rLk m V U ∧ gI U m 5 = gI V m 5 ∧ gI U m 4 = gI V m 4 ∧ ∃ a : Nat, gI U m 2 = (a : Int) ∧ a ≤ T.2 ∧ bsk T a = p ∧ a + w = p) ?_ FU (p - a) () V ⟨rLk_refl, rfl, rfl, a, xa, xl, xb, by omega⟩ (by unfold FU; omega)
    rintro w s U ⟨kU, u5, u4, a, ua, ul, ub, um⟩
    have u3 : gI U m 3 = (T.2 : Int) := by rw [kU.2.2.2 m 3 (by omega)]; exact x2
    have e2 : ((a : Int)).toNat = a := Int.toNat_natCast a
    show Wp (B_X10_look_0 G m U) _
    unfold B_X10_look_0 F_X10_look_J39_0
    rw [ua, u3, e2]
    refine W_gd ⟨by omega, by omega⟩ (W_gd ⟨by omega, by omega⟩ (W_if (fun q => W_so (Or.inr ⟨Nat.one_ne_zero, kU, ?_, u5, u4⟩)) (fun q => ?_)))
    · have : bsk T a = a := ew_out (by omega)
      rw [ua]; omega
    · have hc : gA U (m + 1) a = T.1 a := by rw [kU.1]; exact x1 a (by omega)
      have hb := hT.2 a (by omega)
      have step : isB (T.1 a) = true → Wp (lt (sI U m 2 ((a : Int) + 1)) fun V7 => some (V7, 0, ())) (fun V' q => (q.1 = 0 ∧ ∃ w', w' < w ∧ (rLk m V V' ∧ gI V' m 5 = gI V m 5 ∧ gI V' m 4 = gI V m 4 ∧ ∃ a : Nat, gI V' m 2 = (a : Int) ∧ a ≤ T.2 ∧ bsk T a = p ∧ a + w' = p)) ∨ (q.1 ≠ 0 ∧ (rLk m V V' ∧ gI V' m 2 = (p : Int) ∧ gI V' m 5 = gI V m 5 ∧ gI V' m 4 = gI V m 4))) := by
        intro hB
        have sb : bsk T (a + 1) = p := by rw [← ub]; exact (ew_step (A := isB) (by omega) hB).symm
        have := (bsk_spec (T := T) (p := a + 1) (by omega)).1
        refine W_lt (W_so (Or.inl ⟨rfl, w - 1, by omega, kU.trans (rLk_sI (Or.inl rfl)), ?_, ?_, a + 1, ?_, by omega, sb, by omega⟩))
        · rw [gI_sI, if_neg (by omega)]; exact u5
        · rw [gI_sI, if_neg (by omega)]; exact u4
        · rw [gI_sI, if_pos ⟨rfl, rfl⟩]; omega
      rw [hc]
      refine W_gd ⟨by omega, by omega, by omega⟩ (W_gd ⟨by omega, by omega⟩ (W_if (fun q1 => step (isB_i.mpr (Or.inr q1))) (fun q1 => W_if (fun q2 => step (isB_i.mpr (Or.inl q2))) (fun q2 => W_so (Or.inr ⟨Nat.one_ne_zero, kU, ?_, u5, u4⟩)))))
      have : bsk T a = a := ew_stop (fun z => by have := isB_i.mp z; omega)
      rw [ua]; omega
  obtain ⟨V', q, e, k, a2, a5, a4⟩ := main
  have r' : rA V' m T p := h0.lk k a2 pn (by
    have := bsk_id xl
    rw [xb] at this; exact this) a4
  refine ⟨V', ?_, k, r', a2, a5, a4⟩
  have u3 : gI V' m 3 = (T.2 : Int) := r'.2.1
  unfold F_X10_look
  refine E_bd e ?_
  unfold F_X10_look_J52
  rw [a2, u3, Int.toNat_natCast]
  refine E_gd ⟨by omega, by omega⟩ (E_gd ⟨by omega, by omega⟩ (E_if (fun q => E_so rfl ?_) (fun q => E_gd ⟨by omega, by omega, by omega⟩ (E_so rfl ?_))))
  · unfold lkc; rw [if_neg (by omega)]
  · unfold lkc; rw [if_pos (by omega)]; exact r'.1 p (by omega)
theorem r_fail (h0 : gI V m 5 = 0) {k w : Int} (hk : rg k ∧ k ≠ 0) : ∃ V', F_X10_fail G m k w V = some (V', 0) ∧ rLk m V V' ∧ rs10 V' m T (.inl (k, w)) := by
  refine ⟨sI (sI V m 5 k) m 6 w, ?_, (rLk_sI (by omega)).trans (rLk_sI (by omega)), ?_, ?_, hk.1, hk.2⟩
  · unfold F_X10_fail
    exact E_gd (by rw [h0]; decide) (E_if (fun _ => E_lt (E_lt rfl)) (fun q => absurd h0 q))
  · rw [gI_sI, if_neg (by omega), gI_sI, if_pos ⟨rfl, rfl⟩]
  · rw [gI_sI, if_pos ⟨rfl, rfl⟩]
theorem r_fail1 (h0 : gI V m 5 ≠ 0) (hr : rg (gI V m 5)) {k w : Int} : F_X10_fail G m k w V = some (V, 0) := by
  unfold F_X10_fail
  exact E_gd hr (E_if (fun q => absurd q h0) (fun _ => rfl))
/-- behind a run that ends at te -/
theorem nx_run {A : Int → Bool} (hA : ∀ c, A c = true → (isL c = true ∨ isD c = true) ∧ (isL c = true → ∀ d, isL d = true → A d = true) ∧ (isD c = true → ∀ d, isD d = true → A d = true)) {te : Nat} (ht : te ≤ T.2) (hp : 0 < te) (hl : A (T.1 (te - 1)) = true) (hs : te < T.2 → ¬ A (T.1 te) = true) : (((te : Nat) : Int) = ((bsk T te : Nat) : Int) ↔ bsk T te ≠ 0 ∧ (isL (T.1 (bsk T te - 1)) = true ∨ isD (T.1 (bsk T te - 1)) = true)) ∧ bdy T (bsk T te) := by
  obtain ⟨b1, b2, b3, b4⟩ := bsk_spec ht
  obtain ⟨l1, l2, l3⟩ := hA _ hl
  by_cases e : bsk T te = te
  · rw [e]
    refine ⟨⟨fun _ => ⟨by omega, l1⟩, fun _ => rfl⟩, fun h1 _ => ⟨fun q => ?_, fun q => ?_⟩⟩
    · exact hs h1 (l2 q.2 _ q.1)
    · exact hs h1 (l3 q.2 _ q.1)
  · have hb := b3 (bsk T te - 1) (by omega) (by omega)
    have nb := isB_i.mp hb
    have nL : ¬ isL (T.1 (bsk T te - 1)) = true := fun q => by have := isL_i.mp q; omega
    have nD : ¬ isD (T.1 (bsk T te - 1)) = true := fun q => by have := isD_i.mp q; omega
    refine ⟨⟨fun q => by omega, fun q => ?_⟩, fun h1 _ => ⟨fun q => nL q.2, fun q => nD q.2⟩⟩
    rcases q.2 with z | z
    · exact absurd z nL
    · exact absurd z nD
theorem LD_x {c : Int} : ¬ (isL c = true ∧ isD c = true) := fun q => by have a := isL_i.mp q.1; have b := isD_i.mp q.2; omega
theorem hA_L : ∀ c, isL c = true → (isL c = true ∨ isD c = true) ∧ (isL c = true → ∀ d, isL d = true → isL d = true) ∧ (isD c = true → ∀ d, isD d = true → isL d = true) := fun c h => ⟨Or.inl h, fun _ _ q => q, fun q => absurd ⟨h, q⟩ LD_x⟩
theorem hA_D : ∀ c, isD c = true → (isL c = true ∨ isD c = true) ∧ (isL c = true → ∀ d, isL d = true → isD d = true) ∧ (isD c = true → ∀ d, isD d = true → isD d = true) := fun c h => ⟨Or.inr h, fun q => absurd ⟨q, h⟩ LD_x, fun _ _ q => q⟩
/-- behind a sign at p -/
theorem nx_sign (hp : p < T.2) (hL : ¬ isL (T.1 p) = true) (hD : ¬ isD (T.1 p) = true) {e : Int} (he : e ≤ (p : Int)) : nxT T p = bsk T (p + 1) ∧ (e = ((nxT T p : Nat) : Int) ↔ nxT T p ≠ 0 ∧ (isL (T.1 (nxT T p - 1)) = true ∨ isD (T.1 (nxT T p - 1)) = true)) ∧ bdy T (nxT T p) := by
  have te : teT T p = p + 1 := by unfold teT; rw [if_neg (by omega), if_neg hL, if_neg hD]
  have en : nxT T p = bsk T (p + 1) := by unfold nxT; rw [te]
  rw [en]
  obtain ⟨b1, b2, b3, b4⟩ := bsk_spec (T := T) (p := p + 1) (by omega)
  have nLD : ¬ isL (T.1 (bsk T (p + 1) - 1)) = true ∧ ¬ isD (T.1 (bsk T (p + 1) - 1)) = true := by
    by_cases e : bsk T (p + 1) = p + 1
    · rw [e, show p + 1 - 1 = p by omega]; exact ⟨hL, hD⟩
    · have hb := b3 (bsk T (p + 1) - 1) (by omega) (by omega)
      have nb := isB_i.mp hb
      exact ⟨fun q => by have := isL_i.mp q; omega, fun q => by have := isD_i.mp q; omega⟩
  refine ⟨rfl, ⟨fun q => by omega, fun q => ?_⟩, fun h1 _ => ⟨fun q => nLD.1 q.2, fun q => nLD.2 q.2⟩⟩
  rcases q.2 with z | z
  · exact absurd z nLD.1
  · exact absurd z nLD.2
/-- a word's cells -/
def wdA (V : mV) (a : Nat) (l : List Int) : Prop := ∀ j, j < l.length → gA V a j = l.getD j 0 + 96
theorem ext_gD : ∀ {l r : List Int}, l.length = r.length → (∀ j, j < l.length → l.getD j 0 = r.getD j 0) → l = r
  | [], [], _, _ => rfl
  | [], b :: r, h, _ => by cases h
  | a :: l, [], h, _ => by cases h
  | a :: l, b :: r, h, e => by
    have e0 : a = b := e 0 (Nat.succ_pos _)
    rw [e0, ext_gD (l := l) (r := r) (by simpa using h) (fun j hj => e (j + 1) (Nat.succ_lt_succ hj))]
theorem wl_ok : ∀ w : Fin 33, (wl.getD w.val []).length ≤ 6 ∧ 1 ≤ (wl.getD w.val []).length ∧ ∀ a ∈ wl.getD w.val [], 1 ≤ a ∧ a ≤ 26 := by decide +kernel
theorem gD_mem {l : List Int} {j : Nat} (h : j < l.length) : l.getD j 0 ∈ l := by
  rw [List.getD_eq_getElem?_getD, List.getElem?_eq_getElem h]
  exact List.getElem_mem h
/-- is a word here -/
theorem r_isH (hT : tOk T) {a w : Nat} (hw : w < 33) (hq : qG G a = (wl.getD w []).length) (hc : wdA V a (wl.getD w [])) (h : rA V m T p) (h0 : gI V m 5 = 0) : ∃ V', F_X10_isHere G m a V = some (V', if nmT T p = (w : Int) then 1 else 0) ∧ rLk m V V' ∧ rA V' m T p ∧ gI V' m 2 = (p : Int) ∧ gI V' m 5 = 0 ∧ gI V' m 4 = gI V m 4 ∧ F_X10_look G m V = some (V', lkc T p) := by
  have hn := hT.1
  have pn := rA_le h
  obtain ⟨V1, e1, k1, r1, a2, a5, a4⟩ := r_look (G := G) hT h
  obtain ⟨lr, l1, l2⟩ := lkc_rg (p := p) hT
  obtain ⟨w6, w1, wr⟩ := wl_ok ⟨w, hw⟩
  have w6' : (wl.getD w []).length ≤ 6 := w6
  have wr' : ∀ b ∈ wl.getD w [], 1 ≤ b ∧ b ≤ 26 := wr
  refine ⟨V1, ?_, k1, r1, a2, a5.trans h0, a4, e1⟩
  have r4 := r1.2.2.2.1
  have r5 := r1.2.2.2.2.1
  have r6 := r1.2.2.2.2.2
  have r3 := r1.2.1
  unfold F_X10_isHere
  refine E_gd (by rw [h0]; decide) (E_if (fun _ => E_bd e1 (E_bd (r_isL lr) ?_)) (fun q => absurd h0 q))
  by_cases hl : isL (lkc T p) = true
  · rw [if_pos hl]
    have pl : p < T.2 := by
      by_cases z : p < T.2
      · exact z
      · unfold lkc at hl; rw [if_neg z] at hl; exact absurd hl (by decide)
    have hl' : isL (T.1 p) = true := by unfold lkc at hl; rw [if_pos pl] at hl; exact hl
    refine E_gd (by decide) (E_if (fun q => absurd q (by decide)) (fun _ => E_gd (by rw [a2]; exact ⟨by omega, by omega⟩) (E_gd ⟨by omega, by omega⟩ ?_)))
    by_cases he : gI V1 m 2 = gI V1 m 4
    · rw [if_pos he]
      have hp := r5.mp (by rw [← he]; exact a2)
      have hD : isD (T.1 (p - 1)) = true := by
        rcases hp.2 with z | z
        · exact absurd ⟨hl', z⟩ (r6 pl hp.1).1
        · exact z
      have k4 : kdT T p = 4 := by
        unfold kdT
        rw [if_neg (by omega), if_pos hl', if_pos ⟨hp.1, hD⟩]
      rw [nm_n (by omega), if_neg (by omega)]
    rw [if_neg he]
    have k0 : kdT T p = 0 := by
      unfold kdT
      rw [if_neg (by omega), if_pos hl', if_neg]
      rintro ⟨z1, z2⟩
      exact he (by rw [a2, r5.mpr ⟨z1, Or.inr z2⟩])
    have te := te_0 pl hl'
    have sp := ew_spec (A := isL) (T := T) (p := p) (by omega)
    have hln : lnT T p = ew isL T p - p := by unfold lnT; rw [te]
    have lp1 := E_for (B := fun (s : Int) V => B_X10_isHere_35 G m a s V) (t := 1) (by decide) (fun j => ((p + j : Nat) : Int)) (fun _ => V1) (ew isL T p - p) (fun j hj => by
      have hL := run_at (A := isL) (T := T) (p := p) (by omega) hj
      have hb := hT.2 (p + j) (by omega)
      show B_X10_isHere_35 G m a ((p + j : Nat) : Int) V1 = some (V1, 0, ((p + (j + 1) : Nat) : Int))
      unfold B_X10_isHere_35
      rw [r3, Int.toNat_natCast, r1.1 (p + j) (by omega)]
      refine E_gd ⟨by omega, by omega⟩ (E_gd ⟨by omega, by omega⟩ (E_if (fun q => by omega) (fun _ => E_gd ⟨by omega, by omega, by omega⟩ (E_bd (r_isL ⟨by omega, by omega⟩) ?_))))
      rw [if_pos hL]
      exact E_gd (by decide) (E_if (fun q => absurd q (by decide)) (fun _ => E_lt (E_so rfl (Prod.ext rfl (by show ((p + j : Nat) : Int) + 1 = _; omega)))))) (by
      show B_X10_isHere_35 G m a ((p + (ew isL T p - p) : Nat) : Int) V1 = _
      rw [show p + (ew isL T p - p) = ew isL T p by omega]
      unfold B_X10_isHere_35
      rw [r3]
      refine E_gd ⟨by omega, by omega⟩ (E_gd ⟨by omega, by omega⟩ (E_if (fun _ => rfl) (fun q => ?_)))
      have hb := hT.2 (ew isL T p) (by omega)
      rw [Int.toNat_natCast, r1.1 (ew isL T p) (by omega)]
      refine E_gd ⟨by omega, by omega, by omega⟩ (E_bd (r_isL ⟨by omega, by omega⟩) ?_)
      rw [if_neg (sp.2.2.2 (by omega))]
      exact E_gd (by decide) (E_if (fun _ => rfl) (fun q => absurd rfl q))) FU (by unfold FU; omega)
    rw [show p + (ew isL T p - p) = ew isL T p by omega] at lp1
    refine E_lt ?_
    rw [a2]
    refine E_bd lp1 ?_
    show F_X10_isHere_J61 G m a ((ew isL T p : Nat) : Int) V1 = _
    unfold F_X10_isHere_J61
    rw [a2, hq]
    refine E_gd ⟨by omega, by omega⟩ (E_gd ⟨by omega, by omega⟩ (E_if (fun q => ?_) (fun q => E_so rfl ?_)))
    · have hL : lnT T p = (wl.getD w []).length := by omega
      have main : Wp (lp (fun (s : Int) V => B_X10_isHere_76 G m a s V) FU 0 V1) (fun U q => U = V1 ∧ ((q.1 = 1 ∧ ∃ j, j < lnT T p ∧ T.1 (p + j) ≠ (wl.getD w []).getD j 0 + 96) ∨ (q.1 = 2 ∧ ∀ j, j < lnT T p → T.1 (p + j) = (wl.getD w []).getD j 0 + 96))) := by
        refine W_lp (fun n (s : Int) U => U = V1 ∧ ∃ j : Nat, s = (j : Int) ∧ j + n = lnT T p ∧ ∀ i, i < j → T.1 (p + i) = (wl.getD w []).getD i 0 + 96) ?_ FU (lnT T p) 0 V1 ⟨rfl, 0, rfl, by omega, fun i hi => by omega⟩ (by unfold FU; omega)
        rintro n s U ⟨rfl, j, rfl, hj, hall⟩
        show Wp (B_X10_isHere_76 G m a (j : Int) U) _
        unfold B_X10_isHere_76
        rw [hq, a2]
        refine W_gd ⟨by omega, by omega⟩ (W_gd ⟨by omega, by omega⟩ (W_if (fun z => W_so (Or.inr ⟨(by decide : (2 : Nat) ≠ 0), rfl, Or.inr ⟨rfl, fun i hi => hall i (by omega)⟩⟩)) (fun z => ?_)))
        have hb := hT.2 (p + j) (by omega)
        have hcj : gA U a j = (wl.getD w []).getD j 0 + 96 := by rw [k1.1]; exact hc j (by omega)
        have hm := wr' _ (gD_mem (l := wl.getD w []) (j := j) (by omega))
        rw [show ((p : Int) + (j : Int)).toNat = p + j by omega, Int.toNat_natCast, r1.1 (p + j) (by omega), hcj]
        refine W_gd ⟨by omega, by omega, by omega⟩ (W_gd ⟨by omega, by omega, by omega⟩ (W_gd ⟨by omega, by omega⟩ (W_gd ⟨by omega, by omega⟩ (W_if (fun y => W_lt (W_so (Or.inl ⟨rfl, n - 1, by omega, rfl, j + 1, (by show (j : Int) + 1 = _; omega), by omega, fun i hi => ?_⟩))) (fun y => W_so (Or.inr ⟨Nat.one_ne_zero, rfl, Or.inl ⟨rfl, j, by omega, y⟩⟩))))))
        by_cases ij : i = j
        · rw [ij]; exact y
        · exact hall i (by omega)
      obtain ⟨U, q2, e2, rfl, hh⟩ := main
      refine E_bd e2 ?_
      rcases hh with ⟨t1, j, hj, hne⟩ | ⟨t2, hall⟩
      · rw [if_pos t1]
        refine E_so rfl ?_
        rw [if_neg (fun z => ?_)]
        have := ((nm_is k0 hw).mp z).2
        have g := ltr_get (T := T) (p := p) (lnT T p) j hj
        rw [this] at g
        exact hne (by omega)
      · rw [if_neg (by omega)]
        refine E_so rfl ?_
        rw [if_pos ((nm_is k0 hw).mpr ⟨by omega, ext_gD (by rw [ltr_len]; exact hL) (fun j hj => ?_)⟩)]
        rw [ltr_len] at hj
        rw [ltr_get _ j hj, hall j hj]
        omega
    · rw [if_neg (fun z => q ?_)]
      have := ((nm_is k0 hw).mp z).2
      have g := congrArg List.length this
      rw [ltr_len] at g
      omega
  · rw [if_neg hl]
    have k0 : kdT T p ≠ 0 := fun z => by
      obtain ⟨z1, z2, -⟩ := kd_0 z
      apply hl
      unfold lkc
      rw [if_pos z1]; exact z2
    have ew0 : (if nmT T p = (w : Int) then (1 : Int) else 0) = 0 := by rw [nm_n k0, if_neg (by omega)]
    rw [ew0]
    exact E_gd (by decide) (E_if (fun _ => rfl) (fun q => absurd rfl q))
theorem r_isH1 (h0 : gI V m 5 ≠ 0) (hr : rg (gI V m 5)) {a : Nat} : F_X10_isHere G m a V = some (V, 0) := by
  unfold F_X10_isHere
  exact E_gd hr (E_if (fun q => absurd q h0) (fun _ => rfl))
end

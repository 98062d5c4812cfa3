/-! who covers whom, how far one knows a life: both sides -/
theorem thn_cg {x : (Int × Int) ⊕ Nat} {f g : Nat → (Int × Int) ⊕ Nat} (h : ∀ q, x = .inr q → f q = g q) : thn x f = thn x g := by
  cases x with
  | inl e => rfl
  | inr q => exact h q rfl
def aPi (C : mCy) (T : mT2) (p : Nat) : Int := fl (cp C) (ltr T p (lnT T p)) 0 (cn C).toNat
abbrev nKp (C : mCy) (T : mT2) (p : Nat) : (Int × Int) ⊕ Nat := nKn (cp C) (cn C) T p
def aCo1 (C : mCy) (T : mT2) (p : Nat) : (Int × Int) ⊕ Nat := thn (nKp C T p) (fun q => if cc C (aPi C T p) = -1 then .inr q else .inl (3, (p : Int)))
def aCo (C : mCy) (T : mT2) (p : Nat) : (Int × Int) ⊕ Nat := thn (thn (aCo1 C T p) (nKp C T)) (fun r => if aPi C T (nxT T p) ≠ aPi C T p ∧ cb C (aPi C T (nxT T p)) = -1 then .inr r else .inl (3, ((nxT T p : Nat) : Int)))
def addC (C : mCy) (a b : Int) : mCy := (C.1, (cw C, ch C, uf (cc C) a b, uf (cb C) b a), ck C, cd C, co C, cp C, cq C)
def aKn2 (C : mCy) (T : mT2) (p : Nat) : (Int × Int) ⊕ Nat := thn (thn (nKp C T p) (nKp C T)) (fun r => if aPi C T (nxT T p) = aPi C T p then .inl (3, ((nxT T p : Nat) : Int)) else .inr r)
def aKn (C : mCy) (T : mT2) (p : Nat) : (Int × Int) ⊕ Nat := thn (aKn2 C T p) (nNu T 99)
def addK (C : mCy) (a b w : Int) : mCy := (C.1, C.2.1, ug (ck C) a b w, cd C, co C, cp C, cq C)
theorem ug_o {f : Int → Int → Int} {a b x i j : Int} (h : ¬ (i = a ∧ j = b)) : ug f a b x i j = f i j := by unfold ug; rw [if_neg h]
theorem ug_e {f : Int → Int → Int} {a b x : Int} : ug f a b x a b = x := by unfold ug; rw [if_pos ⟨rfl, rfl⟩]
theorem okC_C {C : mCy} {a b : Int} (h : okC C) (ha : 0 ≤ a ∧ a < cn C) (hb : 0 ≤ b ∧ b < cn C) (h1 : cc C a = -1) (h2 : cb C b = -1) : okC (addC C a b) := by
  obtain ⟨a1, a2, a3, a5, a6, a7, a8, a9⟩ := h
  refine ⟨a1, a2, a3, a5, a6, fun p p0 p1 => ?_, fun x y x0 x1 y0 y1 => ?_, a9⟩
  · have p1' : p < cn C := p1
    show (-1 ≤ uf (cc C) a b p ∧ uf (cc C) a b p < cn C) ∧ (-1 ≤ uf (cb C) b a p ∧ uf (cb C) b a p < cn C)
    have := a7 p p0 p1'
    refine ⟨?_, ?_⟩
    · by_cases e : p = a
      · rw [e, uf_e]; omega
      · rw [uf_o e]; exact this.1
    · by_cases e : p = b
      · rw [e, uf_e]; omega
      · rw [uf_o e]; exact this.2
  · have x1' : x < cn C := x1
    have y1' : y < cn C := y1
    show uf (cc C) a b x = y ↔ uf (cb C) b a y = x
    by_cases e : x = a
    · rw [e, uf_e]
      by_cases e2 : y = b
      · rw [e2, uf_e]; exact ⟨fun _ => rfl, fun _ => rfl⟩
      · rw [uf_o e2]
        have := a8 a y ha.1 ha.2 y0 y1'
        omega
    · rw [uf_o e]
      by_cases e2 : y = b
      · rw [e2, uf_e]
        have := a8 x b x0 x1' hb.1 hb.2
        omega
      · rw [uf_o e2]; exact a8 x y x0 x1' y0 y1'
theorem okC_K {C : mCy} {a b w : Int} (h : okC C) (hab : b ≠ a) (hw : 0 ≤ w ∧ w ≤ 99) : okC (addK C a b w) := by
  obtain ⟨a1, a2, a3, a5, a6, a7, a8, a9, a10, a11⟩ := h
  refine ⟨a1, a2, a3, a5, a6, a7, a8, fun x y x0 x1 y0 y1 => ?_, fun x x0 x1 => ?_, a11⟩
  · show 0 ≤ ug (ck C) a b w x y ∧ ug (ck C) a b w x y ≤ 99
    by_cases e : x = a ∧ y = b
    · rw [e.1, e.2, ug_e]; exact hw
    · rw [ug_o e]; exact a9 x y x0 x1 y0 y1
  · show ug (ck C) a b w x x = 99
    rw [ug_o (by omega)]; exact a10 x x0 x1
theorem nKp_i {C : mCy} {T : mT2} {p q : Nat} (ho : okC C) (h : nKp C T p = .inr q) : q = nxT T p ∧ 0 ≤ aPi C T p ∧ aPi C T p < cn C := by
  obtain ⟨a, b, c⟩ := nKn_i h
  have := ho.1
  exact ⟨a, b, by unfold aPi; omega⟩
theorem aCo_i {C : mCy} {T : mT2} {p q : Nat} (ho : okC C) (h : aCo C T p = .inr q) : aCo1 C T p = .inr (nxT T p) ∧ nKp C T p = .inr (nxT T p) ∧ nKp C T (nxT T p) = .inr q ∧ cc C (aPi C T p) = -1 ∧ cb C (aPi C T (nxT T p)) = -1 ∧ aPi C T (nxT T p) ≠ aPi C T p := by
  unfold aCo at h
  obtain ⟨r, h1, h2⟩ := thn_r h
  obtain ⟨p1, h3, h4⟩ := thn_r h1
  have h3' := h3
  unfold aCo1 at h3'
  obtain ⟨p2, h5, h6⟩ := thn_r h3'
  have i5 := nKp_i ho h5
  by_cases c1 : cc C (aPi C T p) = -1
  · rw [if_pos c1] at h6
    cases h6
    by_cases c2 : aPi C T (nxT T p) ≠ aPi C T p ∧ cb C (aPi C T (nxT T p)) = -1
    · rw [if_pos c2] at h2
      cases h2
      have e := i5.1
      rw [e] at h3 h4 h5
      exact ⟨h3, h5, h4, c1, c2.2, c2.1⟩
    · rw [if_neg c2] at h2; cases h2
  · rw [if_neg c1] at h6; cases h6
theorem aKn_i {C : mCy} {T : mT2} {p q : Nat} (ho : okC C) (h : aKn C T p = .inr q) : nKp C T p = .inr (nxT T p) ∧ nKp C T (nxT T p) = .inr (nxT T (nxT T p)) ∧ aPi C T (nxT T p) ≠ aPi C T p ∧ aKn2 C T p = .inr (nxT T (nxT T p)) ∧ nNu T 99 (nxT T (nxT T p)) = .inr q := by
  unfold aKn at h
  obtain ⟨r, h1, h2⟩ := thn_r h
  have h1' := h1
  unfold aKn2 at h1'
  obtain ⟨p1, h3, h4⟩ := thn_r h1'
  obtain ⟨p2, h5, h6⟩ := thn_r h3
  have i5 := nKp_i ho h5
  have e := i5.1
  subst e
  have i6 := nKp_i ho h6
  have e := i6.1
  subst e
  by_cases c2 : aPi C T (nxT T p) = aPi C T p
  · rw [if_pos c2] at h4; cases h4
  · rw [if_neg c2] at h4
    cases h4
    exact ⟨h5, h6, c2, h1, h2⟩
section
variable {G : mG} {V V' : mV} {c r m : Nat} {C : mCy} {T : mT2}
/-- a fault, if it is one (class) -/
theorem S_if {x : (Int × Int) ⊕ Nat} (h : rs6 V r T x) {k w : Int} (hk : rg k ∧ k ≠ 0) (c : Prop) [Decidable c] : ∃ V', (c → V' = V) ∧ (¬ c → F_X6_fail G r k w V = some (V', 0)) ∧ f6 r V V' ∧ rs6 V' r T (thn x (fun q => if c then .inr q else .inl (k, w))) := by
  by_cases z : c
  · refine ⟨V, fun _ => rfl, fun y => absurd z y, f6_refl, ?_⟩
    have : thn x (fun q => if c then .inr q else .inl (k, w)) = x := by
      cases x with
      | inl e => rfl
      | inr q => exact if_pos z
    rw [this]; exact h
  · obtain ⟨V1, e1, k1, r1⟩ := S_fail (G := G) h (w := w) hk
    refine ⟨V1, fun y => absurd y z, fun _ => e1, k1, ?_⟩
    have : thn x (fun q => if c then .inr q else .inl (k, w)) = thn x (fun _ => .inl (k, w)) := thn_cg (fun q _ => if_neg z)
    rw [this]; exact r1
theorem R_if {x : (Int × Int) ⊕ Nat} (h : rs10 V m T x) {k w : Int} (hk : rg k ∧ k ≠ 0) (c : Prop) [Decidable c] : ∃ V', (c → V' = V) ∧ (¬ c → F_X10_fail G m k w V = some (V', 0)) ∧ rLk m V V' ∧ rs10 V' m T (thn x (fun q => if c then .inr q else .inl (k, w))) := by
  by_cases z : c
  · refine ⟨V, fun _ => rfl, fun y => absurd z y, rLk_refl, ?_⟩
    have : thn x (fun q => if c then .inr q else .inl (k, w)) = x := by
      cases x with
      | inl e => rfl
      | inr q => exact if_pos z
    rw [this]; exact h
  · obtain ⟨V1, e1, k1, r1⟩ := R_fail (G := G) h (w := w) hk
    refine ⟨V1, fun y => absurd y z, fun _ => e1, k1, ?_⟩
    have : thn x (fun q => if c then .inr q else .inl (k, w)) = thn x (fun _ => .inl (k, w)) := thn_cg (fun q _ => if_neg z)
    rw [this]; exact r1
theorem rs6.fine {x : (Int × Int) ⊕ Nat} (h : rs6 V r T x) : F_X6_fine G r V = some (V, match x with | .inl _ => 0 | .inr _ => 1) := S_fine h
theorem rw_any {cap : Nat} {row : Nat} {n : Int} {f : Int → Int} (hr : is7 G row) (hq : qG G (row + 1) = cap) (h : rw' V row n f) (hn : 0 ≤ n ∧ n ≤ (cap : Int)) {k : Int} (hk : rg k) : F_X7_get G row k V = some (V, if 0 ≤ k ∧ k < n then f k else -1) := by
  by_cases c : 0 ≤ k ∧ k < n
  · rw [if_pos c]; exact rw_get hr hq h hn.2 c
  · rw [if_neg c]; exact rw_get_out hr hq h hn hk (by omega)
theorem c_bC (hc : is1 G c) (h : bC V c C) {a b : Int} (ha : 0 ≤ a ∧ a < cn C) (hb : 0 ≤ b ∧ b < cn C) (h1 : cc C a = -1) (h2 : cb C b = -1) : ∃ V', F_X7_put G (c + 5) a b V = some (sA V (c + 6) a.toNat b, 0) ∧ F_X7_put G (c + 7) b a (sA V (c + 6) a.toNat b) = some (V', 0) ∧ fr (fun i => c + 6 ≤ i ∧ i ≤ c + 8) V V' ∧ bC V' c (addC C a b) := by
  obtain ⟨ho, hN, ⟨hF, ⟨n1, n2, n3, n4, n5⟩, hT, hD, hU⟩, hz⟩ := h
  have hn := ho.1
  obtain ⟨e1, w1⟩ := rw_put (k := a) (v := b) (s1_2s hc) (s1_2c hc) n3 (by omega) ha
  have k1 : fr (fun i => c + 6 ≤ i ∧ i ≤ c + 8) V (sA V (c + 6) a.toNat b) := fr_sA (by omega)
  obtain ⟨e2, w2⟩ := rw_put (V := sA V (c + 6) a.toNat b) (k := b) (v := a) (s1_3s hc) (s1_3c hc) (n4.fr (fr_sA (S := fun i => i = c + 6) rfl) (by omega) (by omega)) (by omega) hb
  have k2 : fr (fun i => i = c + 8) (sA V (c + 6) a.toNat b) (sA (sA V (c + 6) a.toNat b) (c + 7 + 1) b.toNat a) := fr_sA rfl
  have kk := k1.trans (k2.mono (S' := fun i => c + 6 ≤ i ∧ i ≤ c + 8) (fun i q => by omega))
  refine ⟨_, e1, e2, kk, okC_C ho ha hb h1 h2, hN, ⟨?_, ⟨n1.fr kk (by omega) (by omega), n2.fr kk (by omega) (by omega), w1.fr k2 (by omega) (by omega), w2, n5.fr kk (by omega) (by omega)⟩, ⟨hT.1.fr kk (by omega) (by omega), hT.2.fr kk (by omega) (by omega)⟩, ⟨hD.1.fr kk (by omega) (by omega), hD.2.1.fr kk (by omega) (by omega), hD.2.2.fr kk (by omega) (by omega)⟩, ?_⟩, fun x y x0 x1 y0 y1 z => ?_⟩
  · obtain ⟨f1, f2, f3, f4⟩ := hF
    exact ⟨f1.fr kk (by omega) (by omega) (by omega), f2.fr kk (by omega) (by omega) (by omega), f3.fr kk (by omega) (by omega) (by omega), f4.fr kk (by omega) (by omega) (by omega)⟩
  · rw [kk.I (by omega)]; exact hU
  · rw [rc_fr kk (by omega)]; exact hz x y x0 x1 y0 y1 z
theorem c_bK (hc : is1 G c) (h : bC V c C) {a b w : Int} (ha : 0 ≤ a ∧ a < cn C) (hb : 0 ≤ b ∧ b < cn C) (hab : b ≠ a) (hw : 0 ≤ w ∧ w ≤ 99) : ∃ V', F_X7_put G (c + 9) (a * 10 + b) w V = some (V', 0) ∧ fr (fun i => i = c + 10) V V' ∧ bC V' c (addK C a b w) := by
  obtain ⟨ho, hN, ⟨hF, ⟨n1, n2, n3, n4, n5⟩, hT, hD, hU⟩, hz⟩ := h
  have hn := ho.1
  have kk : fr (fun i => i = c + 10) V (sA V (c + 10) (a * 10 + b).toNat w) := fr_sA rfl
  have hcell : ∀ x y, 0 ≤ x → x < 10 → 0 ≤ y → y < 10 → rc (sA V (c + 10) (a * 10 + b).toNat w) (c + 9) (x * 10 + y) = if x = a ∧ y = b then w else rc V (c + 9) (x * 10 + y) := by
    intro x y x0 x1 y0 y1
    show gA (sA V (c + 10) (a * 10 + b).toNat w) (c + 10) (x * 10 + y).toNat = _
    rw [gA_sA]
    by_cases e : x = a ∧ y = b
    · rw [if_pos ⟨rfl, by rw [e.1, e.2]⟩, if_pos e]
    · rw [if_neg (by rintro ⟨-, z⟩; exact e ⟨by omega, by omega⟩), if_neg e]; rfl
  refine ⟨_, ?_, kk, okC_K ho hab hw, hN, ⟨?_, ⟨n1.fr kk (by omega) (by omega), n2.fr kk (by omega) (by omega), n3.fr kk (by omega) (by omega), n4.fr kk (by omega) (by omega), ⟨n5.1, fun x y x0 x1 y0 y1 => ?_⟩⟩, ⟨hT.1.fr kk (by omega) (by omega), hT.2.fr kk (by omega) (by omega)⟩, ⟨hD.1.fr kk (by omega) (by omega), hD.2.1.fr kk (by omega) (by omega), hD.2.2.fr kk (by omega) (by omega)⟩, ?_⟩, fun x y x0 x1 y0 y1 z => ?_⟩
  · rw [p7_put (s1_4s hc) (rw_rz (s1_4c hc) n5.1 ⟨by decide, by decide⟩) ⟨by omega, by omega⟩]
    unfold rput
    rw [if_pos ⟨by omega, by rw [n5.1]; omega⟩]
  · obtain ⟨f1, f2, f3, f4⟩ := hF
    exact ⟨f1.fr kk (by omega) (by omega) (by omega), f2.fr kk (by omega) (by omega) (by omega), f3.fr kk (by omega) (by omega) (by omega), f4.fr kk (by omega) (by omega) (by omega)⟩
  · have x1' : x < cn C := x1
    have y1' : y < cn C := y1
    rw [hcell x y x0 (by omega) y0 (by omega)]
    show _ = ug (ck C) a b w x y
    unfold ug
    by_cases e : x = a ∧ y = b
    · rw [if_pos e, if_pos e]
    · rw [if_neg e, if_neg e]; exact n5.2 x y x0 x1' y0 y1'
  · exact hU
  · have z' : cn C ≤ x ∨ cn C ≤ y := z
    rw [hcell x y x0 x1 y0 y1, if_neg (by omega)]
    exact hz x y x0 x1 y0 y1 z'
/-- the class reads who covers whom -/
theorem c_cover (hG : is6 G r) (hc : is1 G c) (hT : tOk T) (hd : r + 12 < c) (h : bC V c C) {p : Nat} (hs : rs6 V r T (.inr p)) :
    ∃ V', F_X6_readCover G r c V = some (V', 0) ∧ fr (fun i => i = r ∨ (c + 6 ≤ i ∧ i ≤ c + 8)) V V' ∧ gI V' r 10 = gI V r 10 ∧ rs6 V' r T (aCo C T (nxT T p)) ∧ (∀ e, aCo C T (nxT T p) = .inl e → bC V' c C) ∧ (∀ q, aCo C T (nxT T p) = .inr q → bC V' c (addC C (aPi C T (nxT T p)) (aPi C T (nxT T (nxT T p))))) := by
  have hn := h.1.1
  obtain ⟨V1, e1, k1, r1⟩ := S_take hG hs
  have r1' : rs6 V1 r T (.inr (nxT T p)) := r1
  have h1 := h.fr k1.1 (fun i a b => by omega)
  obtain ⟨w, e2, c2⟩ := S_here hG r1'
  obtain ⟨V2, v2, e3, k2, r2, b2, c3⟩ := S_kp hG hc hT hd h1 r1'
  have h2 := h1.fr k2.1 (fun i a b => by omega)
  have g1 := rw_any (k := v2) (s1_2s hc) (s1_2c hc) h2.2.2.1.2.1.2.2.1 ⟨by omega, by omega⟩ ⟨by omega, by omega⟩
  obtain ⟨x1, hx1⟩ : ∃ x, x = if 0 ≤ v2 ∧ v2 < cn C then cc C v2 else -1 := ⟨_, rfl⟩
  rw [← hx1] at g1
  have rx1 : rg x1 := by
    rw [hx1]
    by_cases z : 0 ≤ v2 ∧ v2 < cn C
    · rw [if_pos z]; have := h.1.2.2.2.2.2.1 v2 z.1 z.2; exact ⟨by omega, by omega⟩
    · rw [if_neg z]; decide
  obtain ⟨V3, a3, b3, k3, r3⟩ := S_if (G := G) r2 (k := 3) (w := (w : Int)) ⟨by decide, by decide⟩ (x1 = -1)
  have ew : w = nxT T p := c2 _ rfl
  have eA1 : thn (thn (.inr (nxT T p)) (nKn (cp C) (cn C) T)) (fun q => if x1 = -1 then .inr q else .inl (3, (w : Int))) = aCo1 C T (nxT T p) := by
    unfold aCo1
    refine thn_cg (fun q hq => ?_)
    obtain ⟨z1, z2⟩ := c3 _ _ rfl hq
    have i := nKp_i h.1 hq
    have e : x1 = cc C (aPi C T (nxT T p)) := by rw [hx1, z1]; exact if_pos i.2
    rw [e, ew]
  rw [eA1] at r3
  have h3 := h2.fr k3.1 (fun i a b => by omega)
  obtain ⟨w', e4, c4⟩ := S_here hG r3
  obtain ⟨V4, v4, e5, k4, r4, b4, c5⟩ := S_kp hG hc hT hd h3 r3
  have h4 := h3.fr k4.1 (fun i a b => by omega)
  have g2 := rw_any (k := v4) (s1_3s hc) (s1_3c hc) h4.2.2.1.2.1.2.2.2.1 ⟨by omega, by omega⟩ ⟨by omega, by omega⟩
  obtain ⟨x2, hx2⟩ : ∃ x, x = if 0 ≤ v4 ∧ v4 < cn C then cb C v4 else -1 := ⟨_, rfl⟩
  rw [← hx2] at g2
  have rx2 : rg x2 := by
    rw [hx2]
    by_cases z : 0 ≤ v4 ∧ v4 < cn C
    · rw [if_pos z]; have := h.1.2.2.2.2.2.1 v4 z.1 z.2; exact ⟨by omega, by omega⟩
    · rw [if_neg z]; decide
  obtain ⟨V5, a5, b5, k5, r5⟩ := S_if (G := G) r4 (k := 3) (w := (w' : Int)) ⟨by decide, by decide⟩ (v4 ≠ v2 ∧ x2 = -1)
  have eA : thn (thn (aCo1 C T (nxT T p)) (nKn (cp C) (cn C) T)) (fun q => if v4 ≠ v2 ∧ x2 = -1 then .inr q else .inl (3, (w' : Int))) = aCo C T (nxT T p) := by
    unfold aCo
    refine thn_cg (fun q hq => ?_)
    obtain ⟨p1, h5, h6⟩ := thn_r hq
    have h5' := h5
    unfold aCo1 at h5'
    obtain ⟨p2, h7, h8⟩ := thn_r h5'
    have i7 := nKp_i h.1 h7
    have ep : p1 = nxT T (nxT T p) := by
      split at h8
      · cases h8; exact i7.1
      · cases h8
    rw [ep] at h6
    have i6 := nKp_i h.1 h6
    obtain ⟨z1, z2⟩ := c3 _ _ rfl h7
    obtain ⟨z3, z4⟩ := c5 _ _ h5 (by rw [ep]; exact h6)
    have e4' : w' = nxT T (nxT T p) := (c4 _ h5).trans ep
    rw [ep] at z3
    have z3' : v4 = aPi C T (nxT T (nxT T p)) := z3
    have z1' : v2 = aPi C T (nxT T p) := z1
    have e : x2 = cb C (aPi C T (nxT T (nxT T p))) := by rw [hx2, z3']; exact if_pos i6.2
    rw [e, e4', z3', z1']
  rw [eA] at r5
  have kk := (((k1.trans k2).trans k3).trans k4).trans k5
  have h5 := h.fr kk.1 (fun i a b => by omega)
  have fin : ∀ V6, F_X6_readCover_J76 G r c v2 v4 V5 = some (V6, 0) → F_X6_readCover G r c V = some (V6, 0) := by
    intro V6 e
    have j36 : F_X6_readCover_J36 G r c v2 V3 = some (V6, 0) := by
      unfold F_X6_readCover_J36
      refine E_bd e4 (E_bd e5 (E_gd ⟨by omega, by omega⟩ (E_gd ⟨by omega, by omega⟩ (E_if (fun y => ?_) (fun y => E_bd g2 (E_gd rx2 (E_if (fun z => ?_) (fun z => ?_))))))))
      · unfold F_X6_readCover_J70
        exact E_bd (b5 (fun q => q.1 y)) e
      · rw [← a5 ⟨y, z⟩]; exact e
      · unfold F_X6_readCover_J70
        exact E_bd (b5 (fun q => z q.2)) e
    unfold F_X6_readCover
    refine E_bd e1 (E_bd e2 (E_bd e3 (E_bd g1 (E_gd rx1 (E_if (fun y => ?_) (fun y => ?_))))))
    · rw [← a3 y]; exact j36
    · exact E_bd (b3 y) j36
  cases hA : aCo C T (nxT T p) with
  | inl e =>
    rw [hA] at r5
    refine ⟨V5, fin V5 ?_, kk.1.mono (fun i q => Or.inl q), kk.2, r5, fun _ _ => h5, fun q z => by cases z⟩
    unfold F_X6_readCover_J76
    exact E_bd (k6_bad r5.bad.1 r5.bad.2) (E_gd (by decide) (E_if (fun _ => rfl) (fun y => absurd rfl y)))
  | inr q =>
    rw [hA] at r5
    obtain ⟨i0, i1, i2, i3, i4, i5⟩ := aCo_i h.1 hA
    have z1 : v2 = aPi C T (nxT T p) := (c3 _ _ rfl i1).1
    have z2 : v4 = aPi C T (nxT T (nxT T p)) := (c5 _ _ i0 i2).1
    obtain ⟨V6, f1, f2, f3, f4⟩ := c_bC hc h5 (nKp_i h.1 i1).2 (nKp_i h.1 i2).2 i3 i4
    rw [← z1, ← z2] at f1 f2 f4
    refine ⟨V6, fin V6 ?_, (kk.1.mono (fun i q => Or.inl q)).trans (f3.mono (fun i q => Or.inr q)), by rw [f3.I (by omega)]; exact kk.2, rs6.w r5 f3 (fun i a b => by omega), (fun e y => by cases y), fun q' _ => by rw [← z1, ← z2]; exact f4⟩
    unfold F_X6_readCover_J76
    exact E_bd (k6_fine r5.2) (E_gd (by decide) (E_if (fun y => absurd y (by decide)) (fun _ => E_bd f1 (E_bd f2 rfl))))
/-- the class reads how far one knows a life -/
theorem c_knows (hG : is6 G r) (hc : is1 G c) (hT : tOk T) (hd : r + 12 < c) (h : bC V c C) {p : Nat} (hs : rs6 V r T (.inr p)) :
    ∃ V', F_X6_readKnowing G r c V = some (V', 0) ∧ fr (fun i => i = r ∨ i = c + 10) V V' ∧ gI V' r 10 = gI V r 10 ∧ rs6 V' r T (aKn C T (nxT T p)) ∧ (∀ e, aKn C T (nxT T p) = .inl e → bC V' c C) ∧ (∀ q, aKn C T (nxT T p) = .inr q → bC V' c (addK C (aPi C T (nxT T p)) (aPi C T (nxT T (nxT T p))) (vlT T (nxT T (nxT T (nxT T p)))))) := by
  have hn := h.1.1
  obtain ⟨V1, e1, k1, r1⟩ := S_take hG hs
  have r1' : rs6 V1 r T (.inr (nxT T p)) := r1
  have h1 := h.fr k1.1 (fun i a b => by omega)
  obtain ⟨V2, v2, e3, k2, r2, b2, c3⟩ := S_kp hG hc hT hd h1 r1'
  have h2 := h1.fr k2.1 (fun i a b => by omega)
  obtain ⟨w, e4, c4⟩ := S_here hG r2
  obtain ⟨V3, v3, e5, k3, r3, b3, c5⟩ := S_kp hG hc hT hd h2 r2
  have h3 := h2.fr k3.1 (fun i a b => by omega)
  obtain ⟨V4, a4, b4, k4, r4⟩ := S_if (G := G) r3 (k := 3) (w := (w : Int)) ⟨by decide, by decide⟩ (v3 ≠ v2)
  have eA : thn (thn (thn (.inr (nxT T p)) (nKn (cp C) (cn C) T)) (nKn (cp C) (cn C) T)) (fun q => if v3 ≠ v2 then .inr q else .inl (3, (w : Int))) = aKn2 C T (nxT T p) := by
    unfold aKn2
    refine thn_cg (fun q hq => ?_)
    obtain ⟨p1, h5, h6⟩ := thn_r hq
    have i5 := nKp_i h.1 h5
    obtain ⟨z1, z2⟩ := c3 _ _ rfl h5
    obtain ⟨z3, z4⟩ := c5 _ _ h5 h6
    have e4' : w = nxT T (nxT T p) := (c4 _ h5).trans i5.1
    rw [i5.1] at z3
    have z3' : v3 = aPi C T (nxT T (nxT T p)) := z3
    have z1' : v2 = aPi C T (nxT T p) := z1
    rw [e4', z3', z1']
    by_cases z : aPi C T (nxT T (nxT T p)) = aPi C T (nxT T p)
    · rw [if_pos z, if_neg (fun y => y z)]
    · rw [if_neg z, if_pos z]
  rw [eA] at r4
  obtain ⟨V5, v5, e6, k5, r5, b5, c6⟩ := S_nu hG hT r4 (mx := 99) (by decide)
  have r5' : rs6 V5 r T (aKn C T (nxT T p)) := r5
  have kk := (((k1.trans k2).trans k3).trans k4).trans k5
  have h5 := h.fr kk.1 (fun i a b => by omega)
  have fin : ∀ V6, (bd (F_X6_fine G r V5) fun V19 v20 =>
  gd (rg v20) <|
  if v20 = 0 then (some (V19, (0 : Int))) else (bd (F_X7_put G (c + 9) ((v2 * 10) + v3) v5 V19) fun V24 v25 =>
  some (V24, 0))) = some (V6, 0) → F_X6_readKnowing G r c V = some (V6, 0) := by
    intro V6 e
    have j40 : F_X6_readKnowing_J40 G r c v2 v3 V4 = some (V6, 0) := by
      unfold F_X6_readKnowing_J40
      exact E_bd e6 e
    unfold F_X6_readKnowing
    refine E_bd e1 (E_bd e3 (E_bd e4 (E_bd e5 (E_gd ⟨by omega, by omega⟩ (E_gd ⟨by omega, by omega⟩ (E_if (fun y => ?_) (fun y => ?_)))))))
    · exact E_bd (b4 (fun q => q y)) j40
    · rw [← a4 y]; exact j40
  cases hA : aKn C T (nxT T p) with
  | inl e =>
    rw [hA] at r5'
    refine ⟨V5, fin V5 ?_, kk.1.mono (fun i q => Or.inl q), kk.2, r5', fun _ _ => h5, fun q z => by cases z⟩
    exact E_bd (k6_bad r5'.bad.1 r5'.bad.2) (E_gd (by decide) (E_if (fun _ => rfl) (fun y => absurd rfl y)))
  | inr q =>
    rw [hA] at r5'
    obtain ⟨i1, i2, i3, i4, i5⟩ := aKn_i h.1 hA
    have z1 : v2 = aPi C T (nxT T p) := (c3 _ _ rfl i1).1
    have z2 : v3 = aPi C T (nxT T (nxT T p)) := (c5 _ _ i1 i2).1
    have z3 : v5 = vlT T (nxT T (nxT T (nxT T p))) := c6 _ i4
    have i := nNu_i i5
    have v := vl_1r i.1
    obtain ⟨V6, f2, f3, f4⟩ := c_bK hc h5 (nKp_i h.1 i1).2 (nKp_i h.1 i2).2 i3 (w := vlT T (nxT T (nxT T (nxT T p)))) ⟨v.1, i.2.2.1⟩
    rw [← z1, ← z2, ← z3] at f2
    refine ⟨V6, fin V6 ?_, (kk.1.mono (fun i q => Or.inl q)).trans (f3.mono (fun i q => Or.inr q)), by rw [f3.I (by omega)]; exact kk.2, rs6.w r5' f3 (fun i a b => by omega), (fun e y => by cases y), fun q' _ => f4⟩
    exact E_bd (k6_fine r5'.2) (E_gd (by decide) (E_if (fun y => absurd y (by decide)) (fun _ => E_bd f2 rfl)))
end

/-! one thing behind another, both sides -/
def thn (a : (Int × Int) ⊕ Nat) (f : Nat → (Int × Int) ⊕ Nat) : (Int × Int) ⊕ Nat := match a with
  | .inl e => .inl e
  | .inr q => f q
theorem thn_r {a : (Int × Int) ⊕ Nat} {f : Nat → (Int × Int) ⊕ Nat} {q : Nat} (h : thn a f = .inr q) : ∃ p, a = .inr p ∧ f p = .inr q := by
  cases a with
  | inl e => cases h
  | inr p => exact ⟨p, rfl, h⟩
/-- a new name -/
def nNw (C : mCy) (T : mT2) (p : Nat) : (Int × Int) ⊕ Nat := match nNa T p with
  | .inl e => .inl e
  | .inr q => if fl (cp C) (ltr T p (lnT T p)) 0 (cn C).toNat = -1 ∧ fl (cq C) (ltr T p (lnT T p)) 0 (ct C).toNat = -1 then .inr q else .inl (3, (p : Int))
section
variable {G : mG} {V : mV} {r row m c : Nat} {T : mT2} {x : (Int × Int) ⊕ Nat} {n : Int} {f : Int → List Int} {C : mCy}
theorem rs6.at (h : rs6 V r T x) : ∃ p, cA V r T p := by
  cases x with
  | inl e => exact h.1
  | inr q => exact ⟨q, h.1⟩
theorem rs6.bad {e : Int × Int} (h : rs6 V r T (.inl e)) : gI V r 11 ≠ 0 ∧ rg (gI V r 11) := by
  obtain ⟨a, b, -, d, e'⟩ := h
  exact ⟨by rw [b]; exact e', by rw [b]; exact d⟩
theorem rs6.w {S : Nat → Prop} {V1 : mV} (h : rs6 V r T x) (k : fr S V V1) (hS : ∀ i, r ≤ i → i ≤ r + 10 → ¬ S i) : rs6 V1 r T x := by
  have a := fun j => k.I (hS r (by omega) (by omega)) j
  cases x with
  | inl e =>
    obtain ⟨⟨p, h1⟩, h2, h3, h4⟩ := h
    exact ⟨⟨p, h1.fr k (fun i x y => hS i (by omega) y) (a 6)⟩, by rw [a 11]; exact h2, by rw [a 12]; exact h3, h4⟩
  | inr q => exact ⟨h.1.fr k (fun i x y => hS i (by omega) y) (a 6), by rw [a 11]; exact h.2⟩
theorem S_take (hG : is6 G r) (h : rs6 V r T x) : ∃ V', F_X6_take G r V = some (V', 0) ∧ f6 r V V' ∧ rs6 V' r T (thn x (fun p => .inr (nxT T p))) := by
  cases x with
  | inl e => exact ⟨V, k6_take1 h.bad.1 h.bad.2, f6_refl, h⟩
  | inr q => exact k6_take hG h.1 h.2
theorem S_wd (hG : is6 G r) (h : rs6 V r T x) {w : Int} (hw : rg w) : ∃ V', F_X6_takeWord G r w V = some (V', 0) ∧ f6 r V V' ∧ rs6 V' r T (thn x (nWd T w)) := by
  cases x with
  | inl e =>
    obtain ⟨p, hp⟩ := h.at
    exact ⟨V, k6_tWd1 hG hp h.bad.1 h.bad.2, f6_refl, h⟩
  | inr q => exact k6_tWd hG h.1 h.2 hw
theorem S_sg (hG : is6 G r) (hT : tOk T) (h : rs6 V r T x) {s : Int} (hs : rg s) : ∃ V', F_X6_takeSign G r s V = some (V', 0) ∧ f6 r V V' ∧ rs6 V' r T (thn x (nSg T s)) := by
  cases x with
  | inl e =>
    obtain ⟨p, hp⟩ := h.at
    exact ⟨V, k6_tSg1 hG hp h.bad.1 h.bad.2, f6_refl, h⟩
  | inr q => exact k6_tSg hG hT h.1 h.2 hs
theorem S_nu (hG : is6 G r) (hT : tOk T) (h : rs6 V r T x) {mx : Int} (hm : rg mx) : ∃ V' v, F_X6_takeNumber G r mx V = some (V', v) ∧ f6 r V V' ∧ rs6 V' r T (thn x (nNu T mx)) ∧ (0 ≤ v ∧ v < 1073741824) ∧ (∀ p, x = .inr p → v = vlT T p) := by
  cases x with
  | inl e =>
    obtain ⟨p, hp⟩ := h.at
    exact ⟨V, _, k6_tNu1 hG hT hp h.bad.1 h.bad.2 hm, f6_refl, h, vl_rg hT, fun p z => by cases z⟩
  | inr q =>
    obtain ⟨V', a, b, d⟩ := k6_tNu hG hT h.1 h.2 hm
    exact ⟨V', _, a, b, d, vl_rg hT, fun p z => by cases z; rfl⟩
theorem S_fail (h : rs6 V r T x) {k w : Int} (hk : rg k ∧ k ≠ 0) : ∃ V', F_X6_fail G r k w V = some (V', 0) ∧ f6 r V V' ∧ rs6 V' r T (thn x (fun _ => .inl (k, w))) := by
  cases x with
  | inl e => exact ⟨V, k6_fail1 h.bad.1 h.bad.2, f6_refl, h⟩
  | inr q =>
    obtain ⟨V', a, b, d, -⟩ := k6_fail (G := G) h.1 h.2 (k := k) (w := w) hk
    exact ⟨V', a, b, d⟩
theorem S_here (hG : is6 G r) (h : rs6 V r T x) : ∃ w : Nat, F_X6_here G r V = some (V, (w : Int)) ∧ ∀ p, x = .inr p → w = p := by
  cases x with
  | inl e =>
    obtain ⟨p, hp⟩ := h.at
    exact ⟨p, k6_here hG hp, fun p z => by cases z⟩
  | inr q => exact ⟨q, k6_here hG h.1, fun p z => by cases z; rfl⟩
theorem S_fine (h : rs6 V r T x) : F_X6_fine G r V = some (V, match x with | .inl _ => 0 | .inr _ => 1) := by
  cases x with
  | inl e => exact k6_bad h.bad.1 h.bad.2
  | inr q => exact k6_fine h.2
theorem S_kn {cap : Nat} (hG : is6 G r) (hT : tOk T) (h : rs6 V r T x) (hr : is7 G row) (hq : qG G (row + 1) = cap) (hn : 0 ≤ n ∧ n ≤ (cap : Int)) (hc : cap ≤ 10) (hd : row ≠ r ∧ row + 1 ≠ r) (hw : rw' V row n (fun j => nm5 (f j))) (hf : okN f n) :
    ∃ V' v, F_X6_takeKnown G r row V = some (V', v) ∧ f6 r V V' ∧ rs6 V' r T (thn x (nKn f n T)) ∧ ((-1 ≤ v ∧ v < n) ∨ v = -1) ∧ (∀ p q, x = .inr p → nKn f n T p = .inr q → v = fl f (ltr T p (lnT T p)) 0 n.toNat ∧ 0 ≤ v) := by
  cases x with
  | inl e =>
    obtain ⟨p, hp⟩ := h.at
    obtain ⟨v, a, b⟩ := c_known1 hG hT hp h.bad.1 h.bad.2 hr hq hn hc hw hf
    exact ⟨V, v, a, f6_refl, h, b, fun p q z => by cases z⟩
  | inr q =>
    obtain ⟨V', v, a, b, d, e, g⟩ := c_known hG hT h.1 h.2 hr hq hn hc hd hw hf
    exact ⟨V', v, a, b, d, by omega, fun p q z y => by cases z; exact g _ y⟩
-- ---- the reference's
theorem rs10.bad {e : Int × Int} (h : rs10 V m T (.inl e)) : gI V m 5 ≠ 0 ∧ rg (gI V m 5) := by
  obtain ⟨a, -, d, e'⟩ := h
  exact ⟨by rw [a]; exact e', by rw [a]; exact d⟩
theorem R_asks (hT : tOk T) (hG : is10 G m) (hw : rWd V m) {k : Nat} (hk : isW k) (h : rs10 V m T x) : ∃ V', F_X10_asks G m (m + k) V = some (V', 0) ∧ rLk m V V' ∧ rs10 V' m T (thn x (nWd T ((awk k : Nat) : Int))) := by
  cases x with
  | inl e => exact ⟨V, r_asks1 h.bad.1 h.bad.2, rLk_refl, h⟩
  | inr q => exact r_asks hT (awk_len ⟨k, by unfold isW at hk; omega⟩) (qG_w hG k hk) (hw k hk) h.1 h.2
theorem R_aSg (hT : tOk T) (h : rs10 V m T x) {s : Int} (hs : rg s) (hc : ¬ isL s = true ∧ ¬ isD s = true ∧ s ≠ -1) : ∃ V', F_X10_asksSign G m s V = some (V', 0) ∧ rLk m V V' ∧ rs10 V' m T (thn x (nSg T s)) := by
  cases x with
  | inl e => exact ⟨V, r_aSg1 h.bad.1 h.bad.2, rLk_refl, h⟩
  | inr q => exact r_aSg hT h.1 h.2 hs hc
theorem nNu_i {mx : Int} {p q : Nat} (h : nNu T mx p = .inr q) : kdT T p = 1 ∧ lnT T p ≤ 4 ∧ vlT T p ≤ mx ∧ q = nxT T p := by
  unfold nNu at h
  by_cases a : kdT T p ≠ 1
  · rw [if_pos a] at h; cases h
  rw [if_neg a] at h
  by_cases b : 4 < lnT T p
  · rw [if_pos b] at h; cases h
  rw [if_neg b] at h
  by_cases d : mx < vlT T p
  · rw [if_pos d] at h; cases h
  rw [if_neg d] at h
  cases h
  exact ⟨by omega, by omega, by omega, rfl⟩
theorem R_num (hT : tOk T) (h : rs10 V m T x) {mx : Int} (hm : rg mx) : ∃ V' v, F_X10_number G m 0 mx V = some (V', v) ∧ rLk m V V' ∧ rs10 V' m T (thn x (nNu T mx)) ∧ (0 ≤ v ∧ v ≤ 9999) ∧ (∀ p q, x = .inr p → nNu T mx p = .inr q → v = vlT T p ∧ gI V' m 10 = (p : Int)) := by
  cases x with
  | inl e => exact ⟨V, 0, r_num1 h.bad.1 h.bad.2, rLk_refl, h, by decide, fun p q z => by cases z⟩
  | inr q =>
    obtain ⟨V', v, a, b, d, e, g⟩ := r_num (G := G) hT h.1 h.2 hm
    refine ⟨V', v, a, b, d, e, fun p q' z y => ?_⟩
    cases z
    have i := nNu_i y
    exact g i.1 i.2.1
theorem R_one (hT : tOk T) (hG : is10 G m) (hw : rWd V m) {k : Nat} (hk : k ≤ 1) (hm : rNm V m k n f) (hn : 0 ≤ n ∧ n ≤ 10) (hf : okN f n) (h : rs10 V m T x) :
    ∃ V' v, F_X10_oneOf G m (k : Int) V = some (V', v) ∧ rLk m V V' ∧ rs10 V' m T (thn x (nKn f n T)) ∧ (0 ≤ v ∧ v ≤ 9) ∧ (∀ p q, x = .inr p → nKn f n T p = .inr q → v = fl f (ltr T p (lnT T p)) 0 n.toNat ∧ gI V' m 35 = (p : Int)) := by
  cases x with
  | inl e => exact ⟨V, 0, r_one1 hk hm hn hf h.bad.1 h.bad.2, rLk_refl, h, by decide, fun p q z => by cases z⟩
  | inr q =>
    obtain ⟨V', v, a, b, d, e, g⟩ := r_one hT hG hw hk hm hn hf h.1 h.2
    exact ⟨V', v, a, b, d, e, fun p q z y => by cases z; exact g _ y⟩
theorem R_fail (h : rs10 V m T x) {k w : Int} (hk : rg k ∧ k ≠ 0) : ∃ V', F_X10_fail G m k w V = some (V', 0) ∧ rLk m V V' ∧ rs10 V' m T (thn x (fun _ => .inl (k, w))) := by
  cases x with
  | inl e => exact ⟨V, r_fail1 h.bad.1 h.bad.2, rLk_refl, h⟩
  | inr q => exact r_fail (G := G) (T := T) h.2 hk
/-- a new name (class) -/
theorem c_new (hG : is6 G r) (hT : tOk T) (hc : is1 G c) (hd : r + 12 < c) (hn : (0 ≤ cn C ∧ cn C ≤ 10) ∧ (0 ≤ ct C ∧ ct C ≤ 8)) (hw : rw' V (c + 1) (cn C) (fun j => nm5 (cp C j)) ∧ rw' V (c + 11) (ct C) (fun j => nm5 (cq C j))) (hf : okN (cp C) (cn C) ∧ okN (cq C) (ct C)) {p : Nat} (h : rs6 V r T (.inr p)) :
    ∃ V' : mV, (∀ (K : Int → mV → Option (mV × Int)) (res : mV × Int), K (vlT T p) V' = some res → (bd (F_X6_takeName G r V) fun V7 v8 => bd (F_X1_hasName G c v8 V7) fun V10 v11 => gd (rg v11) <| if v11 = 0 then (K v8 V10) else (bd (F_X6_fail G r 3 (p : Int) V10) fun V38 v39 => K v8 V38)) = some res) ∧ f6 r V V' ∧ rs6 V' r T (nNw C T p) := by
  have vr := vl_rg (p := p) hT
  obtain ⟨V1, e1, k1, r1⟩ := k6_tNa hG hT h.1 h.2
  have w1 := hw.1.fr k1.1 (by omega) (by omega)
  have w2 := hw.2.fr k1.1 (by omega) (by omega)
  have f1 := c_findN (V := V1) (s1_0s hc) (s1_0c hc) hn.1 w1 hf.1 (v := vlT T p) ⟨by omega, by omega⟩
  have f2 := c_findN (V := V1) (s1_5s hc) (s1_5c hc) hn.2 w2 hf.2 (v := vlT T p) ⟨by omega, by omega⟩
  have b1 := fi_rg (fun j => nm5 (cp C j)) (vlT T p) (cn C).toNat 0
  have b2 := fi_rg (fun j => nm5 (cq C j)) (vlT T p) (ct C).toNat 0
  obtain ⟨i1, hi1⟩ : ∃ i, i = fi (fun j => nm5 (cp C j)) (vlT T p) 0 (cn C).toNat := ⟨_, rfl⟩
  obtain ⟨i2, hi2⟩ : ∃ i, i = fi (fun j => nm5 (cq C j)) (vlT T p) 0 (ct C).toNat := ⟨_, rfl⟩
  rw [← hi1] at f1 b1
  rw [← hi2] at f2 b2
  have g1 : rg i1 := ⟨by omega, by omega⟩
  have g2 : rg i2 := ⟨by omega, by omega⟩
  have hs : F_X1_hasName G c (vlT T p) V1 = some (V1, if i1 = -1 ∧ i2 = -1 then 0 else 1) := by
    unfold F_X1_hasName
    refine E_bd f1 (E_gd g1 (E_if (fun a => E_bd f2 (E_gd g2 (E_if (fun b => E_so rfl ?_) (fun b => E_so rfl ?_)))) (fun a => E_so rfl ?_)))
    · rw [if_pos ⟨a, b⟩]
    · rw [if_neg (fun z => b z.2)]
    · rw [if_neg (fun z => a z.1)]
  cases hN : nNa T p with
  | inl e =>
    rw [hN] at r1
    have kn : nNw C T p = .inl e := by unfold nNw; rw [hN]
    refine ⟨V1, fun K res hK => E_bd e1 (E_bd hs ?_), k1, by rw [kn]; exact r1⟩
    by_cases z : i1 = -1 ∧ i2 = -1
    · rw [if_pos z]
      exact E_gd (by decide) (E_if (fun _ => hK) (fun y => absurd rfl y))
    · rw [if_neg z]
      exact E_gd (by decide) (E_if (fun y => absurd y (by decide)) (fun _ => E_bd (k6_fail1 r1.bad.1 r1.bad.2) hK))
  | inr q =>
    rw [hN] at r1
    obtain ⟨n1, n2, n3, n4, n5⟩ := nNa_ok hN
    have ef1 : i1 = fl (cp C) (ltr T p (lnT T p)) 0 (cn C).toNat := by
      rw [hi1, n4]
      exact fi_fl (g := nm5) (fun l r a b e => nm5_inj a b e) n5 _ 0 (fun j a b => (hf.1 j a (by omega)).1)
    have ef2 : i2 = fl (cq C) (ltr T p (lnT T p)) 0 (ct C).toNat := by
      rw [hi2, n4]
      exact fi_fl (g := nm5) (fun l r a b e => nm5_inj a b e) n5 _ 0 (fun j a b => (hf.2 j a (by omega)).1)
    by_cases z : i1 = -1 ∧ i2 = -1
    · have kn : nNw C T p = .inr q := by unfold nNw; rw [hN]; exact if_pos (by rw [← ef1, ← ef2]; exact z)
      refine ⟨V1, fun K res hK => E_bd e1 (E_bd hs ?_), k1, by rw [kn]; exact r1⟩
      rw [if_pos z]
      exact E_gd (by decide) (E_if (fun _ => hK) (fun y => absurd rfl y))
    · have kn : nNw C T p = .inl (3, (p : Int)) := by unfold nNw; rw [hN]; exact if_neg (by rw [← ef1, ← ef2]; exact z)
      obtain ⟨V2, x1, x2, x3, -⟩ := k6_fail (G := G) r1.1 r1.2 (k := 3) (w := (p : Int)) ⟨by decide, by decide⟩
      refine ⟨V2, fun K res hK => E_bd e1 (E_bd hs ?_), k1.trans x2, by rw [kn]; exact x3⟩
      rw [if_neg z]
      exact E_gd (by decide) (E_if (fun y => absurd y (by decide)) (fun _ => E_bd x1 hK))
/-- a new name (reference) -/
theorem r_new (hT : tOk T) (hG : is10 G m) (hw : rWd V m) (hm : rNm V m 0 (cn C) (cp C) ∧ rNm V m 1 (ct C) (cq C)) (hn : (0 ≤ cn C ∧ cn C ≤ 10) ∧ (0 ≤ ct C ∧ ct C ≤ 8)) (hf : okN (cp C) (cn C) ∧ okN (cq C) (ct C)) {p : Nat} (h : rs10 V m T (.inr p)) :
    ∃ V' v, F_X10_newName G m V = some (V', v) ∧ rLk m V V' ∧ rs10 V' m T (nNw C T p) ∧ (∀ q, nNw C T p = .inr q → v = nm27 (ltr T p (lnT T p))) := by
  obtain ⟨V1, v1, e1, k1, r1, b1, c1⟩ := r_name (G := G) hT hG hw h.1 h.2
  have lb : ∀ (V2 : mV), rLk m V V2 → ∀ k : Nat, k ≤ 1 → F_X10_nameOf G m (k : Int) v1 V2 = some (V2, if k = 0 then fi (fun j => nm27 (cp C j)) v1 0 (cn C).toNat else fi (fun j => nm27 (cq C j)) v1 0 (ct C).toNat) := by
    intro V2 k2 k hk
    by_cases k0 : k = 0
    · subst k0
      exact r_nmOf (G := G) (by decide) (hm.1.of (by rw [k2.1]) (by rw [k2.2.2.1])) hn.1 hf.1 (v := v1) ⟨by omega, by omega⟩
    · have k1' : k = 1 := by omega
      subst k1'
      exact r_nmOf (G := G) (by decide) (hm.2.of (by rw [k2.1]) (by rw [k2.2.2.1])) ⟨hn.2.1, by omega⟩ hf.2 (v := v1) ⟨by omega, by omega⟩
  have g1 := fi_rg (fun j => nm27 (cp C j)) v1 (cn C).toNat 0
  have g2 := fi_rg (fun j => nm27 (cq C j)) v1 (ct C).toNat 0
  obtain ⟨i1, hi1⟩ : ∃ i, i = fi (fun j => nm27 (cp C j)) v1 0 (cn C).toNat := ⟨_, rfl⟩
  obtain ⟨i2, hi2⟩ : ∃ i, i = fi (fun j => nm27 (cq C j)) v1 0 (ct C).toNat := ⟨_, rfl⟩
  rw [← hi1] at g1 lb
  rw [← hi2] at g2 lb
  have bad : ∀ (V2 : mV) (j : Nat) (fu : Nat), j ≤ 2 → 2 - j < fu → gI V2 m 5 ≠ 0 → rg (gI V2 m 5) → ∃ q, lp (fun (s : Int) V => B_X10_newName_7 G m v1 s V) fu (j : Int) V2 = some (V2, q) := by
    intro V2 j fu hj hf h0 hr
    have done : B_X10_newName_7 G m v1 ((2 : Nat) : Int) V2 = some (V2, 1, ((2 : Nat) : Int)) := by
      unfold B_X10_newName_7
      exact E_gd (by decide) (E_if (fun _ => rfl) (fun y => absurd (by decide) y))
    have step : ∀ j : Nat, j < 2 → B_X10_newName_7 G m v1 (j : Int) V2 = some (V2, 0, ((j + 1 : Nat) : Int)) := by
      intro j hj
      unfold B_X10_newName_7
      exact E_gd ⟨by omega, by omega⟩ (E_if (fun y => by omega) (fun _ => E_gd hr (E_if (fun y => absurd y h0) (fun _ => E_lt (E_so rfl (Prod.ext rfl (by show (j : Int) + 1 = ((j + 1 : Nat) : Int); omega)))))))
    refine ⟨(1, ((2 : Nat) : Int)), ?_⟩
    have d2 : ∀ fu, 0 < fu → lp (fun (s : Int) V => B_X10_newName_7 G m v1 s V) fu ((2 : Nat) : Int) V2 = some (V2, 1, ((2 : Nat) : Int)) := fun fu hf => lp_stop (q := (1, ((2 : Nat) : Int))) done Nat.one_ne_zero hf
    have d1 : ∀ fu, 1 < fu → lp (fun (s : Int) V => B_X10_newName_7 G m v1 s V) fu ((1 : Nat) : Int) V2 = some (V2, 1, ((2 : Nat) : Int)) := by
      intro fu hf
      obtain ⟨g, rfl⟩ : ∃ g, fu = g + 1 := ⟨fu - 1, by omega⟩
      rw [lp_more (step 1 (by decide))]
      exact d2 g (by omega)
    by_cases j2 : j = 2
    · subst j2; exact d2 fu (by omega)
    by_cases j1 : j = 1
    · subst j1; exact d1 fu (by omega)
    · have j0 : j = 0 := by omega
      subst j0
      obtain ⟨g, rfl⟩ : ∃ g, fu = g + 1 := ⟨fu - 1, by omega⟩
      rw [lp_more (step 0 (by decide))]
      exact d1 g (by omega)
  cases hN : nNa T p with
  | inl e =>
    rw [hN] at r1
    have kn : nNw C T p = .inl e := by unfold nNw; rw [hN]
    obtain ⟨q, eq⟩ := bad V1 0 FU (by decide) (by unfold FU; decide) r1.bad.1 r1.bad.2
    refine ⟨V1, v1, ?_, k1, by rw [kn]; exact r1, fun q z => by rw [kn] at z; cases z⟩
    unfold F_X10_newName
    exact E_bd e1 (E_bd eq rfl)
  | inr q =>
    rw [hN] at r1
    obtain ⟨n1, n2, n3, n4, n5⟩ := nNa_ok hN
    obtain ⟨cv, c35⟩ := c1 q hN
    have ef1 : i1 = fl (cp C) (ltr T p (lnT T p)) 0 (cn C).toNat := by
      rw [hi1, cv]
      exact fi_fl (g := nm27) (fun l r a b e => nm27_inj a b e) n5 _ 0 (fun j a b => (hf.1 j a (by omega)).1)
    have ef2 : i2 = fl (cq C) (ltr T p (lnT T p)) 0 (ct C).toNat := by
      rw [hi2, cv]
      exact fi_fl (g := nm27) (fun l r a b e => nm27_inj a b e) n5 _ 0 (fun j a b => (hf.2 j a (by omega)).1)
    have step : ∀ (k : Nat), k ≤ 1 → ∀ i : Int, i = (if k = 0 then i1 else i2) → (i = -1 → B_X10_newName_7 G m v1 (k : Int) V1 = some (V1, 0, ((k + 1 : Nat) : Int))) ∧ (i ≠ -1 → ∃ V2, B_X10_newName_7 G m v1 (k : Int) V1 = some (V2, 0, ((k + 1 : Nat) : Int)) ∧ rLk m V1 V2 ∧ rs10 V2 m T (.inl (3, (p : Int)))) := by
      intro k hk i hi
      have e2 := lb V1 k1 k hk
      rw [← hi] at e2
      have ri : rg i := by rw [hi]; split <;> exact ⟨by omega, by omega⟩
      have ek : (k : Int) + 1 = ((k + 1 : Nat) : Int) := by omega
      refine ⟨fun y => ?_, fun y => ?_⟩
      · unfold B_X10_newName_7
        refine E_gd ⟨by omega, by omega⟩ (E_if (fun z => by omega) (fun _ => E_gd (by rw [r1.2]; decide) (E_if (fun _ => E_bd e2 (E_gd ri (E_if (fun _ => E_lt (E_so rfl (Prod.ext rfl ek))) (fun z => absurd y z)))) (fun z => absurd r1.2 z))))
      · obtain ⟨V2, x1, x2, x3⟩ := r_fail (G := G) (T := T) r1.2 (k := 3) (w := (p : Int)) ⟨by decide, by decide⟩
        refine ⟨V2, ?_, x2, x3⟩
        unfold B_X10_newName_7
        refine E_gd ⟨by omega, by omega⟩ (E_if (fun z => by omega) (fun _ => E_gd (by rw [r1.2]; decide) (E_if (fun _ => E_bd e2 (E_gd ri (E_if (fun z => absurd z y) (fun _ => ?_)))) (fun z => absurd r1.2 z))))
        rw [c35]
        exact E_bd x1 (E_lt (E_so rfl (Prod.ext rfl ek)))
    have hL : ∀ r, bd (lp (fun (s : Int) V => B_X10_newName_7 G m v1 s V) FU ((0 : Nat) : Int) V1) (fun V19 u20 => some (V19, v1)) = r → F_X10_newName G m V = r := by
      intro r e
      unfold F_X10_newName
      exact E_bd e1 e
    have s0 := step 0 (by decide) i1 (by rw [if_pos rfl])
    have s1 := step 1 (by decide) i2 (by rw [if_neg (by decide)])
    by_cases z1 : i1 = -1
    · by_cases z2 : i2 = -1
      · have kn : nNw C T p = .inr q := by unfold nNw; rw [hN]; exact if_pos (by rw [← ef1, ← ef2]; exact ⟨z1, z2⟩)
        have done : B_X10_newName_7 G m v1 ((2 : Nat) : Int) V1 = some (V1, 1, ((2 : Nat) : Int)) := by
          unfold B_X10_newName_7
          exact E_gd (by decide) (E_if (fun _ => rfl) (fun y => absurd (by decide) y))
        refine ⟨V1, v1, hL _ (E_bd (V1 := V1) (v1 := (1, ((2 : Nat) : Int))) ?_ rfl), k1, by rw [kn]; exact r1, fun _ _ => cv⟩
        show lp _ (4999 + 1) ((0 : Nat) : Int) V1 = _
        rw [lp_more (s0.1 z1)]
        show lp _ (4998 + 1) ((1 : Nat) : Int) V1 = _
        rw [lp_more (s1.1 z2)]
        exact lp_stop (q := (1, ((2 : Nat) : Int))) done Nat.one_ne_zero (by decide)
      · have kn : nNw C T p = .inl (3, (p : Int)) := by unfold nNw; rw [hN]; exact if_neg (by rw [← ef1, ← ef2]; exact fun y => z2 y.2)
        obtain ⟨V2, x1, x2, x3⟩ := s1.2 z2
        obtain ⟨q2, eq⟩ := bad V2 2 4998 (by decide) (by decide) x3.bad.1 x3.bad.2
        refine ⟨V2, v1, hL _ (E_bd (V1 := V2) (v1 := q2) ?_ rfl), k1.trans x2, by rw [kn]; exact x3, fun q z => by rw [kn] at z; cases z⟩
        show lp _ (4999 + 1) ((0 : Nat) : Int) V1 = _
        rw [lp_more (s0.1 z1)]
        show lp _ (4998 + 1) ((1 : Nat) : Int) V1 = _
        rw [lp_more x1]
        exact eq
    · have kn : nNw C T p = .inl (3, (p : Int)) := by unfold nNw; rw [hN]; exact if_neg (by rw [← ef1, ← ef2]; exact fun y => z1 y.1)
      obtain ⟨V2, x1, x2, x3⟩ := s0.2 z1
      obtain ⟨q2, eq⟩ := bad V2 1 4999 (by decide) (by decide) x3.bad.1 x3.bad.2
      refine ⟨V2, v1, hL _ (E_bd (V1 := V2) (v1 := q2) ?_ rfl), k1.trans x2, by rw [kn]; exact x3, fun q z => by rw [kn] at z; cases z⟩
      show lp _ (4999 + 1) ((0 : Nat) : Int) V1 = _
      rw [lp_more x1]
      exact eq
end

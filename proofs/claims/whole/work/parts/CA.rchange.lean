/-! change (reference) -/
def rCh (m : Nat) (V V' : mV) : Prop := (∀ i, i ≠ m + 42 → i ≠ m + 43 → gA V' i = gA V i) ∧ (∀ i k, (i ≠ m ∨ k ≠ 104) → gI V' i k = gI V i k) ∧ (∀ i k, (i ≠ m ∨ k < 51 ∨ 57 < k) → gJ V' i k = gJ V i k) ∧ (∀ i, i ≠ m + 70 → gL V' i = gL V i)
theorem rCh_refl {m : Nat} {V : mV} : rCh m V V := ⟨fun _ _ _ => rfl, fun _ _ _ => rfl, fun _ _ _ => rfl, fun _ _ => rfl⟩
theorem rCh.trans {m : Nat} {V V1 V2 : mV} (h : rCh m V V1) (k : rCh m V1 V2) : rCh m V V2 :=
  ⟨fun i a b => (k.1 i a b).trans (h.1 i a b), fun i j q => (k.2.1 i j q).trans (h.2.1 i j q), fun i j q => (k.2.2.1 i j q).trans (h.2.2.1 i j q), fun i q => (k.2.2.2 i q).trans (h.2.2.2 i q)⟩
theorem rT.Ch {m : Nat} {V V1 : mV} (h : rT m V V1) : rCh m V V1 := ⟨fun i _ _ => by rw [h.1], h.2.1, h.2.2.1, h.2.2.2⟩
theorem rCh_sA {m a k : Nat} {V : mV} {x : Int} (h : a = m + 42 ∨ a = m + 43) : rCh m V (sA V a k x) := ⟨fun i p q => gA_sAo (by omega), fun _ _ _ => rfl, fun _ _ _ => rfl, fun _ _ => rfl⟩
theorem rCh.Q {m : Nat} {V V1 : mV} (h : rCh m V V1) : rQ m V V1 := ⟨fun i q => h.1 i (by omega) (by omega), fun i k q => h.2.1 i k (by omega), h.2.2.1, h.2.2.2⟩
theorem fz_cg {x : Int} {g h : Int → Int} : ∀ m : Nat, (∀ q, 0 ≤ q → q < (m : Int) → g q = h q) → fz x g m = fz x h m := by
  intro m
  induction m with
  | zero => intro _; rfl
  | succ m ih =>
    intro e
    rw [fz_s, fz_s, ih (fun q a b => e q a (by omega))]
    unfold fm
    rw [e (m : Int) (by omega) (by omega)]
section
variable {G : mG} {V V1 : mV} {m : Nat} {Z : mZ}
/-- the least of a row, behind those that are out -/
theorem r_row {n : Nat} (hn : n ≤ 10) {c : Int → Int → Int} (hc : okKc c n) {l f : Nat} (hf : l + (f + 1) = n) (hD : ∀ p, 0 ≤ p → p < (n : Int) → gA V (m + 43) (10 * (l : Int) + p).toNat = c (l : Int) p) (hT : ∀ z : Int, 0 ≤ z → z < ((2 ^ n : Nat) : Int) → gA V (m + 42) (1024 * ((l : Int) + 1) + z).toNat = FdQ c n f z) {x : Int} (hx : 0 ≤ x ∧ x < ((2 ^ n : Nat) : Int)) :
    ∃ q, lp (fun (s : Int × Int) V => B_X10_laysChange_124 G m (n : Int) (l : Int) x s.1 s.2 V) FU (1000, 0) V = some (V, q) ∧ q.2.1 = FdQ c n (f + 1) x := by
  have h10 := p2_le hn
  have el : (n : Int) - ((f : Int) + 1) = (l : Int) := by omega
  obtain ⟨g, hg⟩ : ∃ g : Int → Int, g = fun p => c ((n : Int) - ((f : Int) + 1)) p + FdQ c n f (nx x p) := ⟨_, rfl⟩
  have main : Wp (lp (fun (s : Int × Int) V => B_X10_laysChange_124 G m (n : Int) (l : Int) x s.1 s.2 V) FU (1000, 0) V) (fun V' q => V' = V ∧ q.2.1 = fz x g n) := by
    refine W_lp (fun w (y : Int × Int) U => U = V ∧ ∃ k : Nat, y = (fz x g k, (k : Int)) ∧ k + w = n) ?_ FU n _ V ⟨rfl, 0, rfl, by omega⟩ (by unfold FU; omega)
    rintro w y U ⟨rfl, k, rfl, hw⟩
    show Wp (B_X10_laysChange_124 G m (n : Int) (l : Int) x (fz x g k) (k : Int) U) _
    unfold B_X10_laysChange_124
    refine W_gd ⟨by omega, by omega⟩ (W_gd ⟨by omega, by omega⟩ (W_if (fun q => W_so (Or.inr ⟨Nat.one_ne_zero, rfl, ?_⟩)) (fun q => W_gd ⟨by omega, by omega⟩ (W_gd ⟨by omega, by omega⟩ ?_))))
    · have e : k = n := by omega
      show fz x g k = _
      rw [e]
    have hb := bt_01 x (k : Int)
    have hb2 : (shr x (k : Int)) % 2 = 0 ∨ (shr x (k : Int)) % 2 = 1 := hb
    have sn := fz_s (x := x) (g := g) (m := k)
    refine W_gd ⟨by omega, by omega⟩ (W_if (fun e => ?_) (fun e => ?_))
    · have st : fm x g (k : Int) (fz x g k) = fz x g k := if_pos e
      exact W_lt (W_so (Or.inl ⟨rfl, w - 1, by omega, rfl, k + 1, by rw [sn, st]; rfl, by omega⟩))
    · have hy := nx_lt hx (p := (k : Int)) ⟨by omega, by omega⟩
      have hy0 : 0 ≤ bor x (shl 1 (k : Int)) ∧ bor x (shl 1 (k : Int)) < ((2 ^ n : Nat) : Int) := hy
      have hs := shl1_lt (l := (k : Int)) (by omega) (by omega)
      have gv : gA U (m + 43) (10 * (l : Int) + (k : Int)).toNat + gA U (m + 42) (1024 * ((l : Int) + 1) + bor x (shl 1 (k : Int))).toNat = g (k : Int) := by
        rw [hD _ (by omega) (by omega), hT _ hy0.1 hy0.2, hg, el]
      have hcq := hc (l : Int) (k : Int) (by omega) (by omega) (by omega) (by omega)
      have hF := FdQ_rg hc f (nx x (k : Int)) (by omega)
      have gr : 0 ≤ g (k : Int) ∧ g (k : Int) ≤ 2000 := by
        rw [hg, el]
        show 0 ≤ c (l : Int) (k : Int) + FdQ c n f (nx x (k : Int)) ∧ c (l : Int) (k : Int) + FdQ c n f (nx x (k : Int)) ≤ 2000
        omega
      have fr0 : rg (fz x g k) := by
        obtain ⟨a, b, d⟩ := fz_rg (x := x) (g := g) k
        rcases d with d | ⟨q2, q0, q1, -, q3⟩
        · exact ⟨by omega, by omega⟩
        · have h1 := hc (l : Int) q2 (by omega) (by omega) (by omega) (by omega)
          have h2 := FdQ_rg hc f (nx x q2) (by omega)
          have h3 : g q2 = c (l : Int) q2 + FdQ c n f (nx x q2) := by rw [hg, el]
          exact ⟨by omega, by omega⟩
      refine W_gd ⟨by omega, by omega, by omega⟩ (W_gd ⟨hx.1, hs.1⟩ (W_gd ⟨by omega, by omega, by omega⟩ ?_))
      rw [gv]
      refine W_lt (W_gd ⟨by omega, by omega⟩ (W_gd fr0 (W_if (fun z => ?_) (fun z => ?_))))
      · have st : fm x g (k : Int) (fz x g k) = fz x g k := (if_neg e).trans (if_pos z)
        exact W_lt (W_so (Or.inl ⟨rfl, w - 1, by omega, rfl, k + 1, by rw [sn, st]; rfl, by omega⟩))
      · have st : fm x g (k : Int) (fz x g k) = g (k : Int) := (if_neg e).trans (if_neg z)
        exact W_lt (W_so (Or.inl ⟨rfl, w - 1, by omega, rfl, k + 1, by rw [sn, st]; rfl, by omega⟩))
  obtain ⟨V', q, e1, rfl, e2⟩ := main
  refine ⟨q, e1, e2.trans ?_⟩
  rw [hg]; rfl
theorem r_lays (ho : okZ Z) (hv : rZ V m Z) (h2 : 2 ≤ cn Z.1) {n : Nat} (hnn : (n : Int) = cn Z.1) :
    ∃ V', F_X10_laysChange G m V = some (V', 0) ∧ rCh m V V' ∧ (∀ l p, 0 ≤ l → l < (n : Int) → 0 ≤ p → p < (n : Int) → gA V' (m + 43) (10 * l + p).toNat = cst Z.1 Z.2.1 l p) ∧ ∀ (a : Nat) (z : Int), a ≤ n → 0 ≤ z → z < ((2 ^ n : Nat) : Int) → gA V' (m + 42) (1024 * (a : Int) + z).toNat = FdQ (cst Z.1 Z.2.1) n (n - a) z := by
  have hn := ho.1.1
  have h10 := p2_le (n := n) (by omega)
  have hcok := cst_ok (M := Z.2.1) ho.1
  rw [show (cn Z.1).toNat = n by omega] at hcok
  have es : shl 1 (n : Int) = ((2 ^ n : Nat) : Int) := by rw [shl1 (by omega), Int.toNat_natCast]
  have hA0 : 0 < 2 ^ n := Nat.pow_pos (by decide)
  -- what one dries in another one's life
  have main1 : Wp (lp (fun (s : Int) V => B_X10_laysChange_7 G m (n : Int) s V) FU 0 V) (fun V' _ => rCh m V V' ∧ ∀ l p, 0 ≤ l → l < (n : Int) → 0 ≤ p → p < (n : Int) → gA V' (m + 43) (10 * l + p).toNat = cst Z.1 Z.2.1 l p) := by
    refine W_lp (fun w (y : Int) U => ∃ t : Nat, y = (t : Int) ∧ t + w = n ∧ rCh m V U ∧ ∀ l p, 0 ≤ l → l < (t : Int) → 0 ≤ p → p < (n : Int) → gA U (m + 43) (10 * l + p).toNat = cst Z.1 Z.2.1 l p) ?_ FU n _ V ⟨0, rfl, by omega, rCh_refl, fun l p a b => by omega⟩ (by unfold FU; omega)
    rintro w y U ⟨t, rfl, hw, hf, hT⟩
    unfold B_X10_laysChange_7
    refine W_gd ⟨by omega, by omega⟩ (W_gd ⟨by omega, by omega⟩ (W_if (fun q => W_so (Or.inr ⟨Nat.one_ne_zero, hf, fun l p l0 l1 p0 p1 => hT l p l0 (by omega) p0 p1⟩)) (fun q => ?_)))
    have inner : Wp (lp (fun (s : Int) V => B_X10_laysChange_14 G m (n : Int) (t : Int) s V) FU 0 U) (fun V' _ => rCh m V V' ∧ ∀ l p, 0 ≤ l → l < ((t + 1 : Nat) : Int) → 0 ≤ p → p < (n : Int) → gA V' (m + 43) (10 * l + p).toNat = cst Z.1 Z.2.1 l p) := by
      refine W_lp (fun w (y : Int) U => ∃ u : Nat, y = (u : Int) ∧ u + w = n ∧ rCh m V U ∧ ∀ l p, 0 ≤ l → 0 ≤ p → p < (n : Int) → (l < (t : Int) ∨ (l = (t : Int) ∧ p < (u : Int))) → gA U (m + 43) (10 * l + p).toNat = cst Z.1 Z.2.1 l p) ?_ FU n _ U ⟨0, rfl, by omega, hf, fun l p l0 p0 p1 h => hT l p l0 (by omega) p0 p1⟩ (by unfold FU; omega)
      rintro w y U ⟨u, rfl, hw, hf, hT⟩
      unfold B_X10_laysChange_14
      have put : ∀ {U1 : mV} {v : Int}, rCh m V U1 → gA U1 (m + 43) = gA U (m + 43) → v = cst Z.1 Z.2.1 (t : Int) (u : Int) → rCh m V (sA U1 (m + 43) (10 * (t : Int) + (u : Int)).toNat v) ∧ ∀ l p, 0 ≤ l → 0 ≤ p → p < (n : Int) → (l < (t : Int) ∨ (l = (t : Int) ∧ p < ((u + 1 : Nat) : Int))) → gA (sA U1 (m + 43) (10 * (t : Int) + (u : Int)).toNat v) (m + 43) (10 * l + p).toNat = cst Z.1 Z.2.1 l p := by
        intro U1 v hU1 hg hvv
        refine ⟨hU1.trans (rCh_sA (Or.inr rfl)), fun l p l0 p0 p1 h => ?_⟩
        rw [gA_sAe]
        unfold uN
        by_cases e : l = (t : Int) ∧ p = (u : Int)
        · rw [if_pos (by omega), hvv, e.1, e.2]
        · rw [if_neg (by omega), hg]
          exact hT l p l0 p0 p1 (by omega)
      refine W_gd ⟨by omega, by omega⟩ (W_gd ⟨by omega, by omega⟩ (W_if (fun q => W_so (Or.inr ⟨Nat.one_ne_zero, hf, fun l p l0 l1 p0 p1 => hT l p l0 p0 p1 (by omega)⟩)) (fun q => W_gd ⟨by omega, by omega⟩ (W_if (fun e => ?_) (fun e => ?_)))))
      · obtain ⟨y1, y2⟩ := put (U1 := U) (v := 1000) hf rfl (by unfold cst; rw [if_pos (by omega)])
        exact W_gd ⟨by omega, by omega, by omega⟩ (W_lt (W_lt (W_so (Or.inl ⟨rfl, w - 1, by omega, u + 1, rfl, by omega, y1, y2⟩))))
      · have hvU := hv.1.fr hf.Q.cs
        have hMU : rM (gA U (m + 37)) (cn Z.1) Z.2.1 := by rw [hf.1 _ (by omega) (by omega)]; exact hv.2.1
        have hpt := ho.2.1.2.2.2.2.1 (u : Int) (t : Int) (by omega) (by omega) (by omega) (by omega)
        obtain ⟨U1, g1, f1⟩ := r_doable (G := G) ho.1 hvU hMU ho.2.1 (p := (u : Int)) (l := (t : Int)) ⟨by omega, by omega⟩ ⟨by omega, by omega⟩ hpt
        obtain ⟨y1, y2⟩ := put (U1 := U1) (v := dcnt (t : Int) (cd Z.1) - dob Z.1 (u : Int) (t : Int) (mp Z.2.1 (u : Int) (t : Int)) (mh Z.2.1 / 24)) (hf.trans f1.Ch) (by rw [f1.1]) (by unfold cst; rw [if_neg e])
        exact W_be (r_dutiesOf ho.1 hvU ⟨by omega, by omega⟩) (W_be (r_pts hMU hn.2 ⟨by omega, by omega⟩ ⟨by omega, by omega⟩) (W_be g1 (W_gd ⟨by omega, by omega, by omega⟩ (W_lt (W_lt (W_so (Or.inl ⟨rfl, w - 1, by omega, u + 1, rfl, by omega, y1, y2⟩)))))))
    obtain ⟨U1, q1, g1, f1, t1⟩ := inner
    exact W_be g1 (W_lt (W_so (Or.inl ⟨rfl, w - 1, by omega, t + 1, rfl, by omega, f1, t1⟩)))
  obtain ⟨V2, q2, e2, k2, t2⟩ := main1
  -- the last row
  have main2 : Wp (lp (fun (s : Int) V => B_X10_laysChange_73 G m (n : Int) s V) FU 0 V2) (fun V' _ => rCh m V V' ∧ gA V' (m + 43) = gA V2 (m + 43) ∧ ∀ z : Int, 0 ≤ z → z < ((2 ^ n : Nat) : Int) → gA V' (m + 42) (1024 * (n : Int) + z).toNat = 0) := by
    refine W_lp (fun w (y : Int) U => ∃ t : Nat, y = (t : Int) ∧ t + w = 2 ^ n ∧ rCh m V U ∧ gA U (m + 43) = gA V2 (m + 43) ∧ ∀ z : Int, 0 ≤ z → z < (t : Int) → gA U (m + 42) (1024 * (n : Int) + z).toNat = 0) ?_ FU (2 ^ n) _ V2 ⟨0, rfl, by omega, k2, rfl, fun z a b => by omega⟩ (by unfold FU; omega)
    rintro w y U ⟨t, rfl, hw, hf, h43, hT⟩
    unfold B_X10_laysChange_73
    rw [es]
    refine W_gd ⟨by omega, by omega⟩ (W_gd ⟨by omega, by omega⟩ (W_gd ⟨by omega, by omega⟩ (W_if (fun q => W_so (Or.inr ⟨Nat.one_ne_zero, hf, h43, fun z a b => hT z a (by omega)⟩)) (fun q => W_gd ⟨by omega, by omega, by omega⟩ (W_lt (W_lt (W_so (Or.inl ⟨rfl, w - 1, by omega, t + 1, rfl, by omega, hf.trans (rCh_sA (Or.inl rfl)), by rw [gA_sAo (by omega)]; exact h43, fun z a b => ?_⟩))))))))
    rw [gA_sAe]
    unfold uN
    by_cases e : z = (t : Int)
    · rw [if_pos (by rw [e])]
    · rw [if_neg (by omega)]; exact hT z a (by omega)
  obtain ⟨V3, q3, e3, k3, g3, t3⟩ := main2
  -- the others, the last ones first
  have main3 : Wp (lp (fun (s : Int) V => B_X10_laysChange_103 G m (n : Int) s V) FU ((n : Int) - 1) V3) (fun V' _ => rCh m V V' ∧ gA V' (m + 43) = gA V2 (m + 43) ∧ ∀ (a : Nat) (z : Int), a ≤ n → 0 ≤ z → z < ((2 ^ n : Nat) : Int) → gA V' (m + 42) (1024 * (a : Int) + z).toNat = FdQ (cst Z.1 Z.2.1) n (n - a) z) := by
    refine W_lp (fun w (y : Int) U => y = (w : Int) - 1 ∧ w ≤ n ∧ rCh m V U ∧ gA U (m + 43) = gA V2 (m + 43) ∧ ∀ (a : Nat) (z : Int), w ≤ a → a ≤ n → 0 ≤ z → z < ((2 ^ n : Nat) : Int) → gA U (m + 42) (1024 * (a : Int) + z).toNat = FdQ (cst Z.1 Z.2.1) n (n - a) z) ?_ FU n _ V3 ⟨rfl, Nat.le_refl _, k3, g3, fun a z a0 a1 z0 z1 => ?_⟩ (by unfold FU; omega)
    · rintro w y U ⟨rfl, hwn, hf, h43, hT⟩
      unfold B_X10_laysChange_103
      refine W_gd ⟨by omega, by omega⟩ (W_if (fun q => W_so (Or.inr ⟨Nat.one_ne_zero, hf, h43, fun a z a1 z0 z1 => hT a z (by omega) a1 z0 z1⟩)) (fun q => ?_))
      obtain ⟨l, rfl⟩ : ∃ l, w = l + 1 := ⟨w - 1, by omega⟩
      obtain ⟨f, hfe⟩ : ∃ f, l + (f + 1) = n := ⟨n - l - 1, by omega⟩
      rw [show ((l + 1 : Nat) : Int) - 1 = (l : Int) by omega]
      have inner : Wp (lp (fun (s : Int) V => B_X10_laysChange_109 G m (n : Int) (l : Int) s V) FU 0 U) (fun V' _ => rCh m V V' ∧ gA V' (m + 43) = gA V2 (m + 43) ∧ ∀ (a : Nat) (z : Int), l ≤ a → a ≤ n → 0 ≤ z → z < ((2 ^ n : Nat) : Int) → gA V' (m + 42) (1024 * (a : Int) + z).toNat = FdQ (cst Z.1 Z.2.1) n (n - a) z) := by
        refine W_lp (fun w (y : Int) U => ∃ t : Nat, y = (t : Int) ∧ t + w = 2 ^ n ∧ rCh m V U ∧ gA U (m + 43) = gA V2 (m + 43) ∧ ∀ (a : Nat) (z : Int), a ≤ n → 0 ≤ z → z < ((2 ^ n : Nat) : Int) → (l < a ∨ (a = l ∧ z < (t : Int))) → gA U (m + 42) (1024 * (a : Int) + z).toNat = FdQ (cst Z.1 Z.2.1) n (n - a) z) ?_ FU (2 ^ n) _ U ⟨0, rfl, by omega, hf, h43, fun a z a1 z0 z1 h => hT a z (by omega) a1 z0 z1⟩ (by unfold FU; omega)
        rintro w y U ⟨t, rfl, hw, hf, h43, hT⟩
        unfold B_X10_laysChange_109
        rw [es]
        refine W_gd ⟨by omega, by omega⟩ (W_gd ⟨by omega, by omega⟩ (W_gd ⟨by omega, by omega⟩ (W_if (fun q => W_so (Or.inr ⟨Nat.one_ne_zero, hf, h43, fun a z a0 a1 z0 z1 => hT a z a1 z0 z1 (by omega)⟩)) (fun q => ?_))))
        obtain ⟨qq, e4, r4⟩ := r_row (G := G) (V := U) (m := m) (n := n) (by omega) hcok hfe (fun p p0 p1 => by rw [h43]; exact t2 (l : Int) p (by omega) (by omega) p0 p1) (fun z z0 z1 => by
          have := hT (l + 1) z (by omega) z0 z1 (Or.inl (by omega))
          rw [show n - (l + 1) = f by omega, show ((l + 1 : Nat) : Int) = (l : Int) + 1 by omega] at this
          exact this) (x := (t : Int)) ⟨by omega, by omega⟩
        refine W_be e4 (W_gd ⟨by omega, by omega, by omega⟩ (W_lt (W_lt (W_so (Or.inl ⟨rfl, w - 1, by omega, t + 1, rfl, by omega, hf.trans (rCh_sA (Or.inl rfl)), by rw [gA_sAo (by omega)]; exact h43, fun a z a1 z0 z1 h => ?_⟩)))))
        rw [gA_sAe]
        unfold uN
        by_cases e : a = l ∧ z = (t : Int)
        · rw [if_pos (by omega), r4, e.1, e.2, show n - l = f + 1 by omega]
        · rw [if_neg (by omega)]
          exact hT a z a1 z0 z1 (by omega)
      obtain ⟨U1, q1, g1, f1, t1, u1⟩ := inner
      exact W_be g1 (W_lt (W_so (Or.inl ⟨rfl, l, by omega, by show (l : Int) + -1 = _; omega, by omega, f1, t1, u1⟩)))
    · have ea : a = n := by omega
      rw [ea, t3 z z0 z1, Nat.sub_self]; rfl
  obtain ⟨V4, q4, e4, k4, g4, t4⟩ := main3
  refine ⟨V4, ?_, k4, fun l p l0 l1 p0 p1 => by rw [g4]; exact t2 l p l0 l1 p0 p1, t4⟩
  unfold F_X10_laysChange
  refine E_bd (r_many hv.1) ?_
  rw [← hnn]
  exact E_bd e2 (E_bd e3 (E_lt (E_bd e4 rfl)))
theorem r_change (ho : okZ Z) (hv : rZ V m Z) {k : Int} (hk : rg k) :
    ∃ V', F_X10_change G m k V = some (V', aChange Z k) ∧ rQ m V V' ∧ rZ V' m Z := by
  have hn := ho.1.1
  have e1 := r_isP (G := G) ho.1 hv.1 hk
  unfold F_X10_change aChange
  by_cases h2 : 2 ≤ cn Z.1
  rotate_left
  · rw [if_neg (fun q => h2 q.1)]
    exact ⟨V, E_bd (r_many hv.1) (E_gd ⟨by omega, by omega⟩ (E_if (fun _ => rfl) (fun q => absurd (by omega) h2))), rQ_refl, hv⟩
  by_cases hk2 : k = -1 ∨ (0 ≤ k ∧ k < cn Z.1)
  rotate_left
  · rw [if_neg (fun q => hk2 q.2)]
    rw [if_neg (fun q => hk2 (Or.inr q))] at e1
    exact ⟨V, E_bd (r_many hv.1) (E_gd ⟨by omega, by omega⟩ (E_if (fun q => by omega) (fun _ => E_gd hk (E_if (fun q => absurd (Or.inl q) hk2) (fun _ => E_n e1 rfl))))), rQ_refl, hv⟩
  rw [if_pos ⟨h2, hk2⟩]
  obtain ⟨n, hnn⟩ : ∃ n : Nat, (n : Int) = cn Z.1 := ⟨(cn Z.1).toNat, by omega⟩
  rw [show (cn Z.1).toNat = n by omega]
  have hc := cst_ok (M := Z.2.1) ho.1
  rw [show (cn Z.1).toNat = n by omega] at hc
  generalize hcc : cst Z.1 Z.2.1 = c at hc
  have hn10 : n ≤ 10 := by omega
  have hn2 : 2 ≤ n := by omega
  have h10 := p2_le hn10
  obtain ⟨V1, g1, k1, tD, tF⟩ := r_lays (G := G) ho hv h2 hnn
  rw [hcc] at tD tF
  have z1 : rZ V1 m Z := by
    refine rZ_ask ho hv k1.Q (fun j _ => by rw [k1.1 _ (by omega) (by omega)]) ?_
    rw [k1.2.1 m 61 (by omega)]; exact hv.2.2.2.2
  have sm := Rd_all hn10 hn2 hc
  have main : k ≠ -1 → Wp (lp (fun (s : Int × Int × Int) V => B_X10_change_46 G m k s.1 s.2.1 s.2.2 V) FU (0, (-1), 0) V1) (fun V' q => V' = V1 ∧ q.2.2.1 = wch c n k.toNat (mks c n k.toNat)) := by
    intro hk1
    refine W_lp (fun w (y : Int × Int × Int) U => U = V1 ∧ ∃ l : Nat, y.1 = mks c n l ∧ y.2.2 = (l : Int) ∧ l + w = k.toNat + 1 ∧ (l = k.toNat + 1 → y.2.1 = wch c n k.toNat (mks c n k.toNat))) ?_ FU (k.toNat + 1) _ V1 ⟨rfl, 0, rfl, rfl, by omega, fun z => by omega⟩ (by unfold FU; omega)
    rintro w ⟨ya, yb, yc⟩ U ⟨rfl, l, h1, h2', hw, hl⟩
    have h1' : ya = mks c n l := h1
    have h2'' : yc = (l : Int) := h2'
    subst h1'
    subst h2''
    show Wp (B_X10_change_46 G m k (mks c n l) yb (l : Int) U) _
    unfold B_X10_change_46
    refine W_gd ⟨by omega, by omega⟩ (W_gd hk (W_if (fun q => W_so (Or.inr ⟨Nat.one_ne_zero, rfl, hl (by omega)⟩)) (fun q => ?_)))
    obtain ⟨m1, m2, m3⟩ := mks_ok hn10 hn2 hc l (by omega)
    obtain ⟨f, hfe⟩ : ∃ f, n - l = f + 1 := ⟨n - l - 1, by omega⟩
    rw [hfe] at m3
    have hp : pct (mks c n l) + ((f + 1 : Nat) : Int) = (n : Int) := by omega
    obtain ⟨wq, w0, w1, w2, w3, w4⟩ := Rd_s (c := c) hn10 m1 hp
    have el : (n : Int) - ((f : Int) + 1) = (l : Int) := by omega
    rw [el] at w0 w3 w4
    have ew : wch c n l (mks c n l) = wq := by
      unfold wch
      rw [w0, show n - l - 1 = f by omega]
    obtain ⟨fe0, fe1, fe2⟩ := FR_eq hn10 hc (f + 1) (mks c n l) m1 hp
    have inner : Wp (lp (fun (s : Int) V => B_X10_change_54 G m k (mks c n l) (l : Int) s V) FU 0 U) (fun V' q => V' = U ∧ q.2 = wq) := by
      refine W_lp (fun w (y : Int) V => V = U ∧ ∃ t : Nat, y = (t : Int) ∧ (t : Int) + w = wq + 1 ∧ 1 ≤ w) ?_ FU (wq.toNat + 1) _ U ⟨rfl, 0, rfl, by omega, by omega⟩ (by unfold FU; omega)
      rintro w y V0 ⟨rfl, t, rfl, hw2, hw3⟩
      unfold B_X10_change_54
      have hb := bt_01 (mks c n l) (t : Int)
      have hb2 : (shr (mks c n l) (t : Int)) % 2 = 0 ∨ (shr (mks c n l) (t : Int)) % 2 = 1 := hb
      refine W_gd ⟨by omega, by omega⟩ (W_gd ⟨by omega, by omega⟩ (W_gd ⟨by omega, by omega⟩ (W_if (fun e => ?_) (fun e => ?_))))
      · have ne : (t : Int) ≠ wq := by
          rintro rfl
          have : (shr (mks c n l) (t : Int)) % 2 = 0 := w2
          omega
        exact W_lt (W_so (Or.inl ⟨rfl, w - 1, by omega, rfl, t + 1, rfl, by omega, by omega⟩))
      · have e0 : bt (mks c n l) (t : Int) = 0 := by
          rcases hb with z | z
          · exact z
          · exact absurd z e
        have hy := nx_lt m1 (p := (t : Int)) ⟨by omega, by omega⟩
        have hy0 : 0 ≤ bor (mks c n l) (shl 1 (t : Int)) ∧ bor (mks c n l) (shl 1 (t : Int)) < ((2 ^ n : Nat) : Int) := hy
        have hs := shl1_lt (l := (t : Int)) (by omega) (by omega)
        obtain ⟨y1, y2⟩ := nx_ok hn10 m1 hp (w := (t : Int)) ⟨by omega, by omega⟩ e0
        obtain ⟨fn0, fn1, fn2⟩ := FR_eq hn10 hc f _ y1 y2
        obtain ⟨v1, v2⟩ := w4 (t : Int) (by omega) (by omega) e0
        have hcq := hc (l : Int) (t : Int) (by omega) (by omega) (by omega) (by omega)
        have vD := tD (l : Int) (t : Int) (by omega) (by omega) (by omega) (by omega)
        have vF1 := tF (l + 1) (bor (mks c n l) (shl 1 (t : Int))) (by omega) hy0.1 hy0.2
        rw [show n - (l + 1) = f by omega, show ((l + 1 : Nat) : Int) = (l : Int) + 1 by omega, show FdQ c n f (bor (mks c n l) (shl 1 (t : Int))) = min 1000 (Rd c n f (nx (mks c n l) (t : Int))) from fn2] at vF1
        have vF0 := tF l (mks c n l) (by omega) m1.1 m1.2
        rw [hfe, fe2] at vF0
        refine W_gd ⟨by omega, by omega, by omega⟩ (W_gd ⟨m1.1, hs.1⟩ (W_gd ⟨by omega, by omega, by omega⟩ (W_gd ⟨by omega, by omega, by omega⟩ ?_)))
        rw [vD, vF1, vF0]
        refine W_gd ⟨by omega, by omega⟩ (W_gd ⟨by omega, by omega⟩ (W_if (fun z => ?_) (fun z => ?_)))
        · refine W_so (Or.inr ⟨Nat.one_ne_zero, rfl, ?_⟩)
          show (t : Int) = wq
          have := v2 (by omega)
          omega
        · have ne : (t : Int) ≠ wq := by
            intro ee
            rw [← ee] at w3
            exact z (by omega)
          exact W_lt (W_so (Or.inl ⟨rfl, w - 1, by omega, rfl, t + 1, rfl, by omega, by omega⟩))
    obtain ⟨U1, q1, i1, rfl, i2⟩ := inner
    have hs := shl1_lt w1.1 (show wq < 10 by omega)
    refine W_be i1 ?_
    rw [i2]
    refine W_gd ⟨by omega, by omega⟩ (W_gd ⟨m1.1, hs.1⟩ (W_lt (W_lt (W_so (Or.inl ⟨rfl, w - 1, by omega, rfl, l + 1, ?_, rfl, by omega, fun z => ?_⟩)))))
    · show nx (mks c n l) wq = nx (mks c n l) (wch c n l (mks c n l))
      rw [ew]
    · show wq = _
      have el2 : l = k.toNat := by omega
      rw [← ew, el2]
  have fin : F_X10_change_J23 G m k V = some (V1, if k = -1 then Rd c n n 0 else wch c n k.toNat (mks c n k.toNat)) := by
    unfold F_X10_change_J23
    refine E_bd g1 (E_gd hk (E_if (fun q => E_so rfl ?_) (fun q => ?_)))
    · rw [if_pos q]
      have := tF 0 0 (by omega) (by decide) (by have : 0 < 2 ^ n := Nat.pow_pos (by decide); omega)
      have h3 := (FR_eq hn10 hc n 0 ⟨by decide, by have : 0 < 2 ^ n := Nat.pow_pos (by decide); omega⟩ (by show (0 : Int) + (n : Int) = (n : Int); omega)).2.2
      rw [Nat.sub_zero, h3] at this
      have e : (1024 * ((0 : Nat) : Int) + 0).toNat = 0 := rfl
      rw [e] at this
      rw [this]; omega
    · rw [if_neg q]
      obtain ⟨V', qq, i1, rfl, i2⟩ := main q
      exact E_bd i1 (E_so rfl i2)
  refine ⟨V1, E_bd (r_many hv.1) (E_gd ⟨by omega, by omega⟩ (E_if (fun q => by omega) (fun _ => E_gd hk (E_if (fun _ => fin) (fun q => ?_))))), k1.Q, z1⟩
  rw [if_pos (by omega)] at e1
  exact E_y e1 fin
end

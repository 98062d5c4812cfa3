/-! the whole state: city, now, past, refused; tape; fault; image; slips; seed -/
abbrev mY : Type := mZ × mT2 × (Int × Int) × List Int × (Int × List Int) × Int
def yZ (Y : mY) : mZ := Y.1
def yT (Y : mY) : mT2 := Y.2.1
def yF (Y : mY) : Int × Int := Y.2.2.1
def yI (Y : mY) : List Int := Y.2.2.2.1
def yS (Y : mY) : Int × List Int := Y.2.2.2.2.1
def yE (Y : mY) : Int := Y.2.2.2.2.2
def vT (V : mV) (x : Nat) (T : mT2) : Prop := rw' V (x + 1) (T.2 : Int) (fun k => T.1 k.toNat)
def vI (V : mV) (x : Nat) (I : List Int) : Prop := rw' V (x + 3) (I.length : Int) (fun k => I.getD k.toNat 0)
def vS (V : mV) (x : Nat) (S : Int × List Int) : Prop := rw' V (x + 7) (S.2.length : Int) (fun k => S.2.getD k.toNat 0) ∧ (S.2 ≠ [] → gI V x 12 = S.1)
/-- the reader is ready -/
def vRe (G : mG) (V : mV) (x : Nat) : Prop := zRd G V (x + 9) ∧ rw' V (x + 20) 33 wf33 ∧ rz G V (x + 23) ∧ gI V (x + 25) 1 = 64
/-- the spare city -/
def vSp (G : mG) (V : mV) (x : Nat) : Prop := ((gR G x 10 = x + 245 ∧ gR G x 11 = x + 286) ∨ (gR G x 10 = x + 286 ∧ gR G x 11 = x + 245)) ∧ zC G V (gR G x 11)
def vLi (V : mV) (x : Nat) : Prop := 0 ≤ gI V (x + 43) 1 ∧ gI V (x + 43) 1 ≤ 10
def vY (G : mG) (V : mV) (x : Nat) (Y : mY) : Prop := vZ G V x (yZ Y) ∧ vSp G V x ∧ vT V x (yT Y) ∧ (gI V (x + 9) 11 = (yF Y).1 ∧ gI V (x + 9) 12 = (yF Y).2) ∧ vI V x (yI Y) ∧ vS V x (yS Y) ∧ gJ V x 13 = yE Y ∧ vLi V x ∧ vRe G V x
def rTp (V : mV) (m : Nat) (T : mT2) : Prop := (∀ j, j < T.2 → gA V (m + 1) j = T.1 j) ∧ gI V m 1 = (T.2 : Int)
def rIm (V : mV) (m : Nat) (I : List Int) : Prop := gI V m 108 = (I.length : Int) ∧ ∀ j, j < I.length → gA V (m + 71) j = I.getD j 0
def rSl (V : mV) (m : Nat) (S : Int × List Int) : Prop := 3 * gI V m 72 = (S.2.length : Int) ∧ (∀ j, j < S.2.length → gA V (m + 45) j = S.2.getD j 0) ∧ (S.2 ≠ [] → gI V m 73 = S.1)
def rY (V : mV) (m : Nat) (Y : mY) : Prop := rZ V m (yZ Y) ∧ rTp V m (yT Y) ∧ (gI V m 7 = (yF Y).1 ∧ gI V m 8 = (yF Y).2) ∧ rIm V m (yI Y) ∧ rSl V m (yS Y) ∧ gJ V m 71 = yE Y ∧ rWd V m
def okSl (C : mCy) (S : Int × List Int) : Prop := S.2.length ≤ 60 ∧ S.2.length % 3 = 0 ∧ (S.2 ≠ [] → 0 ≤ S.1 ∧ S.1 < cn C) ∧ ∀ i, 3 * i + 2 < S.2.length → (0 ≤ S.2.getD (3 * i) 0 ∧ S.2.getD (3 * i) 0 < 24) ∧ (0 ≤ S.2.getD (3 * i + 1) 0 ∧ S.2.getD (3 * i + 1) 0 < ct C) ∧ (0 ≤ S.2.getD (3 * i + 2) 0 ∧ S.2.getD (3 * i + 2) 0 ≤ 1)
def okIm (I : List Int) : Prop := I.length ≤ 123 ∧ ∀ a ∈ I, 0 ≤ a ∧ a ≤ 255
def okY (Y : mY) : Prop := okZ (yZ Y) ∧ okS (yZ Y).1 ∧ tOk (yT Y) ∧ (rg (yF Y).1 ∧ rg (yF Y).2) ∧ okIm (yI Y) ∧ okSl (yZ Y).1 (yS Y) ∧ (0 ≤ yE Y ∧ yE Y < 2147483648)
/-- how many were refused: no more than calls -/
def okR (N : Nat) (Y : mY) : Prop := ∀ k, 0 ≤ (yZ Y).2.2.2 k ∧ (yZ Y).2.2.2 k ≤ (N : Int)
/-- the class does a call, the reference does it -/
def CL (G : mG) (x m : Nat) (f : mV → Option (mV × Int)) (Y Y' : mY) (a : Int) : Prop := ∀ V, vY G V x Y → ∃ V', f V = some (V', a) ∧ (∀ i, m ≤ i → gI V' i = gI V i ∧ gA V' i = gA V i ∧ gJ V' i = gJ V i ∧ gL V' i = gL V i) ∧ vY G V' x Y'
def RF (m : Nat) (f : mV → Option (mV × Int)) (Y Y' : mY) (a : Int) : Prop := ∀ V, rY V m Y → ∃ V', f V = some (V', a) ∧ (∀ i, i < m → gI V' i = gI V i ∧ gA V' i = gA V i ∧ gJ V' i = gJ V i ∧ gL V' i = gL V i) ∧ rY V' m Y'
section
variable {G : mG} {V V' : mV} {x m : Nat} {Y : mY}
theorem zC_fr {c : Nat} (h : zC G V c) (k : ∀ i, c ≤ i → i ≤ c + 40 → gI V' i = gI V i) : zC G V' c := h.fr k
/-- all but some cells of the class stand -/
theorem vY_of {Y' : mY} (h : vY G V x Y) (hT : yT Y' = yT Y) (hF : yF Y' = yF Y) (hI : yI Y' = yI Y) (hS : yS Y' = yS Y) (hE : gJ V' x 13 = yE Y') (k : ∀ i, ¬ zE G x i → gI V' i = gI V i ∧ gA V' i = gA V i) (hz : vZ G V' x (yZ Y')) : vY G V' x Y' := by
  obtain ⟨a, ⟨b1, b2⟩, c, ⟨d1, d2⟩, e, ⟨f1, f2⟩, g, i, ⟨j1, j2, j3, j4⟩⟩ := h
  have hI' : ∀ q, ¬ zE G x q → gI V' q = gI V q := fun q hq => (k q hq).1
  have hA' : ∀ q, ¬ zE G x q → gA V' q = gA V q := fun q hq => (k q hq).2
  have n : ∀ q, x ≤ q → q ≤ x + 44 → q ≠ x + 6 → ¬ (x + 27 ≤ q ∧ q ≤ x + 37) → ¬ zE G x q := by
    intro q q0 q1 q2 q3 z
    simp only [zE] at z
    have := a.1
    omega
  have rwo : ∀ {r : Nat} {N : Int} {f : Int → Int}, rw' V r N f → ¬ zE G x r → ¬ zE G x (r + 1) → rw' V' r N f := by
    intro r N f hr h1 h2
    refine ⟨by rw [hI' _ h1]; exact hr.1, fun j p q => ?_⟩
    show gA V' (r + 1) j.toNat = _
    rw [hA' _ h2]; exact hr.2 j p q
  have rzo : ∀ {r : Nat}, rz G V r → ¬ zE G x r → rz G V' r := by
    intro r hr h1
    unfold rz at hr ⊢
    rw [hI' _ h1]; exact hr
  refine ⟨hz, ⟨b1, b2.fr (fun q q0 q1 => hI' q (fun z => ?_))⟩, ?_, ⟨?_, ?_⟩, ?_, ⟨?_, fun z => ?_⟩, hE, ?_, ⟨?_, ?_, ?_, ?_⟩⟩
  · simp only [zE] at z
    rcases b1 with w | w <;> omega
  · rw [hT]; exact rwo c (n _ (by omega) (by omega) (by omega) (by omega)) (n _ (by omega) (by omega) (by omega) (by omega))
  · rw [hI' _ (n _ (by omega) (by omega) (by omega) (by omega)), hF]; exact d1
  · rw [hI' _ (n _ (by omega) (by omega) (by omega) (by omega)), hF]; exact d2
  · rw [hI]; exact rwo e (n _ (by omega) (by omega) (by omega) (by omega)) (n _ (by omega) (by omega) (by omega) (by omega))
  · rw [hS]; exact rwo f1 (n _ (by omega) (by omega) (by omega) (by omega)) (n _ (by omega) (by omega) (by omega) (by omega))
  · rw [hI' _ (n _ (by omega) (by omega) (by omega) (by omega)), hS]; exact f2 (by rw [← hS]; exact z)
  · unfold vLi; rw [hI' _ (n _ (by omega) (by omega) (by omega) (by omega))]; exact i
  · obtain ⟨z1, z2, z3, z4, z5⟩ := j1
    exact ⟨rzo z1 (n _ (by omega) (by omega) (by omega) (by omega)), rzo z2 (n _ (by omega) (by omega) (by omega) (by omega)), rzo z3 (n _ (by omega) (by omega) (by omega) (by omega)), rzo z4 (n _ (by omega) (by omega) (by omega) (by omega)), rzo z5 (n _ (by omega) (by omega) (by omega) (by omega))⟩
  · exact rwo j2 (n _ (by omega) (by omega) (by omega) (by omega)) (n _ (by omega) (by omega) (by omega) (by omega))
  · exact rzo j3 (n _ (by omega) (by omega) (by omega) (by omega))
  · rw [hI' _ (n _ (by omega) (by omega) (by omega) (by omega))]; exact j4
theorem CL_0 {f : mV → Option (mV × Int)} {a : Int} (h : ∀ V, vY G V x Y → f V = some (V, a)) : CL G x m f Y Y a := fun V hv => ⟨V, h V hv, fun _ _ => ⟨rfl, rfl, rfl, rfl⟩, hv⟩
theorem CL_E {f : mV → Option (mV × Int)} {a : Int} {Z' : mZ} (hm : m = x + 327) (h : ∀ V, vY G V x Y → ∃ V', f V = some (V', a) ∧ fr (zE G x) V V' ∧ vZ G V' x Z') : CL G x m f Y (Z', Y.2) a := by
  intro V hv
  obtain ⟨V', e, k, z⟩ := h V hv
  refine ⟨V', e, fun i hi => ?_, vY_of hv rfl rfl rfl rfl (by rw [k.1]; exact hv.2.2.2.2.2.2.1) k.2.2 z⟩
  have := hv.1.1
  obtain ⟨k1, k2⟩ := k.2.2 i (fun q => by simp only [zE] at q; omega)
  exact ⟨k1, k2, by rw [k.1], by rw [k.2.1]⟩
theorem rY_of {Y' : mY} (h : rY V m Y) (hT : yT Y' = yT Y) (hF : yF Y' = yF Y) (hI : yI Y' = yI Y) (hS : yS Y' = yS Y) (hE : gJ V' m 71 = yE Y') (k : rGb m V V') (hz : rZ V' m (yZ Y')) : rY V' m Y' := by
  obtain ⟨a, ⟨b1, b2⟩, ⟨c1, c2⟩, ⟨d1, d2⟩, ⟨e1, e2, e3⟩, f, g⟩ := h
  refine ⟨hz, ⟨fun j hj => ?_, ?_⟩, ⟨?_, ?_⟩, ⟨?_, fun j hj => ?_⟩, ⟨?_, fun j hj => ?_, fun z => ?_⟩, hE, fun q hq => ?_⟩
  · rw [k.1 _ (by omega) (by omega), hT]; rw [hT] at hj; exact b1 j hj
  · rw [k.2.1 m 1 (by omega), hT]; exact b2
  · rw [k.2.1 m 7 (by omega), hF]; exact c1
  · rw [k.2.1 m 8 (by omega), hF]; exact c2
  · rw [k.2.1 m 108 (by omega), hI]; exact d1
  · rw [k.1 _ (by omega) (by omega), hI]; rw [hI] at hj; exact d2 j hj
  · rw [k.2.1 m 72 (by omega), hS]; exact e1
  · rw [k.1 _ (by omega) (by omega), hS]; rw [hS] at hj; exact e2 j hj
  · rw [k.2.1 m 73 (by omega), hS]; exact e3 (by rw [← hS]; exact z)
  · have := g q hq
    unfold wdA at this ⊢
    unfold isW at hq
    rw [k.1 _ (by omega) (by omega)]; exact this
theorem RF_0 {f : mV → Option (mV × Int)} {a : Int} (h : ∀ V, rY V m Y → f V = some (V, a)) : RF m f Y Y a := fun V hv => ⟨V, h V hv, fun _ _ => ⟨rfl, rfl, rfl, rfl⟩, hv⟩
theorem rGb.lo {m : Nat} {V V' : mV} (h : rGb m V V') : ∀ i, i < m → gI V' i = gI V i ∧ gA V' i = gA V i ∧ gJ V' i = gJ V i ∧ gL V' i = gL V i := fun i hi => ⟨by funext k; exact h.2.1 i k (by omega), h.1 i (by omega) (by omega), by funext k; exact h.2.2.1 i k (by omega), h.2.2.2 i (by omega)⟩
theorem RF_E {f : mV → Option (mV × Int)} {a : Int} {Z' : mZ} (h : ∀ V, rY V m Y → ∃ V', f V = some (V', a) ∧ rG m V V' ∧ rZ V' m Z') : RF m f Y (Z', Y.2) a := by
  intro V hv
  obtain ⟨V', e, k, z⟩ := h V hv
  exact ⟨V', e, k.b.lo, rY_of hv rfl rfl rfl rfl (by rw [k.2.2.1 m 71 (by omega)]; exact hv.2.2.2.2.2.1) k.b z⟩
/-- the two together -/
theorem both {f g : mV → Option (mV × Int)} {Y' : mY} {a : Int} (hm : m = x + 327) (hC : CL G x m f Y Y' a) (hR : RF m g Y Y' a) (hv : vY G V x Y) (hr : rY V m Y) :
    ∃ V1 V2, f V = some (V1, a) ∧ g V1 = some (V2, a) ∧ vY G V2 x Y' ∧ rY V2 m Y' ∧ ∀ i, x + 400 ≤ i → True := by
  obtain ⟨V1, e1, k1, w1⟩ := hC V hv
  have r1 : rY V1 m Y := by
    obtain ⟨a, ⟨b1, b2⟩, ⟨c1, c2⟩, ⟨d1, d2⟩, ⟨e1, e2, e3⟩, f, g⟩ := hr
    have hA : ∀ i, m ≤ i → gA V1 i = gA V i := fun i hi => (k1 i hi).2.1
    have hI : gI V1 m = gI V m := (k1 m (Nat.le_refl _)).1
    refine ⟨?_, ⟨fun j hj => by rw [hA _ (by omega)]; exact b1 j hj, by rw [hI]; exact b2⟩, ⟨by rw [hI]; exact c1, by rw [hI]; exact c2⟩, ⟨by rw [hI]; exact d1, fun j hj => by rw [hA _ (by omega)]; exact d2 j hj⟩, ⟨by rw [hI]; exact e1, fun j hj => by rw [hA _ (by omega)]; exact e2 j hj, fun z => by rw [hI]; exact e3 z⟩, by rw [(k1 m (Nat.le_refl _)).2.2.1]; exact f, fun q hq => ?_⟩
    · obtain ⟨a1, a2, ⟨p1, p2, p3, p4⟩, a4, a5⟩ := a
      refine ⟨a1.fr ⟨fun i p q => hA i (by omega), (k1 _ (by omega)).2.2.2⟩, by rw [hA _ (by omega)]; exact a2, ⟨by rw [hI]; exact p1, p2, by rw [hI]; exact p3, fun i hi => ?_⟩, fun j p q => by rw [hA _ (by omega)]; exact a4 j p q, by rw [hI]; exact a5⟩
      rw [hI, hA _ (by omega)]; exact p4 i hi
    · have := g q hq
      unfold wdA at this ⊢
      rw [hA _ (by omega)]; exact this
  obtain ⟨V2, e2, k2, w2⟩ := hR V1 r1
  refine ⟨V1, V2, e1, e2, ?_, w2, fun _ _ => trivial⟩
  have hI : ∀ i, i < m → gI V2 i = gI V1 i := fun i hi => (k2 i hi).1
  have hA : ∀ i, i < m → gA V2 i = gA V1 i := fun i hi => (k2 i hi).2.1
  obtain ⟨a, ⟨b1, b2⟩, c, ⟨d1, d2⟩, e, ⟨f1, f2⟩, g, i, ⟨j1, j2, j3, j4⟩⟩ := w1
  have rwo : ∀ {r : Nat} {N : Int} {f : Int → Int}, rw' V1 r N f → r + 1 < m → rw' V2 r N f := by
    intro r N f hr h1
    refine ⟨by rw [hI _ (by omega)]; exact hr.1, fun j p q => ?_⟩
    show gA V2 (r + 1) j.toNat = _
    rw [hA _ (by omega)]; exact hr.2 j p q
  have rzo : ∀ {r : Nat}, rz G V1 r → r < m → rz G V2 r := by
    intro r hr h1
    unfold rz at hr ⊢
    rw [hI _ (by omega)]; exact hr
  have ha := a.1
  refine ⟨vZ_rf a (fun i hi => ⟨hI i (by omega), hA i (by omega)⟩), ⟨b1, b2.fr (fun q q0 q1 => hI q (by rcases b1 with w | w <;> omega))⟩, rwo c (by omega), ⟨by rw [hI _ (by omega)]; exact d1, by rw [hI _ (by omega)]; exact d2⟩, rwo e (by omega), ⟨rwo f1 (by omega), fun z => by rw [hI _ (by omega)]; exact f2 z⟩, by rw [(k2 x (by omega)).2.2.1]; exact g, by unfold vLi; rw [hI _ (by omega)]; exact i, ⟨?_, rwo j2 (by omega), rzo j3 (by omega), by rw [hI _ (by omega)]; exact j4⟩⟩
  obtain ⟨z1, z2, z3, z4, z5⟩ := j1
  exact ⟨rzo z1 (by omega), rzo z2 (by omega), rzo z3 (by omega), rzo z4 (by omega), rzo z5 (by omega)⟩
end

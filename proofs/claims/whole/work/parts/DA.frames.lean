/-! more frames: what a question leaves (class); what stands (reference) -/
abbrev zEa (G : mG) (x : Nat) : Nat → Prop := fun i => i = x + 6 ∨ (x + 26 ≤ i ∧ i ≤ x + 37) ∨ (x + 45 ≤ i ∧ i < x + 245) ∨ (gR G x 10 ≤ i ∧ i ≤ gR G x 10 + 40) ∨ x + 327 ≤ i
def sCq (x : Nat) (i : Nat) : Prop := (x + 9 ≤ i ∧ i ≤ x + 19) ∨ i = x + 1 ∨ i = x + 23 ∨ i = x + 24
section
variable {G G' : mG} {V V' V1 : mV} {x m n : Nat} {Y : mY}
theorem vY_ofa {Y' : mY} (h : vY G V x Y) (hT : yT Y' = yT Y) (hF : yF Y' = yF Y) (hI : yI Y' = yI Y) (hS : yS Y' = yS Y) (hE : gJ V' x 13 = yE Y') (k : ∀ i, ¬ zEa G x i → gI V' i = gI V i ∧ gA V' i = gA V i) (hz : vZ G V' x (yZ Y')) : vY G V' x Y' := by
  obtain ⟨a, ⟨b1, b2⟩, c, ⟨d1, d2⟩, e, ⟨f1, f2⟩, g, i, ⟨j1, j2, j3, j4⟩⟩ := h
  have hI' : ∀ q, ¬ zEa G x q → gI V' q = gI V q := fun q hq => (k q hq).1
  have hA' : ∀ q, ¬ zEa G x q → gA V' q = gA V q := fun q hq => (k q hq).2
  have n : ∀ q, x ≤ q → q ≤ x + 44 → q ≠ x + 6 → ¬ (x + 26 ≤ q ∧ q ≤ x + 37) → ¬ zEa G x q := by
    intro q q0 q1 q2 q3 z
    simp only [zEa] at z
    have := a.1
    omega
  have rwo : ∀ {r : Nat} {N : Int} {f : Int → Int}, rw' V r N f → ¬ zEa G x r → ¬ zEa G x (r + 1) → rw' V' r N f := by
    intro r N f hr h1 h2
    refine ⟨by rw [hI' _ h1]; exact hr.1, fun j p q => ?_⟩
    show gA V' (r + 1) j.toNat = _
    rw [hA' _ h2]; exact hr.2 j p q
  have rzo : ∀ {r : Nat}, rz G V r → ¬ zEa G x r → rz G V' r := by
    intro r hr h1
    unfold rz at hr ⊢
    rw [hI' _ h1]; exact hr
  refine ⟨hz, ⟨b1, b2.fr (fun q q0 q1 => hI' q (fun z => ?_))⟩, ?_, ⟨?_, ?_⟩, ?_, ⟨?_, fun z => ?_⟩, hE, ?_, ⟨?_, ?_, ?_, ?_⟩⟩
  · simp only [zEa] at z
    rcases b1 with w | w <;> omega
  · rw [hT]; exact rwo c (n _ (by omega) (by omega) (by omega) (by omega)) (n _ (by omega) (by omega) (by omega) (by omega))
  · rw [hI' _ (n _ (by omega) (by omega) (by omega) (by omega)), hF]; exact d1
  · rw [hI' _ (n _ (by omega) (by omega) (by omega) (by omega)), hF]; exact d2
  · rw [hI]; exact rwo e (n _ (by omega) (by omega) (by omega) (by omega)) (n _ (by omega) (by omega) (by omega) (by omega))
  · rw [hS]; exact rwo f1 (n _ (by omega) (by omega) (by omega) (by omega)) (n _ (by omega) (by omega) (by omega) (by omega))
  · rw [hI' _ (n _ (by omega) (by omega) (by omega) (by omega)), hS]; exact f2 (by rw [← hS]; exact z)
  · unfold vLi; rw [hI' _ (n _ (by omega) (by omega) (by omega) (by omega))]; exact i
  · obtain ⟨z1, z2, z3, z4, z5⟩ := j1
    exact ⟨rzo z1 (n _ (by omega) (by omega) (by omega) (by omega)), rzo z2 (n _ (by omega) (by omega) (by omega) (by omega)), rzo z3 (n _ (by omega) (by omega) (by omega) (by omega)), rzo z4 (n _ (by omega) (by omega) (by omega) (by omega)), rzo z5 (n _ (by omega) (by omega) (by omega) (by omega))⟩
  · exact rwo j2 (n _ (by omega) (by omega) (by omega) (by omega)) (n _ (by omega) (by omega) (by omega) (by omega))
  · exact rzo j3 (n _ (by omega) (by omega) (by omega) (by omega))
  · rw [hI' _ (n _ (by omega) (by omega) (by omega) (by omega))]; exact j4
theorem vY_cq {U : mV} {F : Int × Int} {c0 c1 : Nat} (h : vY G V x Y) (e0 : gR G x 10 = c0) (e1 : gR G x 11 = c1) (g0 : gR G' x 10 = c0) (g1 : gR G' x 11 = c1) (hq : ∀ a, qG G' a = qG G a) (k : fr (sCq x) V U) (hz : zC G' U c1) (hr : zRd G' U (x + 9)) (hT : rw' U (x + 1) 0 (fun k => (yT Y).1 k.toNat)) (h23 : rz G' U (x + 23)) (hF : gI U (x + 9) 11 = F.1 ∧ gI U (x + 9) 12 = F.2) :
    vY G' U x (yZ Y, ((yT Y).1, 0), F, yI Y, yS Y, yE Y) := by
  obtain ⟨⟨p1, p2, p3, p4, ⟨s0, p5⟩, p6, p7, p8⟩, ⟨b1, b2⟩, c, d, e, ⟨f1, f2⟩, g, i, ⟨j1, j2, j3, j4⟩⟩ := h
  rw [e0, e1] at b1
  rw [e0] at p1 p2
  have n : ∀ q, x ≤ q → q < x + 245 → ¬ (x + 9 ≤ q ∧ q ≤ x + 19) → q ≠ x + 1 → q ≠ x + 23 → q ≠ x + 24 → ¬ sCq x q := by
    intro q q0 q1 q2 q3 q4 q5 z
    unfold sCq at z
    omega
  have kI : ∀ q, ¬ sCq x q → gI U q = gI V q := fun q hq => (k.2.2 q hq).1
  have p8' := p8.fr k (n _ (by omega) (by omega) (by omega) (by omega) (by omega) (by omega)) (n _ (by omega) (by omega) (by omega) (by omega) (by omega) (by omega))
  refine ⟨⟨by rw [g0]; exact p1, ?_, ?_, ?_, ⟨s0, ?_⟩, ?_, ?_, p8'⟩, ⟨by rw [g0, g1]; exact b1, by rw [g1]; exact hz⟩, hT, hF, ?_, ⟨?_, fun q => ?_⟩, by rw [k.1]; exact g, ?_, ⟨hr, ?_, ?_, ?_⟩⟩
  · rw [g0]; exact p2.fr k (fun j q0 q1 _ => by unfold sCq; omega)
  · exact p3.fr k (fun j q0 q1 => n _ (by omega) (by omega) (by omega) (by omega) (by omega) (by omega))
  · exact p4.fr k (n _ (by omega) (by omega) (by omega) (by omega) (by omega) (by omega)) (n _ (by omega) (by omega) (by omega) (by omega) (by omega) (by omega))
  · exact p5.fr k (fun j q0 q1 => n _ (by omega) (by omega) (by omega) (by omega) (by omega) (by omega))
  · rw [kI _ (n _ (by omega) (by omega) (by omega) (by omega) (by omega) (by omega))]; exact p6
  · exact p7.fr k (fun j q0 q1 => n _ (by omega) (by omega) (by omega) (by omega) (by omega) (by omega))
  · exact e.fr k (n _ (by omega) (by omega) (by omega) (by omega) (by omega) (by omega)) (n _ (by omega) (by omega) (by omega) (by omega) (by omega) (by omega))
  · exact f1.fr k (n _ (by omega) (by omega) (by omega) (by omega) (by omega) (by omega)) (n _ (by omega) (by omega) (by omega) (by omega) (by omega) (by omega))
  · rw [kI _ (n _ (by omega) (by omega) (by omega) (by omega) (by omega) (by omega))]; exact f2 q
  · show 0 ≤ gI U (x + 43) 1 ∧ gI U (x + 43) 1 ≤ 10
    rw [kI _ (n _ (by omega) (by omega) (by omega) (by omega) (by omega) (by omega))]; exact i
  · exact j2.fr k (n _ (by omega) (by omega) (by omega) (by omega) (by omega) (by omega)) (n _ (by omega) (by omega) (by omega) (by omega) (by omega) (by omega))
  · exact h23
  · rw [kI _ (n _ (by omega) (by omega) (by omega) (by omega) (by omega) (by omega))]; exact j4
theorem rY_lo (hr : rY V m Y) (k1 : ∀ i, m ≤ i → i < m + 72 → gI V1 i = gI V i ∧ gA V1 i = gA V i ∧ gJ V1 i = gJ V i ∧ gL V1 i = gL V i) : rY V1 m Y := by
  obtain ⟨a, ⟨b1, b2⟩, ⟨c1, c2⟩, ⟨d1, d2⟩, ⟨e1, e2, e3⟩, f, g⟩ := hr
  have hA : ∀ i, m ≤ i → i < m + 72 → gA V1 i = gA V i := fun i hi hj => (k1 i hi hj).2.1
  have hI : gI V1 m = gI V m := (k1 m (Nat.le_refl _) (by omega)).1
  refine ⟨?_, ⟨fun j hj => by rw [hA _ (by omega) (by omega)]; exact b1 j hj, by rw [hI]; exact b2⟩, ⟨by rw [hI]; exact c1, by rw [hI]; exact c2⟩, ⟨by rw [hI]; exact d1, fun j hj => by rw [hA _ (by omega) (by omega)]; exact d2 j hj⟩, ⟨by rw [hI]; exact e1, fun j hj => by rw [hA _ (by omega) (by omega)]; exact e2 j hj, fun z => by rw [hI]; exact e3 z⟩, by rw [(k1 m (Nat.le_refl _) (by omega)).2.2.1]; exact f, fun q hq => ?_⟩
  · obtain ⟨a1, a2, ⟨p1, p2, p3, p4⟩, a4, a5⟩ := a
    refine ⟨a1.fr ⟨fun i p q => hA i (by omega) (by omega), (k1 _ (by omega) (by omega)).2.2.2⟩, by rw [hA _ (by omega) (by omega)]; exact a2, ⟨by rw [hI]; exact p1, p2, by rw [hI]; exact p3, fun i hi => ?_⟩, fun j p q => by rw [hA _ (by omega) (by omega)]; exact a4 j p q, by rw [hI]; exact a5⟩
    rw [hI, hA _ (by omega) (by omega)]; exact p4 i hi
  · have := g q hq
    unfold wdA at this ⊢
    unfold isW at hq
    rw [hA _ (by omega) (by omega)]; exact this
theorem gb_new {k : Nat} : gb n G (zR (nw G n (.inl k)) n) := by
  refine ⟨fun a ha => ?_, fun a j ha => ?_, fun a j ha => rfl⟩
  · show (if a = n then _ else G.1 a) = _
    rw [if_neg (by omega)]
  · show (if a = n then _ else G.2.1 a j) = _
    rw [if_neg (by omega)]
theorem gb.mono {n' : Nat} (h : gb n G G') (hn : n' ≤ n) : gb n' G G' := ⟨fun a ha => h.1 a (by omega), fun a j ha => h.2.1 a j (by omega), fun a j ha => h.2.2 a j (by omega)⟩
theorem is10_up (h : is10 G m) (k : gb n G G') (hn : m + 72 ≤ n) : is10 G' m := by
  have o1 : ∀ q, q < 72 → G'.1 (m + q) = G.1 (m + q) := fun q hq => k.1 _ (by omega)
  have o0 : G'.1 m = G.1 m := k.1 _ (by omega)
  have o2 : ∀ j, G'.2.1 m j = G.2.1 m j := fun j => k.2.1 _ _ (by omega)
  unfold is10 at h ⊢
  simp only [o0, o2]
  rw [o1 1 (by decide), o1 2 (by decide), o1 3 (by decide), o1 4 (by decide), o1 5 (by decide), o1 6 (by decide), o1 7 (by decide), o1 8 (by decide), o1 9 (by decide), o1 10 (by decide), o1 11 (by decide), o1 12 (by decide), o1 13 (by decide), o1 14 (by decide), o1 15 (by decide), o1 16 (by decide), o1 17 (by decide), o1 18 (by decide), o1 19 (by decide), o1 20 (by decide), o1 21 (by decide), o1 22 (by decide), o1 23 (by decide), o1 24 (by decide), o1 25 (by decide), o1 26 (by decide), o1 27 (by decide), o1 28 (by decide), o1 29 (by decide), o1 30 (by decide), o1 31 (by decide), o1 32 (by decide), o1 33 (by decide), o1 34 (by decide), o1 35 (by decide), o1 36 (by decide), o1 37 (by decide), o1 38 (by decide), o1 39 (by decide), o1 40 (by decide), o1 41 (by decide), o1 42 (by decide), o1 43 (by decide), o1 44 (by decide), o1 45 (by decide), o1 46 (by decide), o1 47 (by decide), o1 48 (by decide), o1 49 (by decide), o1 50 (by decide), o1 51 (by decide), o1 52 (by decide), o1 53 (by decide), o1 54 (by decide), o1 55 (by decide), o1 56 (by decide), o1 57 (by decide), o1 58 (by decide), o1 59 (by decide), o1 60 (by decide), o1 61 (by decide), o1 62 (by decide), o1 63 (by decide), o1 64 (by decide), o1 65 (by decide), o1 66 (by decide), o1 67 (by decide), o1 68 (by decide), o1 69 (by decide), o1 70 (by decide), o1 71 (by decide)]
  exact h
theorem z0_lo {a : Nat} (h : a ≠ n) : gI (z0 V n) a = gI V a ∧ gJ (z0 V n) a = gJ V a ∧ gA (z0 V n) a = gA V a ∧ gL (z0 V n) a = gL V a := by
  refine ⟨?_, ?_, rfl, rfl⟩
  · funext k
    exact if_neg h
  · funext k
    exact if_neg h
theorem z0_at : (∀ k, gI (z0 V n) n k = 0) ∧ ∀ k, gJ (z0 V n) n k = 0 := by
  refine ⟨fun k => ?_, fun k => ?_⟩
  · exact if_pos rfl
  · exact if_pos rfl
end

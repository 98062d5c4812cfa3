/-! hours asked (reference) -/
/-- what a question of the reference leaves alone -/
def rAq (m : Nat) (V V' : mV) : Prop := (∀ i, (i < m + 37 ∨ m + 41 < i) → i ≠ m + 68 → i ≠ m + 69 → gA V' i = gA V i) ∧ (∀ i k, (i ≠ m ∨ (k ≠ 1 ∧ k ≠ 2 ∧ k ≠ 3 ∧ k ≠ 4 ∧ k ≠ 5 ∧ k ≠ 6 ∧ k ≠ 7 ∧ k ≠ 8 ∧ k ≠ 10 ∧ k ≠ 35 ∧ k ≠ 48 ∧ k ≠ 58 ∧ k ≠ 61 ∧ k ≠ 62 ∧ k ≠ 64 ∧ k ≠ 65 ∧ k ≠ 98 ∧ k ≠ 100 ∧ k ≠ 101 ∧ k ≠ 102 ∧ k ≠ 104 ∧ k ≠ 106)) → gI V' i k = gI V i k) ∧ (∀ i k, (i ≠ m ∨ k < 51 ∨ (57 < k ∧ k ≠ 105)) → gJ V' i k = gJ V i k) ∧ (∀ i, i ≠ m + 70 → gL V' i = gL V i)
/-- the same within the hours: codes, what is put aside stand -/
def rAh (m : Nat) (V V' : mV) : Prop := (∀ i, i ≠ m + 37 → i ≠ m + 39 → i ≠ m + 40 → i ≠ m + 41 → gA V' i = gA V i) ∧ (∀ i k, (i ≠ m ∨ (k ≠ 58 ∧ k ≠ 61 ∧ k ≠ 62 ∧ k ≠ 64 ∧ k ≠ 65 ∧ k ≠ 104 ∧ k ≠ 106)) → gI V' i k = gI V i k) ∧ (∀ i k, (i ≠ m ∨ k < 51 ∨ (57 < k ∧ k ≠ 105)) → gJ V' i k = gJ V i k) ∧ (∀ i, i ≠ m + 70 → gL V' i = gL V i)
section
variable {G : mG} {V V' V1 V2 : mV} {m : Nat} {C : mCy} {M : mMo} {p : Int} {cs : List Int} {b : Bool}
theorem rAq.trans (h : rAq m V V1) (k : rAq m V1 V2) : rAq m V V2 := ⟨fun i a b c => (k.1 i a b c).trans (h.1 i a b c), fun i j q => (k.2.1 i j q).trans (h.2.1 i j q), fun i j q => (k.2.2.1 i j q).trans (h.2.2.1 i j q), fun i q => (k.2.2.2 i q).trans (h.2.2.2 i q)⟩
theorem rAh.trans (h : rAh m V V1) (k : rAh m V1 V2) : rAh m V V2 := ⟨fun i a b c d => (k.1 i a b c d).trans (h.1 i a b c d), fun i j q => (k.2.1 i j q).trans (h.2.1 i j q), fun i j q => (k.2.2.1 i j q).trans (h.2.2.1 i j q), fun i q => (k.2.2.2 i q).trans (h.2.2.2 i q)⟩
theorem rAh_refl : rAh m V V := ⟨fun _ _ _ _ _ => rfl, fun _ _ _ => rfl, fun _ _ _ => rfl, fun _ _ => rfl⟩
theorem rH.ah (h : rH m V V1) : rAh m V V1 := ⟨h.1, fun i k q => h.2.1 i k (by omega), fun i k q => h.2.2.1 i k (by omega), h.2.2.2⟩
theorem rT.ah (h : rT m V V1) : rAh m V V1 := h.H.ah
theorem rAh.q (h : rAh m V V1) : rAq m V V1 := ⟨fun i a _ _ => h.1 i (by omega) (by omega) (by omega) (by omega), fun i k q => h.2.1 i k (by omega), h.2.2.1, h.2.2.2⟩
theorem rB.q (h : rB m V V1) : rAq m V V1 := ⟨fun i _ a b => h.2.2.1 i a b, fun i k q => h.2.2.2 i k (by omega), fun i k _ => by rw [h.1], fun i _ => by rw [h.2.1]⟩
theorem rAq_sI {k : Nat} {x : Int} (hk : k = 1 ∨ k = 2 ∨ k = 3 ∨ k = 4 ∨ k = 5 ∨ k = 6 ∨ k = 7 ∨ k = 8 ∨ k = 48 ∨ k = 98 ∨ k = 100 ∨ k = 101 ∨ k = 102 ∨ k = 106) : rAq m V (sI V m k x) := ⟨fun _ _ _ _ => rfl, fun i j q => by rw [gI_sI, if_neg (by omega)], fun _ _ _ => rfl, fun _ _ => rfl⟩
theorem rAh_sI {k : Nat} {x : Int} (hk : k = 58 ∨ k = 106) : rAh m V (sI V m k x) := ⟨fun _ _ _ _ _ => rfl, fun i j q => by rw [gI_sI, if_neg (by omega)], fun _ _ _ => rfl, fun _ _ => rfl⟩
theorem rAh_sJ {k : Nat} {x : Int} (hk : k = 51 ∨ k = 52 ∨ k = 105) : rAh m V (sJ V m k x) := ⟨fun _ _ _ _ _ => rfl, fun _ _ _ => rfl, fun i j q => by
  show u2 (gJ V) m k x i j = _
  unfold u2
  rw [if_neg (by omega)], fun _ _ => rfl⟩
/-- the tally of the reference -/
theorem r_qtk {t : mTl} {j : Nat} {k h v : Int} (hb : tlB j t) (hj : j ≤ 100) (hk : 0 ≤ k ∧ k ≤ 5) (hh : 0 ≤ h ∧ h ≤ 9999) (hv : -1000000 ≤ v ∧ v ≤ 1000000) (h01 : k ≤ 2 → v = 0 ∨ v = 1) (ha : gJ V m 105 = tlA t k) (hn : gI V m 106 = if j = 0 then 1 else 0) :
    ∃ V', F_X10_qTakes G m k v h V = some (V', 0) ∧ rAh m V V' ∧ gA V' = gA V ∧ gJ V' m 105 = tlA (tlS t h v) k ∧ gI V' m 106 = 0 ∧ gI V' m 61 = gI V m 61 := by
  obtain ⟨b0, b1, b2, b3, b4, b5, b6⟩ := hb
  have rk : rg k := ⟨by omega, by omega⟩
  have rv : rl v := ⟨by omega, by omega⟩
  have rh : rg h := ⟨by omega, by omega⟩
  have r0 : rg (0 : Int) := ⟨by decide, by decide⟩
  have r1 : rg (1 : Int) := ⟨by decide, by decide⟩
  -- the end: a number put in, or none
  have fin : ∀ {U : mV}, rAh m V U → gA U = gA V → gI U m 61 = gI V m 61 → gJ U m 105 = tlA (tlS t h v) k → (rAh m V (sI U m 106 0) ∧ gA (sI U m 106 0) = gA V ∧ gJ (sI U m 106 0) m 105 = tlA (tlS t h v) k ∧ gI (sI U m 106 0) m 106 = 0 ∧ gI (sI U m 106 0) m 61 = gI V m 61) := by
    intro U f g i61 e
    exact ⟨f.trans (rAh_sI (by omega)), g, e, by rw [gI_sI, if_pos ⟨rfl, rfl⟩], by rw [gI_sI, if_neg (by omega)]; exact i61⟩
  have put : ∀ {x : Int}, x = tlA (tlS t h v) k → (rAh m V (sJ V m 105 x) ∧ gA (sJ V m 105 x) = gA V ∧ gI (sJ V m 105 x) m 61 = gI V m 61 ∧ gJ (sJ V m 105 x) m 105 = tlA (tlS t h v) k) := by
    intro x e
    exact ⟨rAh_sJ (by omega), rfl, rfl, by rw [gJ_sJ, if_pos ⟨rfl, rfl⟩]; exact e⟩
  have j90 : ∀ {U : mV}, k ≤ 3 → F_X10_qTakes_J90 G m k v h U = some (sI U m 106 0, 0) := by
    intro U hk3
    unfold F_X10_qTakes_J90
    exact E_gd rk (E_if (fun _ => E_lt rfl) (fun q => absurd hk3 q))
  have j75 : ∀ {U : mV}, k ≤ 2 → F_X10_qTakes_J75 G m k v h U = some (sI U m 106 0, 0) := by
    intro U hk2
    unfold F_X10_qTakes_J75
    exact E_gd rk (E_if (fun q => by omega) (fun _ => j90 (by omega)))
  have j55 : ∀ {U : mV} {s : Int}, k ≤ 1 → F_X10_qTakes_J55 G m k v h s U = some (sI U m 106 0, 0) := by
    intro U s hk2
    unfold F_X10_qTakes_J55
    exact E_gd rk (E_if (fun q => by omega) (fun _ => j75 (by omega)))
  have kcs : k = 0 ∨ k = 1 ∨ k = 2 ∨ 3 ≤ k := by omega
  rcases kcs with rfl | rfl | rfl | k3
  · -- the first one
    have v01 := h01 (by decide)
    have top : ∀ {V3 : mV}, (if v = 1 then F_X10_qTakes_J16 G m 0 v h 1 V else F_X10_qTakes_J16 G m 0 v h 0 V) = some (V3, 0) → F_X10_qTakes G m 0 v h V = some (V3, 0) := by
      intro V3 e
      unfold F_X10_qTakes
      refine E_gd rk (E_if (fun q => absurd q (by decide)) (fun _ => E_gd rv (E_if (fun q => ?_) (fun q => ?_))))
      · rw [if_pos q] at e; exact e
      · rw [if_neg q] at e; unfold F_X10_qTakes_J15; exact e
    have ha' : gJ V m 105 = t.2.1 := ha
    rcases v01 with e | e
    · refine ⟨sI V m 106 0, top ?_, fin rAh_refl rfl rfl (by rw [ha', e]; simp [tlA, tlS])⟩
      rw [if_neg (by omega)]
      unfold F_X10_qTakes_J16
      refine E_gd rk (E_if (fun _ => E_gd r0 (E_if (fun _ => ?_) (fun q => absurd rfl q))) (fun q => absurd rfl q))
      unfold F_X10_qTakes_J38
      exact E_gd rk (E_if (fun q => absurd q (by decide)) (fun _ => j55 (by decide)))
    · by_cases d : t.2.1 = -1
      · obtain ⟨f1, f2, f3, f4⟩ := put (x := h) (by rw [e]; simp [tlA, tlS, d])
        refine ⟨sI (sJ V m 105 h) m 106 0, top ?_, fin f1 f2 f3 f4⟩
        rw [if_pos e]
        unfold F_X10_qTakes_J16
        refine E_gd rk (E_if (fun _ => E_gd r1 (E_if (fun q => absurd q (by decide)) (fun _ => ?_))) (fun q => absurd rfl q))
        rw [ha']
        refine E_gd ⟨by omega, by omega⟩ (E_if (fun _ => ?_) (fun q => absurd d q))
        unfold F_X10_qTakes_J48
        exact E_gd rh (E_lt (j55 (by decide)))
      · refine ⟨sI V m 106 0, top ?_, fin rAh_refl rfl rfl (by rw [ha', e]; simp [tlA, tlS, d])⟩
        rw [if_pos e]
        unfold F_X10_qTakes_J16
        refine E_gd rk (E_if (fun _ => E_gd r1 (E_if (fun q => absurd q (by decide)) (fun _ => ?_))) (fun q => absurd rfl q))
        rw [ha']
        refine E_gd ⟨by omega, by omega⟩ (E_if (fun q => absurd q d) (fun _ => ?_))
        unfold F_X10_qTakes_J38
        exact E_gd rk (E_if (fun q => absurd q (by decide)) (fun _ => j55 (by decide)))
  · -- the last one
    have v01 := h01 (by decide)
    have top : ∀ {V3 : mV} {s : Int}, (s = if v = 1 then 1 else 0) → F_X10_qTakes_J38 G m 1 v h s V = some (V3, 0) → F_X10_qTakes G m 1 v h V = some (V3, 0) := by
      intro V3 s hs e
      unfold F_X10_qTakes
      refine E_gd rk (E_if (fun q => absurd q (by decide)) (fun _ => E_gd rv (E_if (fun q => ?_) (fun q => ?_))))
      · rw [if_pos q] at hs
        rw [hs] at e
        unfold F_X10_qTakes_J16
        exact E_gd rk (E_if (fun q => absurd q (by decide)) (fun _ => e))
      · rw [if_neg q] at hs
        rw [hs] at e
        unfold F_X10_qTakes_J15 F_X10_qTakes_J16
        exact E_gd rk (E_if (fun q => absurd q (by decide)) (fun _ => e))
    have ha' : gJ V m 105 = t.2.2.1 := ha
    rcases v01 with e | e
    · refine ⟨sI V m 106 0, top (s := 0) (by rw [if_neg (by omega)]) ?_, fin rAh_refl rfl rfl (by rw [ha', e]; simp [tlA, tlS])⟩
      unfold F_X10_qTakes_J38
      exact E_gd rk (E_if (fun _ => E_gd r0 (E_if (fun _ => j55 (by decide)) (fun q => absurd rfl q))) (fun q => absurd rfl q))
    · obtain ⟨f1, f2, f3, f4⟩ := put (x := h) (by rw [e]; simp [tlA, tlS])
      refine ⟨sI (sJ V m 105 h) m 106 0, top (s := 1) (by rw [if_pos e]) ?_, fin f1 f2 f3 f4⟩
      unfold F_X10_qTakes_J38
      refine E_gd rk (E_if (fun _ => E_gd r1 (E_if (fun q => absurd q (by decide)) (fun _ => ?_))) (fun q => absurd rfl q))
      unfold F_X10_qTakes_J48
      exact E_gd rh (E_lt (j55 (by decide)))
  · -- how often
    have v01 := h01 (by decide)
    have top : ∀ {V3 : mV} {s : Int}, (s = if v = 1 then 1 else 0) → F_X10_qTakes_J55 G m 2 v h s V = some (V3, 0) → F_X10_qTakes G m 2 v h V = some (V3, 0) := by
      intro V3 s hs e
      have e38 : F_X10_qTakes_J38 G m 2 v h s V = some (V3, 0) := by
        unfold F_X10_qTakes_J38
        exact E_gd rk (E_if (fun q => absurd q (by decide)) (fun _ => e))
      unfold F_X10_qTakes
      refine E_gd rk (E_if (fun q => absurd q (by decide)) (fun _ => E_gd rv (E_if (fun q => ?_) (fun q => ?_))))
      · rw [if_pos q] at hs
        rw [hs] at e38
        unfold F_X10_qTakes_J16
        exact E_gd rk (E_if (fun q => absurd q (by decide)) (fun _ => e38))
      · rw [if_neg q] at hs
        rw [hs] at e38
        unfold F_X10_qTakes_J15 F_X10_qTakes_J16
        exact E_gd rk (E_if (fun q => absurd q (by decide)) (fun _ => e38))
    have ha' : gJ V m 105 = t.2.2.2.1 := ha
    rcases v01 with e | e
    · refine ⟨sI V m 106 0, top (s := 0) (by rw [if_neg (by omega)]) ?_, fin rAh_refl rfl rfl (by rw [ha', e]; simp [tlA, tlS])⟩
      unfold F_X10_qTakes_J55
      exact E_gd rk (E_if (fun _ => E_gd r0 (E_if (fun _ => j75 (by decide)) (fun q => absurd rfl q))) (fun q => absurd rfl q))
    · obtain ⟨f1, f2, f3, f4⟩ := put (x := gJ V m 105 + 1) (by rw [ha', e]; simp [tlA, tlS])
      refine ⟨sI (sJ V m 105 (gJ V m 105 + 1)) m 106 0, top (s := 1) (by rw [if_pos e]) ?_, fin f1 f2 f3 f4⟩
      unfold F_X10_qTakes_J55
      exact E_gd rk (E_if (fun _ => E_gd r1 (E_if (fun q => absurd q (by decide)) (fun _ => E_lt (j75 (by decide))))) (fun q => absurd rfl q))
  · have top : ∀ {V3 : mV}, F_X10_qTakes_J75 G m k v h V = some (V3, 0) → F_X10_qTakes G m k v h V = some (V3, 0) := by
      intro V3 e
      unfold F_X10_qTakes
      refine E_gd rk (E_if (fun _ => ?_) (fun q => absurd k3 q))
      unfold F_X10_qTakes_J15 F_X10_qTakes_J16
      refine E_gd rk (E_if (fun q => by omega) (fun _ => ?_))
      unfold F_X10_qTakes_J38
      refine E_gd rk (E_if (fun q => by omega) (fun _ => ?_))
      unfold F_X10_qTakes_J55
      exact E_gd rk (E_if (fun q => by omega) (fun _ => e))
    by_cases c3 : k = 3
    · subst c3
      have ha' : gJ V m 105 = t.2.2.2.2.1 := ha
      obtain ⟨f1, f2, f3, f4⟩ := put (x := gJ V m 105 + v) (by rw [ha']; rfl)
      refine ⟨sI (sJ V m 105 (gJ V m 105 + v)) m 106 0, top ?_, fin f1 f2 f3 f4⟩
      unfold F_X10_qTakes_J75
      exact E_gd rk (E_if (fun _ => E_lt (j90 (by decide))) (fun q => absurd rfl q))
    · have top2 : ∀ {V3 : mV}, F_X10_qTakes_J90 G m k v h V = some (V3, 0) → F_X10_qTakes G m k v h V = some (V3, 0) := by
        intro V3 e
        refine top ?_
        unfold F_X10_qTakes_J75
        exact E_gd rk (E_if (fun q => absurd q c3) (fun _ => e))
      have j128 : ∀ {U : mV}, F_X10_qTakes_J128 G m k v h U = some (sI (sJ U m 105 v) m 106 0, 0) := rfl
      have rn : rg (gI V m 106) := by rw [hn]; split <;> exact ⟨by decide, by decide⟩
      by_cases j0 : j = 0
      · -- the first hour
        rw [if_pos j0] at hn
        have t0 : t.1 = 0 := by omega
        obtain ⟨f1, f2, f3, f4⟩ := put (x := v) (by
          have : k = 4 ∨ k = 5 := by omega
          rcases this with rfl | rfl <;> simp [tlA, tlS, t0])
        refine ⟨sI (sJ V m 105 v) m 106 0, top2 ?_, fin f1 f2 f3 f4⟩
        unfold F_X10_qTakes_J90
        exact E_gd rk (E_if (fun q => by omega) (fun _ => E_gd rn (E_if (fun q => by omega) (fun _ => j128))))
      · rw [if_neg j0] at hn
        have t0 : ¬ t.1 = 0 := by omega
        by_cases c4 : k = 4
        · subst c4
          have ha' : gJ V m 105 = t.2.2.2.2.2.1 := ha
          have eA : tlA (tlS t h v) 4 = max t.2.2.2.2.2.1 v := by simp [tlA, tlS, t0]
          by_cases d : v ≤ t.2.2.2.2.2.1
          · refine ⟨sI V m 106 0, top2 ?_, fin rAh_refl rfl rfl (by rw [ha', eA]; omega)⟩
            unfold F_X10_qTakes_J90
            rw [ha']
            exact E_gd rk (E_if (fun q => absurd q (by decide)) (fun _ => E_gd rn (E_if (fun _ => E_if (fun _ => E_gd rv (E_gd ⟨by omega, by omega⟩ (E_if (fun _ => E_lt rfl) (fun q => absurd d q)))) (fun q => absurd rfl q)) (fun q => absurd hn q))))
          · obtain ⟨f1, f2, f3, f4⟩ := put (x := v) (by rw [eA]; omega)
            refine ⟨sI (sJ V m 105 v) m 106 0, top2 ?_, fin f1 f2 f3 f4⟩
            unfold F_X10_qTakes_J90
            rw [ha']
            exact E_gd rk (E_if (fun q => absurd q (by decide)) (fun _ => E_gd rn (E_if (fun _ => E_if (fun _ => E_gd rv (E_gd ⟨by omega, by omega⟩ (E_if (fun q => absurd q d) (fun _ => j128)))) (fun q => absurd rfl q)) (fun q => absurd hn q))))
        · obtain rfl : k = 5 := by omega
          have ha' : gJ V m 105 = t.2.2.2.2.2.2 := ha
          have eA : tlA (tlS t h v) 5 = min t.2.2.2.2.2.2 v := by simp [tlA, tlS, t0]
          by_cases d : t.2.2.2.2.2.2 ≤ v
          · refine ⟨sI V m 106 0, top2 ?_, fin rAh_refl rfl rfl (by rw [ha', eA]; omega)⟩
            unfold F_X10_qTakes_J90
            rw [ha']
            exact E_gd rk (E_if (fun q => absurd q (by decide)) (fun _ => E_gd rn (E_if (fun _ => E_if (fun q => absurd q (by decide)) (fun _ => E_gd rv (E_gd ⟨by omega, by omega⟩ (E_if (fun _ => E_lt rfl) (fun q => absurd d q))))) (fun q => absurd hn q))))
          · obtain ⟨f1, f2, f3, f4⟩ := put (x := v) (by rw [eA]; omega)
            refine ⟨sI (sJ V m 105 v) m 106 0, top2 ?_, fin f1 f2 f3 f4⟩
            unfold F_X10_qTakes_J90
            rw [ha']
            exact E_gd rk (E_if (fun q => absurd q (by decide)) (fun _ => E_gd rn (E_if (fun _ => E_if (fun q => absurd q (by decide)) (fun _ => E_gd rv (E_gd ⟨by omega, by omega⟩ (E_if (fun q => absurd q d) (fun _ => j128))))) (fun q => absurd hn q))))
/-- a number that is held stands -/
theorem hld_id {v : Int} (h : -1000000 ≤ v ∧ v ≤ 1000000) : hld v = v := by unfold hld; omega
/-- what a question tells of the hour -/
theorem r_qval (ho : okC C) (hv : rC V m C) {d : Int → Int} (hM : rM (gA V (m + 37)) (cn C) M) (hoM : okM (cn C) M) (hd : ∀ p, 0 ≤ p → p < 10 → gA V (m + 40) p.toNat = d p) (hdb : ∀ p, 0 ≤ d p ∧ d p ≤ 24) (hp : 0 ≤ p ∧ p < cn C) (h58 : gI V m 58 = p) (h51 : gJ V m 51 = mh M % 24) (h52 : gJ V m 52 = mh M / 24) (h98 : gI V m 98 = (cs.length : Int)) (hl : cs.length ≤ 1600) (hcl : clr (gA V (m + 68)) 0 cs) (hc : okc b 40 cs) (hpk : pkS (alS 3) (3 = 3) cs) {i : Int} :
    ∃ g : Nat → Int, F_X10_qTold G m i V = some (pU V m g 1, qV C (M, d) p cs) := by
  have hn := ho.1
  have hh := hoM.1
  have hlp := hoM.2.1 p hp.1 hp.2
  have dp := hdb p
  obtain ⟨e, -, -⟩ := qV_ok (d := d) ho hoM hp ⟨dp.1, by omega⟩ hc
  have oF := okF_q (d := d) ho hoM hp ⟨dp.1, by omega⟩
  have c1 : gA V (m + 37) (1 + 12 * p).toNat = ml M p := (hM.2.1 p hp.1 hp.2).1
  have c4 := hd p hp.1 (by omega)
  have hS : ∀ k ∈ alS 3, rfa V m k = qF M d p k := by
    intro k hk
    have : k ∈ ([0, 1, 7, 8, 9] : List Int) := hk
    have hk5 : k = 0 ∨ k = 1 ∨ k = 7 ∨ k = 8 ∨ k = 9 := by simpa using this
    rcases hk5 with rfl | rfl | rfl | rfl | rfl
    · show gJ V m 51 = mh M % 24; exact h51
    · show gJ V m 52 = mh M / 24; exact h52
    · show gA V (m + 37) 0 = mh M; exact hM.1
    · show (if gA V (m + 37) (1 + 12 * gI V m 58).toNat = -1 then 99 else gA V (m + 37) (1 + 12 * gI V m 58).toNat) = (if ml M p = -1 then 99 else ml M p)
      rw [h58, c1]
    · show gA V (m + 40) (gI V m 58).toNat = d p
      rw [h58]; exact c4
  have e' : evs (rfa V m) (qK C M p) cs [] = some [qV C (M, d) p cs] := by
    rw [evs_cq (fb := qF M d p) hS hpk]; exact e
  refine rq_told (kn := qK C M p) h98 hl hcl ?_ ?_ ?_ ?_ e'
  · intro a U ha hA h58'
    unfold F_X10_qOf
    have pm : F_X10_peopleMany G m U = some (U, cn C) := by
      unfold F_X10_peopleMany
      rw [hA, hv.1.1]
    have hU : rM (gA U (m + 37)) (cn C) M := by rw [hA]; exact hM
    have ii := r_isIn (G := G) (V := U) (x := a) (a := 0) (b := cn C - 1) ⟨by omega, by omega⟩ ⟨by decide, by decide⟩ ⟨by omega, by omega⟩
    refine E_gd (show rg (60 - 60 : Int) by decide) (E_bd pm (E_gd ⟨by omega, by omega⟩ ?_))
    unfold qK
    by_cases z : 0 ≤ a ∧ a < cn C
    · rw [if_pos (show 0 ≤ a ∧ a ≤ cn C - 1 by omega)] at ii
      rw [if_pos z]
      have bp := hoM.2.2.2.2.1 p a hp.1 hp.2 z.1 z.2
      have pt := r_pts (G := G) hU hn.2 hp z
      refine E_y ii ?_
      rw [h58', h58]
      exact E_bd pt (E_gd ⟨by omega, by omega⟩ rfl)
    · rw [if_neg (show ¬ (0 ≤ a ∧ a ≤ cn C - 1) by omega)] at ii
      rw [if_neg z]
      exact E_n ii rfl
  · intro a
    have := oF.2 a
    exact ⟨⟨by omega, by omega⟩, hld_id this⟩
  · intro k hk
    rw [hS k hk]
    have := oF.1 k
    exact ⟨⟨by omega, by omega⟩, hld_id this⟩
  · intro v hvm
    have pv := hpk v hvm
    refine ⟨fun _ _ => ?_, fun q => ?_⟩
    · unfold h7c
      rw [h58, c1, c4, hM.1]
      exact ⟨⟨by omega, by omega⟩, ⟨by omega, by omega⟩, ⟨by omega, by omega⟩, by omega, by omega⟩
    · rcases pv.2 with w | ⟨-, -, w⟩ | ⟨w, -⟩ | w
      · omega
      · exact w
      · omega
      · omega
end

/-! who it was: both -/
def fit (C : mCy) (M : mMo) (S : Int × List Int) (p : Int) : Prop := ∀ i, 3 * i + 2 < S.2.length → canD C M p S.1 (S.2.getD (3 * i + 1) 0) (S.2.getD (3 * i) 0) = (if S.2.getD (3 * i + 2) 0 = 1 then 1 else 0)
noncomputable def fitI (C : mCy) (M : mMo) (S : Int × List Int) (p : Int) : Int := @ite _ (fit C M S p) (Classical.propDecidable _) 1 0
theorem fitI_y {C : mCy} {M : mMo} {S : Int × List Int} {p : Int} (h : fit C M S p) : fitI C M S p = 1 := if_pos h
theorem fitI_n {C : mCy} {M : mMo} {S : Int × List Int} {p : Int} (h : ¬ fit C M S p) : fitI C M S p = 0 := if_neg h
def whoB (f : Int → Int) (p b : Int) : Int := if f p = 0 then b else bor b (shl 1 p)
noncomputable def aWho (Y : mY) : Int := if (yS Y).2 = [] then -1 else itr (whoB (fitI (yZ Y).1 (yZ Y).2.1 (yS Y))) 0 (cn (yZ Y).1).toNat 0
theorem whoB_rg {f : Int → Int} : ∀ k : Nat, k ≤ 10 → 0 ≤ itr (whoB f) 0 k 0 ∧ itr (whoB f) 0 k 0 < 1024 := by
  intro k
  induction k with
  | zero => intro _; exact ⟨Int.le_refl _, (by decide : (0 : Int) < 1024)⟩
  | succ k ih =>
    intro hk
    have i := ih (by omega)
    rw [itr_snoc, show (0 : Int) + (k : Int) = (k : Int) by omega]
    unfold whoB at i ⊢
    split
    · exact i
    · have := nx_lt (n := 10) (p := (k : Int)) (by show 0 ≤ _ ∧ _ < 1024; exact i) ⟨by omega, by show (k : Int) < 10; omega⟩
      exact ⟨this.1, this.2⟩
section
variable {G : mG} {V V' : mV} {x m N : Nat} {Y : mY}
theorem c_fits (hG : is9 G x) (h : okY Y) (hv : vZ G V x (yZ Y)) (hS : vS V x (yS Y)) (hne : (yS Y).2 ≠ []) {p : Int} (hp : 0 ≤ p ∧ p < cn (yZ Y).1) :
    ∃ V', F_X9_fitsSlips G x p V = some (V', fitI (yZ Y).1 (yZ Y).2.1 (yS Y) p) ∧ kC V' (x + 27) ∧ fr (sT (x + 27) (gR G x 10)) V V' := by
  obtain ⟨l1, l2, l3, l4⟩ := h.2.2.2.2.2.1
  have hl := l3 hne
  have hn := h.1.1.1
  have ht := h.1.1.2.1
  have main : Wp (lp (fun (s : Int) V => B_X9_fitsSlips_2 G x p s V) FU 0 V) (fun V' q => fr (sT (x + 27) (gR G x 10)) V V' ∧ kC V' (x + 27) ∧ ((q.1 = 1 ∧ ¬ fit (yZ Y).1 (yZ Y).2.1 (yS Y) p) ∨ (q.1 = 2 ∧ fit (yZ Y).1 (yZ Y).2.1 (yS Y) p))) := by
    refine W_lp (fun w (y : Int) U => fr (sT (x + 27) (gR G x 10)) V U ∧ kC U (x + 27) ∧ ∃ i : Nat, y = ((3 * i : Nat) : Int) ∧ 3 * i + 3 * w = (yS Y).2.length ∧ ∀ j, j < i → canD (yZ Y).1 (yZ Y).2.1 p (yS Y).1 ((yS Y).2.getD (3 * j + 1) 0) ((yS Y).2.getD (3 * j) 0) = (if (yS Y).2.getD (3 * j + 2) 0 = 1 then 1 else 0)) ?_ FU ((yS Y).2.length / 3) _ V ⟨fr_refl, hv.2.2.2.1, 0, rfl, by omega, fun j hj => by omega⟩ (by unfold FU; omega)
    rintro w y U ⟨hf, hkU, i, rfl, hw, hr⟩
    obtain ⟨-, hvU⟩ := vZ_T hv hf hkU
    have ha := hv.1
    have hrow : rw' U (x + 7) (((yS Y).2.length : Nat) : Int) (fun k => (yS Y).2.getD k.toNat 0) := hS.1.fr hf (by simp only [sT, isSk]; omega) (by simp only [sT, isSk]; omega)
    have h12 : gI U x 12 = (yS Y).1 := by rw [hf.I (by simp only [sT, isSk]; omega)]; exact hS.2 hne
    unfold B_X9_fitsSlips_2
    refine W_be p7_size ?_
    rw [hrow.1]
    refine W_gd ⟨by omega, by omega⟩ (W_gd ⟨by omega, by omega⟩ (W_if (fun q => W_so (Or.inr ⟨(by decide : (2 : Nat) ≠ 0), hf, hkU, Or.inr ⟨rfl, fun j hj => hr j (by omega)⟩⟩)) (fun q => ?_)))
    obtain ⟨o1, o2, o3⟩ := l4 i (by omega)
    have get : ∀ {U : mV} (z : Int) (k : Nat), rw' U (x + 7) (((yS Y).2.length : Nat) : Int) (fun k => (yS Y).2.getD k.toNat 0) → z = (k : Int) → k < (yS Y).2.length → F_X7_get G (x + 7) z U = some (U, (yS Y).2.getD k 0) := by
      intro U z k hU hz hk
      rw [hz, rw_get (s9_3s hG) (s9_3c hG) hU (by show (((yS Y).2.length : Nat) : Int) ≤ 60; omega) ⟨by omega, by omega⟩, Int.toNat_natCast]
    obtain ⟨U1, g1, k1, f1, c01⟩ := c_ableNow (s9_5s hG) (s9_10s hG) (s9_8s hG) h.1.1 hvU.2.1 hkU (by omega) (by omega) hvU.2.2.1 h.1.2.1 (p := p) (l := (yS Y).1) (task := (yS Y).2.getD (3 * i + 1) 0) (clock := (yS Y).2.getD (3 * i) 0) hp hl o2 o1
    have hrow1 : rw' U1 (x + 7) (((yS Y).2.length : Nat) : Int) (fun k => (yS Y).2.getD k.toNat 0) := hrow.fr f1 (by simp only [sT, isSk]; omega) (by simp only [sT, isSk]; omega)
    refine W_be (get _ (3 * i + 1) hrow (by omega) (by omega)) (W_be (get _ (3 * i) hrow rfl (by omega)) ?_)
    rw [h12]
    refine W_be g1 (W_be (get _ (3 * i + 2) hrow1 (by omega) (by omega)) (W_gd ⟨by omega, by omega⟩ ?_))
    have J : ∀ s1 : Int, s1 = (if (yS Y).2.getD (3 * i + 2) 0 = 1 then 1 else 0) → Wp (F_X9_fitsSlips_J76_2 G x p ((3 * i : Nat) : Int) (canD (yZ Y).1 (yZ Y).2.1 p (yS Y).1 ((yS Y).2.getD (3 * i + 1) 0) ((yS Y).2.getD (3 * i) 0)) s1 U1) (fun V' q => (q.1 = 0 ∧ ∃ w', w' < w ∧ fr (sT (x + 27) (gR G x 10)) V V' ∧ kC V' (x + 27) ∧ ∃ i : Nat, q.2 = ((3 * i : Nat) : Int) ∧ 3 * i + 3 * w' = (yS Y).2.length ∧ ∀ j, j < i → canD (yZ Y).1 (yZ Y).2.1 p (yS Y).1 ((yS Y).2.getD (3 * j + 1) 0) ((yS Y).2.getD (3 * j) 0) = (if (yS Y).2.getD (3 * j + 2) 0 = 1 then 1 else 0)) ∨ (q.1 ≠ 0 ∧ fr (sT (x + 27) (gR G x 10)) V V' ∧ kC V' (x + 27) ∧ ((q.1 = 1 ∧ ¬ fit (yZ Y).1 (yZ Y).2.1 (yS Y) p) ∨ (q.1 = 2 ∧ fit (yZ Y).1 (yZ Y).2.1 (yS Y) p)))) := by
      intro s1 hs1
      have hs01 : s1 = 0 ∨ s1 = 1 := by rw [hs1]; split <;> simp
      unfold F_X9_fitsSlips_J76_2
      refine W_gd ⟨by omega, by omega⟩ (W_gd ⟨by omega, by omega⟩ (W_if (fun e => ?_) (fun e => ?_)))
      · refine W_lt (W_so (Or.inl ⟨rfl, w - 1, by omega, hf.trans f1, k1, i + 1, by show ((3 * i : Nat) : Int) + 3 = _; omega, by omega, fun j hj => ?_⟩))
        by_cases ej : j = i
        · rw [ej, e, hs1]
        · exact hr j (by omega)
      · exact W_so (Or.inr ⟨Nat.one_ne_zero, hf.trans f1, k1, Or.inl ⟨rfl, fun hfit => e (by rw [hfit i (by omega), hs1])⟩⟩)
    exact W_if (fun z => J 1 (by rw [if_pos z])) (fun z => J 0 (by rw [if_neg z]))
  obtain ⟨V', q, e1, e2, e3, e4⟩ := main
  refine ⟨V', ?_, e3, e2⟩
  unfold F_X9_fitsSlips
  refine E_bd e1 ?_
  rcases e4 with ⟨a, b⟩ | ⟨a, b⟩
  · rw [if_pos a, fitI_n b]
  · rw [if_neg (by omega), fitI_y b]
theorem r_fits (h : okY Y) (hv : rY V m Y) (hne : (yS Y).2 ≠ []) {p : Int} (hp : 0 ≤ p ∧ p < cn (yZ Y).1) :
    ∃ V', F_X10_isAsSlips G m p V = some (V', fitI (yZ Y).1 (yZ Y).2.1 (yS Y) p) ∧ rT m V V' := by
  obtain ⟨l1, l2, l3, l4⟩ := h.2.2.2.2.2.1
  have hl := l3 hne
  have hn := h.1.1.1
  have ht := h.1.1.2.1
  obtain ⟨d1, d2, d3⟩ := hv.2.2.2.2.1
  have main : Wp (lp (fun (s : Int) V => B_X10_isAsSlips_2 G m p s V) FU 0 V) (fun V' q => rT m V V' ∧ ((q.1 = 1 ∧ ¬ fit (yZ Y).1 (yZ Y).2.1 (yS Y) p) ∨ (q.1 = 2 ∧ fit (yZ Y).1 (yZ Y).2.1 (yS Y) p))) := by
    refine W_lp (fun w (y : Int) U => rT m V U ∧ ∃ i : Nat, y = ((3 * i : Nat) : Int) ∧ 3 * i + 3 * w = (yS Y).2.length ∧ ∀ j, j < i → canD (yZ Y).1 (yZ Y).2.1 p (yS Y).1 ((yS Y).2.getD (3 * j + 1) 0) ((yS Y).2.getD (3 * j) 0) = (if (yS Y).2.getD (3 * j + 2) 0 = 1 then 1 else 0)) ?_ FU ((yS Y).2.length / 3) _ V ⟨rT_refl, 0, rfl, by omega, fun j hj => by omega⟩ (by unfold FU; omega)
    rintro w y U ⟨hf, i, rfl, hw, hr⟩
    have z72 : gI U m 72 = gI V m 72 := hf.2.1 m 72 (by omega)
    have z73 : gI U m 73 = (yS Y).1 := by rw [hf.2.1 m 73 (by omega)]; exact d3 hne
    have hMU : rM (gA U (m + 37)) (cn (yZ Y).1) (yZ Y).2.1 := by rw [hf.1]; exact hv.1.2.1
    have cell : ∀ {W : mV}, gA W = gA V → ∀ (z : Int) (k : Nat), z = (k : Int) → k < (yS Y).2.length → gA W (m + 45) z.toNat = (yS Y).2.getD k 0 := by
      intro W hW z k hz hk
      rw [hW, hz, Int.toNat_natCast]; exact d2 k hk
    unfold B_X10_isAsSlips_2
    rw [z72, d1]
    refine W_gd ⟨by omega, by omega⟩ (W_gd ⟨by omega, by omega⟩ (W_if (fun q => W_so (Or.inr ⟨(by decide : (2 : Nat) ≠ 0), hf, Or.inr ⟨rfl, fun j hj => hr j (by omega)⟩⟩)) (fun q => ?_)))
    obtain ⟨o1, o2, o3⟩ := l4 i (by omega)
    obtain ⟨U1, g1, f1, c01⟩ := r_canDo (G := G) h.1.1 (hv.1.1.fr hf.cs) hMU h.1.2.1 (p := p) (l := (yS Y).1) (task := (yS Y).2.getD (3 * i + 1) 0) (clock := (yS Y).2.getD (3 * i) 0) hp hl o2 o1
    rw [z73, cell hf.1 _ (3 * i + 1) (by omega) (by omega), cell hf.1 _ (3 * i) rfl (by omega)]
    refine W_gd ⟨by omega, by omega, by omega⟩ (W_gd ⟨by omega, by omega, by omega⟩ (W_be g1 (W_gd ⟨by omega, by omega, by omega⟩ ?_)))
    rw [cell (f1.1.trans hf.1) _ (3 * i + 2) (by omega) (by omega)]
    have c01' : canD (yZ Y).1 (yZ Y).2.1 p (yS Y).1 ((yS Y).2.getD (3 * i + 1) 0) ((yS Y).2.getD (3 * i) 0) = 0 ∨ canD (yZ Y).1 (yZ Y).2.1 p (yS Y).1 ((yS Y).2.getD (3 * i + 1) 0) ((yS Y).2.getD (3 * i) 0) = 1 := c01
    have J : ∀ s1 : Int, s1 = (if (yS Y).2.getD (3 * i + 2) 0 = 1 then 1 else 0) → Wp (F_X10_isAsSlips_J52_2 G m p ((3 * i : Nat) : Int) (canD (yZ Y).1 (yZ Y).2.1 p (yS Y).1 ((yS Y).2.getD (3 * i + 1) 0) ((yS Y).2.getD (3 * i) 0)) s1 U1) (fun V' q => (q.1 = 0 ∧ ∃ w', w' < w ∧ rT m V V' ∧ ∃ i : Nat, q.2 = ((3 * i : Nat) : Int) ∧ 3 * i + 3 * w' = (yS Y).2.length ∧ ∀ j, j < i → canD (yZ Y).1 (yZ Y).2.1 p (yS Y).1 ((yS Y).2.getD (3 * j + 1) 0) ((yS Y).2.getD (3 * j) 0) = (if (yS Y).2.getD (3 * j + 2) 0 = 1 then 1 else 0)) ∨ (q.1 ≠ 0 ∧ rT m V V' ∧ ((q.1 = 1 ∧ ¬ fit (yZ Y).1 (yZ Y).2.1 (yS Y) p) ∨ (q.1 = 2 ∧ fit (yZ Y).1 (yZ Y).2.1 (yS Y) p)))) := by
      intro s1 hs1
      have hs01 : s1 = 0 ∨ s1 = 1 := by rw [hs1]; split <;> simp
      unfold F_X10_isAsSlips_J52_2
      refine W_gd ⟨by omega, by omega⟩ (W_gd ⟨by omega, by omega⟩ (W_if (fun e => ?_) (fun e => ?_)))
      · refine W_lt (W_so (Or.inl ⟨rfl, w - 1, by omega, hf.trans f1, i + 1, by show ((3 * i : Nat) : Int) + 3 = _; omega, by omega, fun j hj => ?_⟩))
        by_cases ej : j = i
        · rw [ej, e, hs1]
        · exact hr j (by omega)
      · exact W_so (Or.inr ⟨Nat.one_ne_zero, hf.trans f1, Or.inl ⟨rfl, fun hfit => e (by rw [hfit i (by omega), hs1])⟩⟩)
    exact W_gd ⟨by omega, by omega⟩ (W_if (fun z => J 1 (by rw [if_pos z])) (fun z => J 0 (by rw [if_neg z])))
  obtain ⟨V', q, e1, e2, e4⟩ := main
  refine ⟨V', ?_, e2⟩
  unfold F_X10_isAsSlips
  refine E_bd e1 ?_
  rcases e4 with ⟨a, b⟩ | ⟨a, b⟩
  · rw [if_pos a, fitI_n b]
  · rw [if_neg (by omega), fitI_y b]
theorem fitI_01 {C : mCy} {M : mMo} {S : Int × List Int} {p : Int} : fitI C M S p = 0 ∨ fitI C M S p = 1 := by
  by_cases h : fit C M S p
  · exact Or.inr (fitI_y h)
  · exact Or.inl (fitI_n h)
theorem S_who (hG : is9 G x) (hm : m = x + 327) (h : okA N Y) : STEP G x m N (F_X9_who G x) (F_X10_who G m) Y := by
  obtain ⟨l1, l2, l3, l4⟩ := h.1.2.2.2.2.2.1
  have hn := h.1.1.1.1
  have hwr := whoB_rg (f := fitI (yZ Y).1 (yZ Y).2.1 (yS Y))
  refine ⟨Y, aWho Y, CL_Q hm (fun V hv => ?_), RF_T (fun V hv => ?_), okA_s h, ?_⟩
  · have hsz : gI V (x + 7) 1 = (((yS Y).2.length : Nat) : Int) := hv.2.2.2.2.2.1.1.1
    unfold F_X9_who aWho
    by_cases c : (yS Y).2 = []
    · rw [if_pos c]
      refine ⟨V, E_bd p7_size ?_, fr_refl, hv.1⟩
      rw [hsz, c]
      exact E_gd (by decide) (E_if (fun _ => rfl) (fun q => absurd rfl q))
    rw [if_neg c]
    have hl0 : (yS Y).2.length ≠ 0 := fun q => c (List.length_eq_zero_iff.mp q)
    have main : Wp (lp (fun (s : Int × Int) V => B_X9_who_16 G x s.1 s.2 V) FU (0, 0) V) (fun V' q => fr (sT (x + 27) (gR G x 10)) V V' ∧ kC V' (x + 27) ∧ q.2.1 = itr (whoB (fitI (yZ Y).1 (yZ Y).2.1 (yS Y))) 0 (cn (yZ Y).1).toNat 0) := by
      refine W_lp (fun w (y : Int × Int) U => fr (sT (x + 27) (gR G x 10)) V U ∧ kC U (x + 27) ∧ ∃ k : Nat, y = (itr (whoB (fitI (yZ Y).1 (yZ Y).2.1 (yS Y))) 0 k 0, (k : Int)) ∧ k + w = (cn (yZ Y).1).toNat) ?_ FU (cn (yZ Y).1).toNat _ V ⟨fr_refl, hv.1.2.2.2.1, 0, rfl, by omega⟩ (by unfold FU; omega)
      rintro w y U ⟨hf, hkU, k, rfl, hw⟩
      show Wp (B_X9_who_16 G x (itr (whoB (fitI (yZ Y).1 (yZ Y).2.1 (yS Y))) 0 k 0) (k : Int) U) _
      obtain ⟨-, hvU⟩ := vZ_T hv.1 hf hkU
      have ha := hv.1.1
      have hSU : vS U x (yS Y) := ⟨hv.2.2.2.2.2.1.1.fr hf (by simp only [sT, isSk]; omega) (by simp only [sT, isSk]; omega), fun q => by rw [hf.I (by simp only [sT, isSk]; omega)]; exact hv.2.2.2.2.2.1.2 q⟩
      have hs2 : gI U (gR G x 10 + 1) 1 = cn (yZ Y).1 := hvU.2.1.2.1.1.1
      have sn := itr_snoc (whoB (fitI (yZ Y).1 (yZ Y).2.1 (yS Y))) k 0 0
      rw [show (0 : Int) + (k : Int) = (k : Int) by omega] at sn
      have br := hwr k (by omega)
      unfold B_X9_who_16
      refine W_be p7_size ?_
      rw [hs2]
      refine W_gd ⟨by omega, by omega⟩ (W_gd ⟨by omega, by omega⟩ (W_if (fun q => W_so (Or.inr ⟨Nat.one_ne_zero, hf, hkU, ?_⟩)) (fun q => ?_)))
      · have e : k = (cn (yZ Y).1).toNat := by omega
        rw [← e]
      · obtain ⟨U1, g1, k1, f1⟩ := c_fits hG h.1 hvU hSU c (p := (k : Int)) ⟨by omega, by omega⟩
        have f01 := fitI_01 (C := (yZ Y).1) (M := (yZ Y).2.1) (S := yS Y) (p := (k : Int))
        refine W_be g1 (W_gd ⟨by omega, by omega⟩ (W_if (fun z => ?_) (fun z => ?_)))
        · have st : whoB (fitI (yZ Y).1 (yZ Y).2.1 (yS Y)) (k : Int) (itr (whoB (fitI (yZ Y).1 (yZ Y).2.1 (yS Y))) 0 k 0) = itr (whoB (fitI (yZ Y).1 (yZ Y).2.1 (yS Y))) 0 k 0 := if_pos z
          exact W_lt (W_so (Or.inl ⟨rfl, w - 1, by omega, hf.trans f1, k1, k + 1, by rw [sn, st]; rfl, by omega⟩))
        · have st : whoB (fitI (yZ Y).1 (yZ Y).2.1 (yS Y)) (k : Int) (itr (whoB (fitI (yZ Y).1 (yZ Y).2.1 (yS Y))) 0 k 0) = bor (itr (whoB (fitI (yZ Y).1 (yZ Y).2.1 (yS Y))) 0 k 0) (shl 1 (k : Int)) := if_neg z
          have hs := shl1_lt (l := (k : Int)) (by omega) (by omega)
          exact W_gd ⟨by omega, by omega⟩ (W_gd ⟨br.1, hs.1⟩ (W_lt (W_lt (W_so (Or.inl ⟨rfl, w - 1, by omega, hf.trans f1, k1, k + 1, by rw [sn, st]; rfl, by omega⟩)))))
    obtain ⟨V', q, e1, e2, e3, e4⟩ := main
    refine ⟨V', E_bd p7_size ?_, vZ_T hv.1 e2 e3⟩
    rw [hsz]
    exact E_gd ⟨by omega, by omega⟩ (E_if (fun z => by omega) (fun _ => E_bd e1 (E_so rfl e4)))
  · obtain ⟨d1, d2, d3⟩ := hv.2.2.2.2.1
    unfold F_X10_who aWho
    by_cases c : (yS Y).2 = []
    · rw [if_pos c]
      have : gI V m 72 = 0 := by rw [c] at d1; have d1' : 3 * gI V m 72 = ((0 : Nat) : Int) := d1; omega
      rw [this]
      exact ⟨V, E_gd (by decide) (E_if (fun _ => rfl) (fun q => absurd rfl q)), rT_refl⟩
    rw [if_neg c]
    have hl0 : (yS Y).2.length ≠ 0 := fun q => c (List.length_eq_zero_iff.mp q)
    have main : Wp (lp (fun (s : Int × Int) V => B_X10_who_13 G m s.1 s.2 V) FU (0, 0) V) (fun V' q => rT m V V' ∧ q.2.1 = itr (whoB (fitI (yZ Y).1 (yZ Y).2.1 (yS Y))) 0 (cn (yZ Y).1).toNat 0) := by
      refine W_lp (fun w (y : Int × Int) U => rT m V U ∧ ∃ k : Nat, y = (itr (whoB (fitI (yZ Y).1 (yZ Y).2.1 (yS Y))) 0 k 0, (k : Int)) ∧ k + w = (cn (yZ Y).1).toNat) ?_ FU (cn (yZ Y).1).toNat _ V ⟨rT_refl, 0, rfl, by omega⟩ (by unfold FU; omega)
      rintro w y U ⟨hf, k, rfl, hw⟩
      show Wp (B_X10_who_13 G m (itr (whoB (fitI (yZ Y).1 (yZ Y).2.1 (yS Y))) 0 k 0) (k : Int) U) _
      have sn := itr_snoc (whoB (fitI (yZ Y).1 (yZ Y).2.1 (yS Y))) k 0 0
      rw [show (0 : Int) + (k : Int) = (k : Int) by omega] at sn
      have br := hwr k (by omega)
      have hvU : rY U m Y := rY_of hv rfl rfl rfl rfl (by rw [hf.2.2.1 m 71 (by omega)]; exact hv.2.2.2.2.2.1) hf.H.Q.out.b (rZ_T hv.1 hf)
      unfold B_X10_who_13
      refine W_be (r_many hvU.1.1) (W_gd ⟨by omega, by omega⟩ (W_gd ⟨by omega, by omega⟩ (W_if (fun q => W_so (Or.inr ⟨Nat.one_ne_zero, hf, ?_⟩)) (fun q => ?_))))
      · have e : k = (cn (yZ Y).1).toNat := by omega
        rw [← e]
      · obtain ⟨U1, g1, f1⟩ := r_fits (G := G) h.1 hvU c (p := (k : Int)) ⟨by omega, by omega⟩
        have f01 := fitI_01 (C := (yZ Y).1) (M := (yZ Y).2.1) (S := yS Y) (p := (k : Int))
        refine W_be g1 (W_gd ⟨by omega, by omega⟩ (W_if (fun z => ?_) (fun z => ?_)))
        · have st : whoB (fitI (yZ Y).1 (yZ Y).2.1 (yS Y)) (k : Int) (itr (whoB (fitI (yZ Y).1 (yZ Y).2.1 (yS Y))) 0 k 0) = itr (whoB (fitI (yZ Y).1 (yZ Y).2.1 (yS Y))) 0 k 0 := if_pos z
          exact W_lt (W_so (Or.inl ⟨rfl, w - 1, by omega, hf.trans f1, k + 1, by rw [sn, st]; rfl, by omega⟩))
        · have st : whoB (fitI (yZ Y).1 (yZ Y).2.1 (yS Y)) (k : Int) (itr (whoB (fitI (yZ Y).1 (yZ Y).2.1 (yS Y))) 0 k 0) = bor (itr (whoB (fitI (yZ Y).1 (yZ Y).2.1 (yS Y))) 0 k 0) (shl 1 (k : Int)) := if_neg z
          have hs := shl1_lt (l := (k : Int)) (by omega) (by omega)
          exact W_gd ⟨by omega, by omega⟩ (W_gd ⟨br.1, hs.1⟩ (W_lt (W_lt (W_so (Or.inl ⟨rfl, w - 1, by omega, hf.trans f1, k + 1, by rw [sn, st]; rfl, by omega⟩)))))
    obtain ⟨V', q, e1, e2, e4⟩ := main
    exact ⟨V', E_gd ⟨by omega, by omega⟩ (E_if (fun z => by omega) (fun _ => E_bd e1 (E_so rfl e4))), e2⟩
  · have := hwr (cn (yZ Y).1).toNat (by omega)
    unfold aWho
    split
    · exact ⟨by decide, by decide⟩
    · exact ⟨by omega, by omega⟩
end

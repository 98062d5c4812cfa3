/-! images: both -/
def chk (f : Nat → Int) : Nat → Int
  | 0 => 197
  | k + 1 => (3 * chk f k + f k) % 251
theorem chk_rg {f : Nat → Int} : ∀ k, 0 ≤ chk f k ∧ chk f k ≤ 250
  | 0 => ⟨(by decide : (0 : Int) ≤ 197), (by decide : (197 : Int) ≤ 250)⟩
  | k + 1 => by
    have h1 := Int.emod_nonneg (3 * chk f k + f k) (show (251 : Int) ≠ 0 by decide)
    have h2 := Int.emod_lt_of_pos (3 * chk f k + f k) (show (0 : Int) < 251 by decide)
    show 0 ≤ (3 * chk f k + f k) % 251 ∧ (3 * chk f k + f k) % 251 ≤ 250
    omega
theorem chk_cg {f g : Nat → Int} : ∀ k, (∀ j, j < k → f j = g j) → chk f k = chk g k
  | 0, _ => rfl
  | k + 1, h => by
    show (3 * chk f k + f k) % 251 = (3 * chk g k + g k) % 251
    rw [chk_cg k (fun j hj => h j (by omega)), h k (by omega)]
def imN (n : Nat) : Nat := 2 + (n + 2) * n
def imG (M : mMo) (n : Nat) (k : Nat) : Int := if k = 0 then mh M / 256 else if k = 1 then mh M % 256 else if (k - 2) % (n + 2) = 0 then ml M (((k - 2) / (n + 2) : Nat) : Int) + 1 else if (k - 2) % (n + 2) = 1 then mw M (((k - 2) / (n + 2) : Nat) : Int) + 1 else mp M (((k - 2) / (n + 2) : Nat) : Int) ((((k - 2) % (n + 2) - 2 : Nat)) : Int)
def imF (M : mMo) (n : Nat) (k : Nat) : Int := if k = imN n then chk (imG M n) (imN n) else imG M n k
def imT (M : mMo) (n : Nat) : mT2 := (imF M n, imN n + 1)
theorem imG_at {M : mMo} {n p r : Nat} (hr : r < n + 2) : imG M n (2 + (n + 2) * p + r) = if r = 0 then ml M (p : Int) + 1 else if r = 1 then mw M (p : Int) + 1 else mp M (p : Int) ((r - 2 : Nat) : Int) := by
  have e : 2 + (n + 2) * p + r - 2 = (n + 2) * p + r := by omega
  have d : ((n + 2) * p + r) / (n + 2) = p := by rw [Nat.mul_add_div (by omega), Nat.div_eq_of_lt hr, Nat.add_zero]
  have m : ((n + 2) * p + r) % (n + 2) = r := by rw [Nat.mul_add_mod, Nat.mod_eq_of_lt hr]
  unfold imG
  rw [if_neg (by omega), if_neg (by omega), e, d, m]
theorem imN_le {n : Nat} (h : n ≤ 10) : imN n ≤ 122 := by
  have h1 : (n + 2) * n ≤ 12 * 10 := Nat.mul_le_mul (by omega) h
  unfold imN; omega
theorem imN_p {n p : Nat} (h : p < n) : (n + 2) * p + (n + 2) ≤ (n + 2) * n := by
  have : (n + 2) * (p + 1) ≤ (n + 2) * n := Nat.mul_le_mul_left _ h
  rw [Nat.mul_add, Nat.mul_one] at this
  exact this
/-- the bytes are bytes -/
theorem imG_rg {M : mMo} {n k : Nat} (hn : n ≤ 10) (h : okM (n : Int) M) (hk : k < imN n) : 0 ≤ imG M n k ∧ imG M n k ≤ 255 := by
  have hh := h.1
  by_cases k0 : k = 0
  · subst k0
    show 0 ≤ mh M / 256 ∧ mh M / 256 ≤ 255; omega
  by_cases k1 : k = 1
  · subst k1
    show 0 ≤ mh M % 256 ∧ mh M % 256 ≤ 255; omega
  obtain ⟨p, hp⟩ : ∃ p, p = (k - 2) / (n + 2) := ⟨_, rfl⟩
  obtain ⟨r, hr⟩ : ∃ r, r = (k - 2) % (n + 2) := ⟨_, rfl⟩
  have hr2 : r < n + 2 := by rw [hr]; exact Nat.mod_lt _ (by omega)
  have hdm : (n + 2) * p + r = k - 2 := by rw [hp, hr]; exact Nat.div_add_mod _ _
  have ek : k = 2 + (n + 2) * p + r := by omega
  have hpn : p < n := by
    refine Classical.byContradiction (fun z => ?_)
    have : (n + 2) * n ≤ (n + 2) * p := Nat.mul_le_mul_left _ (by omega)
    unfold imN at hk; omega
  rw [ek, imG_at hr2]
  have h2 := h.2.1 (p : Int) (by omega) (by omega)
  have h3 := h.2.2.2.1 (p : Int) (by omega) (by omega)
  by_cases r0 : r = 0
  · rw [if_pos r0]; omega
  rw [if_neg r0]
  by_cases r1 : r = 1
  · rw [if_pos r1]; omega
  rw [if_neg r1]
  have h4 := h.2.2.2.2.1 (p : Int) ((r - 2 : Nat) : Int) (by omega) (by omega) (by omega) (by omega)
  omega
section
variable {G : mG} {V V' : mV} {x m N : Nat} {Y : mY}
theorem c_chk {row cap : Nat} {f : Int → Int} {g : Nat → Int} {n : Int} (hr : is7 G row) (hq : qG G (row + 1) = cap) (hcap : cap ≤ 4000) (h : rw' V row n f) (hn : 0 ≤ n ∧ n ≤ (cap : Int)) {B : Nat} (hB : (B : Int) ≤ n) (hf : ∀ k, k < B → f (k : Int) = g k ∧ 0 ≤ g k ∧ g k ≤ 255) : F_X9_checkOf G row (B : Int) V = some (V, chk g B) := by
  have key := E_for (B := fun (s : Int × Int) V => B_X9_checkOf_6 G row (B : Int) s.1 s.2 V) (t := 1) (by decide) (fun k => (chk g k, (k : Int))) (fun _ => V) B ?_ ?_ FU (by unfold FU; omega)
  · unfold F_X9_checkOf
    exact E_bd key rfl
  · intro k hk
    obtain ⟨f1, f2, f3⟩ := hf k hk
    have c := chk_rg (f := g) k
    show B_X9_checkOf_6 G row (B : Int) (chk g k) (k : Int) V = some (V, 0, (chk g (k + 1), ((k + 1 : Nat) : Int)))
    unfold B_X9_checkOf_6
    have eg : F_X7_get G row (k : Int) V = some (V, g k) := by rw [rw_get hr hq h hn.2 ⟨by omega, by omega⟩, f1]
    refine E_gd ⟨by omega, by omega⟩ (E_gd ⟨by omega, by omega⟩ (E_if (fun q => by omega) (fun _ => E_bd eg (E_gd ⟨by omega, by omega⟩ (E_lt (E_lt ?_))))))
    rw [Int.tmod_eq_emod_of_nonneg (by omega)]; rfl
  · show B_X9_checkOf_6 G row (B : Int) (chk g B) (B : Int) V = _
    unfold B_X9_checkOf_6
    exact E_gd ⟨by omega, by omega⟩ (E_gd ⟨by omega, by omega⟩ (E_if (fun _ => rfl) (fun q => absurd (Int.le_refl _) q)))
theorem r_chk {arr cap : Nat} {g : Nat → Int} (hq : qG G arr = cap) (hcap : cap ≤ 4000) {B : Nat} (hB : B ≤ cap) (hf : ∀ k, k < B → gA V arr k = g k ∧ 0 ≤ g k ∧ g k ≤ 255) : F_X10_checked G arr (B : Int) V = some (V, chk g B) := by
  have key := E_for (B := fun (s : Int × Int) V => B_X10_checked_6 G arr (B : Int) s.1 s.2 V) (t := 1) (by decide) (fun k => (chk g k, (k : Int))) (fun _ => V) B ?_ ?_ FU (by unfold FU; omega)
  · unfold F_X10_checked
    exact E_bd key rfl
  · intro k hk
    obtain ⟨f1, f2, f3⟩ := hf k hk
    have c := chk_rg (f := g) k
    show B_X10_checked_6 G arr (B : Int) (chk g k) (k : Int) V = some (V, 0, (chk g (k + 1), ((k + 1 : Nat) : Int)))
    unfold B_X10_checked_6
    rw [hq, Int.toNat_natCast, f1]
    refine E_gd ⟨by omega, by omega⟩ (E_gd ⟨by omega, by omega⟩ (E_if (fun q => by omega) (fun _ => E_gd ⟨by omega, by omega, by omega⟩ (E_gd ⟨by omega, by omega⟩ (E_lt (E_lt ?_))))))
    rw [Int.tmod_eq_emod_of_nonneg (by omega)]; rfl
  · show B_X10_checked_6 G arr (B : Int) (chk g B) (B : Int) V = _
    unfold B_X10_checked_6
    exact E_gd ⟨by omega, by omega⟩ (E_gd ⟨by omega, by omega⟩ (E_if (fun _ => rfl) (fun q => absurd (Int.le_refl _) q)))
theorem tm256 {h : Int} (h0 : 0 ≤ h) : h.tmod 256 = h % 256 ∧ h.tdiv 256 = h / 256 := ⟨Int.tmod_eq_emod_of_nonneg h0, Int.tdiv_eq_ediv_of_nonneg h0⟩
theorem S_image (hG : is9 G x) (hG10 : is10 G m) (hm : m = x + 327) (h : okA N Y) : STEP G x m N (F_X9_image G x) (F_X10_image G m) Y := by
  have ho := h.1.1
  have hn := ho.1.1
  have hh := ho.2.1.1
  obtain ⟨n, hnn⟩ : ∃ n : Nat, (n : Int) = cn (yZ Y).1 := ⟨(cn (yZ Y).1).toNat, by omega⟩
  have hn10 : n ≤ 10 := by omega
  have hN := imN_le hn10
  have hoM : okM (n : Int) (yZ Y).2.1 := by rw [hnn]; exact ho.2.1
  obtain ⟨M, hM⟩ : ∃ M, M = (yZ Y).2.1 := ⟨_, rfl⟩
  rw [← hM] at hoM
  have iF : ∀ k, k < imN n → imF M n k = imG M n k := fun k hk => if_neg (by omega)
  have iL : (imT M n).2 = imN n + 1 := rfl
  have at0 : ∀ p, p < n → imF M n (2 + (n + 2) * p) = ml M (p : Int) + 1 := by
    intro p hp
    have q := imN_p hp
    rw [iF _ (by unfold imN; omega)]
    have := imG_at (M := M) (n := n) (p := p) (r := 0) (by omega)
    rw [Nat.add_zero, if_pos rfl] at this; exact this
  have at1 : ∀ p, p < n → imF M n (2 + (n + 2) * p + 1) = mw M (p : Int) + 1 := by
    intro p hp
    have q := imN_p hp
    rw [iF _ (by unfold imN; omega), imG_at (M := M) (n := n) (p := p) (r := 1) (by omega), if_neg (by decide), if_pos rfl]
  have at2 : ∀ p l, p < n → l < n → imF M n (2 + (n + 2) * p + 2 + l) = mp M (p : Int) (l : Int) := by
    intro p l hp hl
    have q := imN_p hp
    rw [iF _ (by unfold imN; omega), show 2 + (n + 2) * p + 2 + l = 2 + (n + 2) * p + (2 + l) by omega, imG_at (M := M) (n := n) (p := p) (r := 2 + l) (by omega), if_neg (by omega), if_neg (by omega), show 2 + l - 2 = l by omega]
  have z0 : imF M n 0 = mh M / 256 := by rw [iF _ (by unfold imN; omega)]; rfl
  have z1 : imF M n 1 = mh M % 256 := by rw [iF _ (by unfold imN; omega)]; rfl
  have zN : imF M n (imN n) = chk (imG M n) (imN n) := if_pos rfl
  refine ⟨(yZ Y, yT Y, yF Y, slL (imT M n), yS Y, yE Y), ((imN n + 1 : Nat) : Int), fun V hv => ?_, fun V hv => ?_, ?_, ⟨by omega, by omega⟩⟩
  · -- the class
    obtain ⟨f, hf⟩ : ∃ f : Int → Int, f = fun k => imF M n k.toNat := ⟨_, rfl⟩
    have fv : ∀ (z : Int) (k : Nat), z = (k : Int) → f z = imF M n k := fun z k hz => by rw [hf, hz]; show imF M n ((k : Int)).toNat = _; rw [Int.toNat_natCast]
    have hsz : gI V (gR G x 10 + 1) 1 = cn (yZ Y).1 := hv.1.2.1.2.1.1.1
    have ha := hv.1.1
    have hi3 : rz G V (x + 3) := rw_rz (s9_1c hG) hv.2.2.2.2.1.1 ⟨by omega, by have := h.1.2.2.2.2.1.1; show (((yI Y).length : Nat) : Int) ≤ 123; omega⟩
    obtain ⟨V1, e1, k1, r1⟩ := rw_cut0 (f := f) (s9_1s hG) hi3
    have k1' : fr (fun i => i = x + 3 ∨ i = x + 4) V V1 := k1.mono (fun i q => Or.inl q)
    -- what stands
    have vz : ∀ {U : mV}, fr (fun i => i = x + 3 ∨ i = x + 4) V U → vZ G U x (yZ Y) := by
      intro U k
      obtain ⟨p1, p2, p3, p4, ⟨e0, p5⟩, p6, p7, p8⟩ := hv.1
      exact ⟨p1, p2.fr k (fun j p q _ => by omega), p3.fr k (fun j p q => by omega), p4.fr k (by omega) (by omega), ⟨e0, p5.fr k (fun j p q => by omega)⟩, by rw [k.I (by omega)]; exact p6, p7.fr k (fun j p q => by omega), p8.fr k (by omega) (by omega)⟩
    have h0 : ∀ {U : mV}, fr (fun i => i = x + 3 ∨ i = x + 4) V U → gI U (x + 227) 0 = mh M := fun k => by rw [hM]; exact (vz k).2.2.1.1
    have add : ∀ {U : mV} {z v : Int} {k : Nat}, fr (fun i => i = x + 3 ∨ i = x + 4) V U → rw' U (x + 3) z f → z = (k : Int) → k < 123 → imF M n k = v → ∃ U', F_X7_add G (x + 3) v U = some (U', 0) ∧ fr (fun i => i = x + 3 ∨ i = x + 4) V U' ∧ rw' U' (x + 3) (((k + 1 : Nat) : Int)) f := by
      intro U z v k hk hr hz hk2 hvv
      obtain ⟨U', e, kk, r⟩ := rw_add (v := v) (s9_1s hG) (s9_1c hG) hr ⟨by omega, by show z < 123; omega⟩ (by rw [fv z k hz]; exact hvv)
      refine ⟨U', e, hk.trans (kk.mono (fun i q => by omega)), ?_⟩
      rw [hz] at r; exact r
    obtain ⟨V2, e2, k2, r2⟩ := add (k := 0) k1' r1 rfl (by decide) z0
    obtain ⟨V3, e3, k3, r3⟩ := add (k := 1) k2 r2 rfl (by decide) z1
    have main : Wp (lp (fun (s : Int) V => B_X9_image_57 G x (n : Int) s V) FU 0 V3) (fun V' _ => fr (fun i => i = x + 3 ∨ i = x + 4) V V' ∧ rw' V' (x + 3) ((imN n : Nat) : Int) f) := by
      refine W_lp (fun w (y : Int) U => ∃ p : Nat, y = (p : Int) ∧ p + w = n ∧ fr (fun i => i = x + 3 ∨ i = x + 4) V U ∧ rw' U (x + 3) ((2 + (n + 2) * p : Nat) : Int) f) ?_ FU n _ V3 ⟨0, rfl, by omega, k3, by rw [Nat.mul_zero]; exact r3⟩ (by unfold FU; omega)
      rintro w y U ⟨p, rfl, hw, hk, hr⟩
      unfold B_X9_image_57
      refine W_gd ⟨by omega, by omega⟩ (W_gd ⟨by omega, by omega⟩ (W_if (fun q => W_so (Or.inr ⟨Nat.one_ne_zero, hk, ?_⟩)) (fun q => ?_)))
      · have e : p = n := by omega
        rw [e] at hr; exact hr
      have hp : p < n := by omega
      have hb := imN_p hp
      have hNn : imN n = 2 + (n + 2) * n := rfl
      have hvU := vz hk
      have g1 : F_X7_get G (x + 228) (p : Int) U = some (U, ml M (p : Int)) := by rw [hM]; exact rw_get (s4_1s (s9_8s hG)) (s4_1c (s9_8s hG)) hvU.2.2.1.2.1 hn.2 ⟨by omega, by omega⟩
      obtain ⟨U1, a1, q1, s1⟩ := add (k := 2 + (n + 2) * p) hk hr rfl (by omega) (at0 p hp)
      have hvU1 := vz q1
      have g2 : F_X7_get G (x + 230) (p : Int) U1 = some (U1, mw M (p : Int)) := by rw [hM]; exact rw_get (s4_2s (s9_8s hG)) (s4_2c (s9_8s hG)) hvU1.2.2.1.2.2.1 hn.2 ⟨by omega, by omega⟩
      obtain ⟨U2, a2, q2, s2⟩ := add (k := 2 + (n + 2) * p + 1) q1 s1 rfl (by omega) (at1 p hp)
      have inner : Wp (lp (fun (s : Int) V => B_X9_image_104 G x (n : Int) (p : Int) s V) FU 0 U2) (fun V' _ => fr (fun i => i = x + 3 ∨ i = x + 4) V V' ∧ rw' V' (x + 3) ((2 + (n + 2) * (p + 1) : Nat) : Int) f) := by
        refine W_lp (fun w (y : Int) U => ∃ l : Nat, y = (l : Int) ∧ l + w = n ∧ fr (fun i => i = x + 3 ∨ i = x + 4) V U ∧ rw' U (x + 3) ((2 + (n + 2) * p + 2 + l : Nat) : Int) f) ?_ FU n _ U2 ⟨0, rfl, by omega, q2, s2⟩ (by unfold FU; omega)
        rintro w y U ⟨l, rfl, hw, hk, hr⟩
        unfold B_X9_image_104
        refine W_gd ⟨by omega, by omega⟩ (W_gd ⟨by omega, by omega⟩ (W_if (fun q => W_so (Or.inr ⟨Nat.one_ne_zero, hk, ?_⟩)) (fun q => ?_)))
        · have e : 2 + (n + 2) * p + 2 + l = 2 + (n + 2) * (p + 1) := by rw [Nat.mul_add, Nat.mul_one]; omega
          rw [← e]; exact hr
        have hvU := vz hk
        have g3 : F_X4_pointsOf G (x + 227) (p : Int) (l : Int) U = some (U, mp M (p : Int) (l : Int)) := by rw [hM]; exact m_points (s9_8s hG) hn.2 hvU.2.2.1 ⟨by omega, by omega⟩ ⟨by omega, by omega⟩
        obtain ⟨U3, a3, q3, s3⟩ := add (k := 2 + (n + 2) * p + 2 + l) hk hr rfl (by omega) (at2 p l hp (by omega))
        exact W_be g3 (W_be a3 (W_lt (W_so (Or.inl ⟨rfl, w - 1, by omega, l + 1, rfl, by omega, q3, s3⟩))))
      obtain ⟨U4, u4, a4, q4, s4⟩ := inner
      exact W_be g1 (W_be a1 (W_be g2 (W_be a2 (W_be a4 (W_lt (W_so (Or.inl ⟨rfl, w - 1, by omega, p + 1, rfl, by omega, q4, s4⟩)))))))
    obtain ⟨V4, u4, e4, k4, r4⟩ := main
    have e5 := c_chk (g := imG M n) (s9_1s hG) (s9_1c hG) (by decide) r4 ⟨by omega, by show ((imN n : Nat) : Int) ≤ 123; omega⟩ (B := imN n) (Int.le_refl _) (fun k hk => ⟨by rw [fv _ k rfl, iF k hk], imG_rg hn10 hoM hk⟩)
    obtain ⟨V6, e6, k6, r6⟩ := add (k := imN n) k4 r4 rfl (by omega) zN
    have rI : vI V6 x (slL (imT M n)) := by
      unfold vI
      rw [slL_len, iL]
      refine rw_cg r6 (fun j j0 j1 => ?_)
      rw [slL_get (by show j.toNat < imN n + 1; omega), hf]; rfl
    refine ⟨V6, ?_, fun i hi => ?_, vY_by hv (k6.mono (fun i q => by omega)) (hv.2.2.1.fr k6 (by omega) (by omega)) rI ⟨hv.2.2.2.2.2.1.1.fr k6 (by omega) (by omega), fun q => by rw [k6.I (by omega)]; exact hv.2.2.2.2.2.1.2 q⟩⟩
    · unfold F_X9_image
      refine E_bd p7_size ?_
      rw [hsz, ← hnn]
      refine E_bd e1 ?_
      rw [h0 k1', (tm256 (show 0 ≤ mh M by rw [hM]; exact hh.1)).2]
      refine E_gd (by rw [hM]; exact ⟨by omega, by omega⟩) (E_bd e2 ?_)
      rw [h0 k2, (tm256 (show 0 ≤ mh M by rw [hM]; exact hh.1)).1]
      refine E_gd (by rw [hM]; exact ⟨by omega, by omega⟩) (E_bd e3 (E_bd e4 (E_bd p7_size ?_)))
      rw [r4.1]
      refine E_bd e5 (E_bd e6 (E_bd p7_size (E_so rfl r6.1)))
    · obtain ⟨y1, y2⟩ := k6.2.2 i (by omega)
      exact ⟨y1, y2, by rw [k6.1], by rw [k6.2.1]⟩
  · -- the reference
    obtain ⟨V0, hV0⟩ : ∃ V0, V0 = sI V m 108 0 := ⟨_, rfl⟩
    -- so many are written
    obtain ⟨P, hP⟩ : ∃ P : mV → Nat → Prop, P = fun (U : mV) (k : Nat) => (∀ i, i ≠ m + 71 → gA U i = gA V i) ∧ (∀ i j, (i ≠ m ∨ j ≠ 108) → gI U i j = gI V i j) ∧ gJ U = gJ V ∧ gL U = gL V ∧ gI U m 108 = (k : Int) ∧ ∀ j : Nat, j < k → gA U (m + 71) j = imF M n j := ⟨_, rfl⟩
    have P0 : P V0 0 := by
      rw [hP, hV0]
      exact ⟨fun _ _ => rfl, fun i j q => by rw [gI_sI, if_neg (by omega)], rfl, rfl, by rw [gI_sI, if_pos ⟨rfl, rfl⟩]; rfl, fun j hj => by omega⟩
    have wr : ∀ {U : mV} {k : Nat} {v : Int}, P U k → k < 123 → imF M n k = v → ∃ U', F_X10_writes G m v U = some (U', 0) ∧ P U' (k + 1) := by
      intro U k v hU hk hvv
      rw [hP] at hU ⊢
      obtain ⟨p1, p2, p3, p4, p5, p6⟩ := hU
      refine ⟨sI (sA U (m + 71) k v) m 108 ((k : Int) + 1), ?_, fun i hi => ?_, fun i j q => ?_, p3, p4, ?_, fun j hj => ?_⟩
      · unfold F_X10_writes
        rw [p5, Int.toNat_natCast]
        refine E_gd ⟨by omega, by omega, by omega⟩ (E_lt (E_lt (E_so ?_ rfl)))
        show sI (sA U (m + 71) k v) m 108 (gI U m 108 + 1) = _
        rw [p5]
      · show gA (sA U (m + 71) k v) i = _
        rw [gA_sAo hi]; exact p1 i hi
      · rw [gI_sI, if_neg (by omega)]; exact p2 i j q
      · rw [gI_sI, if_pos ⟨rfl, rfl⟩]; rfl
      · show gA (sA U (m + 71) k v) (m + 71) j = _
        rw [gA_sAf]
        by_cases e : j = k
        · rw [if_pos e, e]; exact hvv.symm
        · rw [if_neg e]; exact p6 j (by omega)
    have hC : ∀ {U k}, P U k → rC U m (yZ Y).1 := by
      intro U k hU
      rw [hP] at hU
      exact hv.1.1.fr ⟨fun i p q => hU.1 i (by omega), by rw [hU.2.2.2.1]⟩
    have hMo : ∀ {U k}, P U k → rM (gA U (m + 37)) (n : Int) M := by
      intro U k hU
      rw [hP] at hU
      rw [hU.1 _ (by omega), hnn, hM]; exact hv.1.2.1
    have h00 : ∀ {U k}, P U k → gA U (m + 37) 0 = mh M := fun hU => (hMo hU).1
    obtain ⟨V2, e2, p2⟩ := wr P0 (by decide) z0
    obtain ⟨V3, e3, p3⟩ := wr p2 (by decide) z1
    have many : ∀ {U k}, P U k → F_X10_peopleMany G m U = some (U, (n : Int)) := fun hU => by rw [hnn]; exact r_many (hC hU)
    have main : Wp (lp (fun (s : Int) V => B_X10_image_35 G m s V) FU 0 V3) (fun V' _ => P V' (imN n)) := by
      refine W_lp (fun w (y : Int) U => ∃ p : Nat, y = (p : Int) ∧ p + w = n ∧ P U (2 + (n + 2) * p)) ?_ FU n _ V3 ⟨0, rfl, by omega, by rw [Nat.mul_zero]; exact p3⟩ (by unfold FU; omega)
      rintro w y U ⟨p, rfl, hw, hr⟩
      unfold B_X10_image_35
      refine W_be (many hr) (W_gd ⟨by omega, by omega⟩ (W_gd ⟨by omega, by omega⟩ (W_if (fun q => W_so (Or.inr ⟨Nat.one_ne_zero, ?_⟩)) (fun q => ?_))))
      · have e : p = n := by omega
        rw [e] at hr; exact hr
      have hp : p < n := by omega
      have hb := imN_p hp
      have hNn : imN n = 2 + (n + 2) * n := rfl
      have g1 := r_lives (G := G) (hMo hr) (by omega) (p := (p : Int)) ⟨by omega, by omega⟩
      obtain ⟨U1, a1, s1⟩ := wr hr (by omega) (at0 p hp)
      have g2 := r_wat (G := G) (hMo s1) (by omega) (p := (p : Int)) ⟨by omega, by omega⟩
      obtain ⟨U2, a2, s2⟩ := wr s1 (by omega) (at1 p hp)
      have inner : Wp (lp (fun (s : Int) V => B_X10_image_67 G m (p : Int) s V) FU 0 U2) (fun V' _ => P V' (2 + (n + 2) * (p + 1))) := by
        refine W_lp (fun w (y : Int) U => ∃ l : Nat, y = (l : Int) ∧ l + w = n ∧ P U (2 + (n + 2) * p + 2 + l)) ?_ FU n _ U2 ⟨0, rfl, by omega, s2⟩ (by unfold FU; omega)
        rintro w y U ⟨l, rfl, hw, hr⟩
        unfold B_X10_image_67
        refine W_be (many hr) (W_gd ⟨by omega, by omega⟩ (W_gd ⟨by omega, by omega⟩ (W_if (fun q => W_so (Or.inr ⟨Nat.one_ne_zero, ?_⟩)) (fun q => ?_))))
        · have e : 2 + (n + 2) * p + 2 + l = 2 + (n + 2) * (p + 1) := by rw [Nat.mul_add, Nat.mul_one]; omega
          rw [← e]; exact hr
        have g3 := r_pts (G := G) (hMo hr) (by omega) (p := (p : Int)) (l := (l : Int)) ⟨by omega, by omega⟩ ⟨by omega, by omega⟩
        obtain ⟨U3, a3, s3⟩ := wr hr (by omega) (at2 p l hp (by omega))
        exact W_be g3 (W_be a3 (W_lt (W_so (Or.inl ⟨rfl, w - 1, by omega, l + 1, rfl, by omega, s3⟩))))
      obtain ⟨U4, u4, a4, s4⟩ := inner
      exact W_be g1 (W_be a1 (W_be g2 (W_be a2 (W_be a4 (W_lt (W_so (Or.inl ⟨rfl, w - 1, by omega, p + 1, rfl, by omega, s4⟩)))))))
    obtain ⟨V4, u4, e4, p4⟩ := main
    have q71 : qG G (m + 71) = 123 := by unfold qG; rw [s10_107s hG10]
    have e5 := r_chk (V := V4) (g := imG M n) q71 (by decide) (B := imN n) (by omega) (fun k hk => ⟨by rw [hP] at p4; rw [p4.2.2.2.2.2 k hk, iF k hk], imG_rg hn10 hoM hk⟩)
    have i108 : gI V4 m 108 = ((imN n : Nat) : Int) := by rw [hP] at p4; exact p4.2.2.2.2.1
    obtain ⟨V6, e6, p6⟩ := wr p4 (by omega) zN
    have p6' := p6
    rw [hP] at p6'
    obtain ⟨y1, y2, y3, y4, y5, y6⟩ := p6'
    refine ⟨V6, ?_, fun i hi => ⟨by funext j; exact y2 i j (by omega), y1 i (by omega), by rw [y3], by rw [y4]⟩, rY_by hv (fun i p q r => y1 i (by omega)) (fun k k1 k2 k3 k4 k5 k6 => y2 m k (by omega)) (by rw [y4]) ⟨fun j hj => by rw [y1 _ (by omega)]; exact hv.2.1.1 j hj, by rw [y2 m 1 (by omega)]; exact hv.2.1.2⟩ ⟨by rw [y2 m 7 (by omega)]; exact hv.2.2.1.1, by rw [y2 m 8 (by omega)]; exact hv.2.2.1.2⟩ ⟨by rw [slL_len]; exact y5, fun j hj => ?_⟩ ⟨by rw [y2 m 72 (by omega)]; exact hv.2.2.2.2.1.1, fun j hj => by rw [y1 _ (by omega)]; exact hv.2.2.2.2.1.2.1 j hj, fun q => by rw [y2 m 73 (by omega)]; exact hv.2.2.2.2.1.2.2 q⟩ (by rw [y3]; exact hv.2.2.2.2.2.1)⟩
    · unfold F_X10_image
      refine E_lt ?_
      rw [← hV0, h00 P0, (tm256 (show 0 ≤ mh M by rw [hM]; exact hh.1)).2]
      refine E_gd (by rw [hM]; exact ⟨by omega, by omega⟩) (E_bd e2 ?_)
      rw [h00 p2, (tm256 (show 0 ≤ mh M by rw [hM]; exact hh.1)).1]
      refine E_gd (by rw [hM]; exact ⟨by omega, by omega⟩) (E_bd e3 (E_bd e4 ?_))
      rw [i108]
      exact E_bd e5 (E_bd e6 (E_so rfl y5))
    · have hj' : j < (slL (imT M n)).length := hj
      rw [slL_len] at hj'
      rw [y6 j hj', slL_get hj']; rfl
  · obtain ⟨⟨a1, a2, a3, a4, a5, a6, a7⟩, b, c, d⟩ := okA_s h
    refine ⟨⟨a1, a2, a3, a4, ⟨?_, fun a ha => ?_⟩, a6, a7⟩, b, c, d⟩
    · show (slL (imT M n)).length ≤ 123
      rw [slL_len, iL]; omega
    · have ha' : a ∈ (List.range (imN n + 1)).map (imF M n) := ha
      obtain ⟨k, hk, e⟩ := List.mem_map.mp ha'
      rw [List.mem_range] at hk
      rw [← e]
      by_cases ek : k = imN n
      · rw [ek, zN]
        have := chk_rg (f := imG M n) (imN n)
        omega
      · rw [iF k (by omega)]; exact imG_rg hn10 hoM (by omega)
end

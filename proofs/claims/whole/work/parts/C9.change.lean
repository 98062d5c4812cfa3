/-! change (class) -/
def cst (C : mCy) (M : mMo) (l p : Int) : Int := if p = l then 1000 else dcnt l (cd C) - dob C p l (mp M p l) (mh M / 24)
theorem dcnt_rg {C : mCy} (ho : okC C) {l : Int} : 0 ≤ dcnt l (cd C) ∧ dcnt l (cd C) ≤ 24 := by
  have h1 := ho.2.2.1.1
  have h2 := List.countP_le_length (p := fun d : Int × Int × Int => decide (d.1 = l)) (l := cd C)
  unfold dcnt; omega
theorem dob_le {C : mCy} {p l pts day : Int} : dob C p l pts day ≤ dcnt l (cd C) := by
  have : (cd C).countP (dobB C p l pts day) ≤ (cd C).countP (fun d => decide (d.1 = l)) := List.countP_mono_left (fun x _ h => decide_eq_true (of_decide_eq_true h).1)
  unfold dob dcnt; omega
theorem cst_ok {C : mCy} {M : mMo} (ho : okC C) : okKc (cst C M) (cn C).toNat := by
  intro l p _ _ _ _
  have a := dcnt_rg ho (l := l)
  have b := dob_rg ho (p := p) (l := l) (pts := mp M p l) (day := mh M / 24)
  have d := dob_le (C := C) (p := p) (l := l) (pts := mp M p l) (day := mh M / 24)
  unfold cst
  by_cases e : p = l
  · rw [if_pos e]; exact ⟨by decide, by decide, fun z => absurd e z⟩
  · rw [if_neg e]; exact ⟨by omega, by omega, fun _ => by omega⟩
section
variable {G : mG} {V V1 : mV} {r : Nat} {n : Nat}
theorem c_costBy (hG : is0 G r) (h1 : gI V (r + 1) 1 = 100) (h2 : gI V (r + 3) 1 = 1024) {x l p : Int} (hx : 0 ≤ x ∧ x < 1024) (hl : 0 ≤ l ∧ l < 10) (hp : 0 ≤ p ∧ p < 10) : F_X0_costBy G r x l p V = some (V, rc V (r + 1) (l * 10 + p) + rc V (r + 3) (nx x p)) := by
  have hy := nx_lt (n := 10) (x := x) (p := p) (by show 0 ≤ x ∧ x < 1024; exact hx) (by show 0 ≤ p ∧ p < 10; exact hp)
  have hy2 : nx x p < 1024 := hy.2
  have hs := shl1_lt hp.1 hp.2
  have g1 : F_X7_get G (r + 1) (l * 10 + p) V = some (V, rc V (r + 1) (l * 10 + p)) := by
    rw [p7_get (s0_0s hG) (rw_rz (s0_0c hG) h1 ⟨by decide, by decide⟩) ⟨by omega, by omega⟩, rget_in (by omega) (by rw [h1]; omega)]
  have g2 : F_X7_get G (r + 3) (nx x p) V = some (V, rc V (r + 3) (nx x p)) := by
    rw [p7_get (s0_1s hG) (rw_rz (s0_1c hG) h2 ⟨by decide, by decide⟩) ⟨by omega, by omega⟩, rget_in hy.1 (by rw [h2]; exact hy2)]
  unfold F_X0_costBy
  exact E_bd g1 (E_gd ⟨by omega, by omega⟩ (E_gd ⟨hx.1, hs.1⟩ (E_bd g2 rfl)))
theorem c_cheap (hG : is0 G r) (h3 : gI V r 3 = (n : Int)) (hn : n ≤ 10) (h1 : gI V (r + 1) 1 = 100) (h2 : gI V (r + 3) 1 = 1024) {x l : Int} (hx : 0 ≤ x ∧ x < ((2 ^ n : Nat) : Int)) (hl : 0 ≤ l ∧ l < (n : Int)) {g : Int → Int} (hg : ∀ q, 0 ≤ q → q < (n : Int) → bt x q = 0 → rc V (r + 1) (l * 10 + q) + rc V (r + 3) (nx x q) = g q ∧ rg (g q)) : F_X0_cheapest G r x l V = some (V, (cz x g n).1) := by
  have h10 := p2_le hn
  have main : Wp (lp (fun (s : Int × Int × Int) V => B_X0_cheapest_8 G r x l s.1 s.2.1 s.2.2 V) FU ((-1), (-1), 0) V) (fun V' q => V' = V ∧ q.2.1 = (cz x g n).1) := by
    refine W_lp (fun w (y : Int × Int × Int) U => U = V ∧ ∃ k : Nat, y = ((cz x g k).1, (cz x g k).2, (k : Int)) ∧ k + w = n) ?_ FU n _ V ⟨rfl, 0, rfl, by omega⟩ (by unfold FU; omega)
    rintro w y U ⟨rfl, k, rfl, hw⟩
    show Wp (B_X0_cheapest_8 G r x l (cz x g k).1 (cz x g k).2 (k : Int) U) _
    unfold B_X0_cheapest_8
    rw [h3]
    refine W_gd ⟨by omega, by omega⟩ (W_gd ⟨by omega, by omega⟩ (W_if (fun z => W_so (Or.inr ⟨Nat.one_ne_zero, rfl, ?_⟩)) (fun z => W_be (c_costBy hG h1 h2 (x := x) (l := l) (p := (k : Int)) ⟨hx.1, by omega⟩ ⟨hl.1, by omega⟩ ⟨by omega, by omega⟩) ?_)))
    · have e : k = n := by omega
      show (cz x g k).1 = _
      rw [e]
    · have hb := bt_01 x (k : Int)
      have hb2 : (shr x (k : Int)) % 2 = 0 ∨ (shr x (k : Int)) % 2 = 1 := hb
      have sn := cz_s (x := x) (g := g) (m := k)
      refine W_gd ⟨by omega, by omega⟩ (W_gd ⟨by omega, by omega⟩ (W_gd ⟨by omega, by omega⟩ (W_if (fun e => ?_) (fun e => ?_))))
      · obtain ⟨g1, g2⟩ := hg (k : Int) (by omega) (by omega) e
        rw [g1]
        have cr := cz_rg (x := x) (g := g) k
        have c1 : -1 ≤ (cz x g k).1 ∧ (cz x g k).1 < (k : Int) := by rcases cr with q | q <;> omega
        refine W_gd ⟨by omega, by omega⟩ (W_if (fun z1 => ?_) (fun z1 => ?_))
        · have st : chs x g (k : Int) (cz x g k) = ((k : Int), g (k : Int)) := if_pos ⟨e, Or.inl z1⟩
          exact W_lt (W_so (Or.inl ⟨rfl, w - 1, by omega, rfl, k + 1, by rw [sn, st]; rfl, by omega⟩))
        · have c2 : rg (cz x g k).2 := by
            rcases cr with q | ⟨q1, q2, q3, q4, -⟩
            · exact absurd q.1 z1
            · rw [q4]; exact (hg _ q1 (by omega) q3).2
          refine W_gd g2 (W_gd c2 (W_if (fun z2 => ?_) (fun z2 => ?_)))
          · have st : chs x g (k : Int) (cz x g k) = cz x g k := if_neg (fun q => q.2.elim z1 (fun q => by omega))
            exact W_lt (W_so (Or.inl ⟨rfl, w - 1, by omega, rfl, k + 1, by rw [sn, st]; rfl, by omega⟩))
          · have st : chs x g (k : Int) (cz x g k) = ((k : Int), g (k : Int)) := if_pos ⟨e, Or.inr (by omega)⟩
            exact W_lt (W_so (Or.inl ⟨rfl, w - 1, by omega, rfl, k + 1, by rw [sn, st]; rfl, by omega⟩))
      · have st : chs x g (k : Int) (cz x g k) = cz x g k := if_neg (fun q => e q.1)
        exact W_lt (W_so (Or.inl ⟨rfl, w - 1, by omega, rfl, k + 1, by rw [sn, st]; rfl, by omega⟩))
  obtain ⟨V', q, e1, rfl, e2⟩ := main
  unfold F_X0_cheapest
  exact E_bd e1 (E_so rfl e2)
theorem c_work (hG : is0 G r) (h3 : gI V r 3 = (n : Int)) (hn : n ≤ 10) (hn2 : 2 ≤ n) {c : Int → Int → Int} (hc : okKc c n) (h1 : gI V (r + 1) 1 = 100) (h2 : gI V (r + 3) 1 = 1024) (hcost : ∀ l p, 0 ≤ l → l < (n : Int) → 0 ≤ p → p < (n : Int) → rc V (r + 1) (l * 10 + p) = c l p) (hlv : gI V (r + 5) 1 = 0) :
    ∃ V', F_X0_work G r V = some (V', 0) ∧ fr (fun i => i = r + 4 ∨ i = r + 5 ∨ i = r + 6) V V' ∧ gI V' (r + 3) 1 = 1024 ∧ rc V' (r + 3) 0 = Rd c n n 0 ∧ rw' V' (r + 5) (n : Int) (fun l => wch c n l.toNat (mks c n l.toNat)) := by
  have h10 := p2_le hn
  have h20 : 0 < 2 ^ n := Nat.pow_pos (by decide)
  have h21 : 2 ^ 2 ≤ 2 ^ n := Nat.pow_le_pow_right (by decide) hn2
  have h22 : 4 ≤ 2 ^ n := h21
  have es : shl 1 (n : Int) = ((2 ^ n : Nat) : Int) := by rw [shl1 (by omega), Int.toNat_natCast]
  have b3 := bits3 ⟨n, by omega⟩
  simp only at b3
  obtain ⟨A, hA⟩ : ∃ A : Nat, A = 2 ^ n := ⟨_, rfl⟩
  rw [← hA] at h10 h20 h22 es b3
  have g0 := rw_put (V := V) (v := 0) (k := (A : Int) - 1) (f := rc V (r + 3)) (n := 1024) (s0_1s hG) (s0_1c hG) ⟨h2, fun _ _ _ => rfl⟩ (by decide) ⟨by omega, by omega⟩
  obtain ⟨p1, p2⟩ := g0
  obtain ⟨V1, hV1⟩ : ∃ V1, V1 = sA V (r + 3 + 1) ((A : Int) - 1).toNat 0 := ⟨_, rfl⟩
  rw [← hV1] at p1 p2
  have k1 : fr (fun i => i = r + 4) V V1 := by rw [hV1]; exact fr_sA rfl
  -- the table
  have main1 : Wp (lp (fun (s : Int) V => B_X0_work_22 G r s V) FU ((A : Int) - 1 - 1) V1) (fun V' _ => fr (fun i => i = r + 4) V V' ∧ ∀ z, 0 ≤ z → z < (A : Int) → rc V' (r + 3) z = Rd c n (n - (pct z).toNat) z) := by
    refine W_lp (fun w (y : Int) U => y = (w : Int) - 1 ∧ w + 1 ≤ A ∧ fr (fun i => i = r + 4) V U ∧ ∀ z, (w : Int) ≤ z → z < (A : Int) → rc U (r + 3) z = Rd c n (n - (pct z).toNat) z) ?_ FU (A - 1) _ V1 ⟨by omega, by omega, k1, fun z z0 z1 => ?_⟩ (by unfold FU; omega)
    · rintro w y U ⟨rfl, hwA, hf, hT⟩
      unfold B_X0_work_22
      refine W_gd ⟨by omega, by omega⟩ (W_if (fun q => W_so (Or.inr ⟨Nat.one_ne_zero, hf, fun z z0 z1 => hT z (by omega) z1⟩)) (fun q => ?_))
      obtain ⟨x, hx⟩ : ∃ x : Int, x = (w : Int) - 1 := ⟨_, rfl⟩
      rw [← hx] at q ⊢
      have hxA : 0 ≤ x ∧ x < ((2 ^ n : Nat) : Int) := by rw [← hA]; omega
      have hp := pct_lt hn (x := x) ⟨hxA.1, by rw [← hA]; omega⟩
      have hp0 := pct_nn (x := x)
      obtain ⟨f, hfe⟩ : ∃ f : Nat, pct x + ((f + 1 : Nat) : Int) = (n : Int) := ⟨n - (pct x).toNat - 1, by omega⟩
      have el : (n : Int) - ((f : Int) + 1) = pct x := by omega
      have i1 : gI U (r + 1) 1 = 100 := by rw [hf.I (by omega)]; exact h1
      have i2 : gI U (r + 3) 1 = 1024 := by rw [hf.I (by omega)]; exact h2
      have i3 : gI U r 3 = (n : Int) := by rw [hf.I (by omega)]; exact h3
      have c1 : rc U (r + 1) = rc V (r + 1) := rc_fr hf (by omega)
      obtain ⟨wq, w0, w1, w2, w3, -⟩ := Rd_s (c := c) hn hxA hfe
      rw [el] at w0 w3
      have gq : ∀ q, 0 ≤ q → q < (n : Int) → bt x q = 0 → rc U (r + 1) (pct x * 10 + q) + rc U (r + 3) (nx x q) = (fun p => c (pct x) p + Rd c n f (nx x p)) q ∧ rg ((fun p => c (pct x) p + Rd c n f (nx x p)) q) := by
        intro q q0 q1 q2
        obtain ⟨y1, y2⟩ := nx_ok hn hxA hfe ⟨q0, q1⟩ q2
        have y3 := (nx_pct (x := x) (p := q) ⟨hxA.1, by omega⟩ ⟨q0, by omega⟩ q2)
        obtain ⟨t0, t1, -⟩ := FR_eq (c := c) hn hc f _ y1 y2
        have hcq := hc (pct x) q hp0.1 hp q0 q1
        show rc U (r + 1) (pct x * 10 + q) + rc U (r + 3) (nx x q) = c (pct x) q + Rd c n f (nx x q) ∧ rg (c (pct x) q + Rd c n f (nx x q))
        refine ⟨?_, ⟨by omega, by omega⟩⟩
        rw [c1, hcost _ _ hp0.1 hp q0 q1, hT (nx x q) (by omega) (by rw [hA]; exact y1.2), show n - (pct (nx x q)).toNat = f by omega]
      have e2 := c_cheap hG i3 hn i1 i2 hxA (l := pct x) ⟨hp0.1, hp⟩ gq
      rw [← w0] at e2
      have e3 := c_costBy (V := U) hG i1 i2 (x := x) (l := pct x) (p := wq) ⟨hxA.1, by omega⟩ ⟨hp0.1, by omega⟩ ⟨w1.1, by omega⟩
      have e3' := (gq wq w1.1 w1.2 w2).1
      rw [e3', show (fun p => c (pct x) p + Rd c n f (nx x p)) wq = Rd c n (f + 1) x from w3.symm] at e3
      obtain ⟨e4, r4⟩ := rw_put (V := U) (v := Rd c n (f + 1) x) (k := x) (f := rc U (r + 3)) (n := 1024) (s0_1s hG) (s0_1c hG) ⟨i2, fun _ _ _ => rfl⟩ (by decide) ⟨hxA.1, by omega⟩
      refine W_gd ⟨by omega, by omega⟩ (W_lt (W_be e2 (W_be e3 (W_be e4 (W_lt (W_so (Or.inl ⟨rfl, w - 1, by omega, by show x + -1 = _; omega, by omega, hf.trans (fr_sA rfl), fun z z0 z1 => ?_⟩)))))))
      rw [r4.2 z (by omega) (by omega)]
      unfold uf
      by_cases e : z = x
      · rw [if_pos e, e, show n - (pct x).toNat = f + 1 by omega]
      · rw [if_neg e]; exact hT z (by omega) z1
    · have ez : z = (A : Int) - 1 := by omega
      rw [p2.2 z (by omega) (by omega)]
      unfold uf
      rw [if_pos ez, ez, show (A : Int) - 1 = ((A - 1 : Nat) : Int) by omega, b3, Int.toNat_natCast, Nat.sub_self]; rfl
  obtain ⟨V2, q2, e2, k2, t2⟩ := main1
  have i1 : gI V2 (r + 1) 1 = 100 := by rw [k2.I (by omega)]; exact h1
  have i2 : gI V2 (r + 3) 1 = 1024 := by rw [k2.I (by omega)]; exact h2
  have i3 : gI V2 r 3 = (n : Int) := by rw [k2.I (by omega)]; exact h3
  have c1 : rc V2 (r + 1) = rc V (r + 1) := rc_fr k2 (by omega)
  have hlv2 : rw' V2 (r + 5) 0 (fun l => wch c n l.toNat (mks c n l.toNat)) := ⟨by rw [k2.I (by omega)]; exact hlv, fun j a b => by omega⟩
  -- the way
  have main2 : Wp (lp (fun (s : Int × Int) V => B_X0_work_61 G r s.1 s.2 V) FU (0, 0) V2) (fun V' _ => fr (fun i => i = r + 5 ∨ i = r + 6) V2 V' ∧ rw' V' (r + 5) (n : Int) (fun l => wch c n l.toNat (mks c n l.toNat))) := by
    refine W_lp (fun w (y : Int × Int) U => ∃ l : Nat, y = (mks c n l, (l : Int)) ∧ l + w = n ∧ fr (fun i => i = r + 5 ∨ i = r + 6) V2 U ∧ rw' U (r + 5) (l : Int) (fun l => wch c n l.toNat (mks c n l.toNat))) ?_ FU n _ V2 ⟨0, rfl, by omega, fr_refl, hlv2⟩ (by unfold FU; omega)
    rintro w y U ⟨l, rfl, hw, hf, hr⟩
    show Wp (B_X0_work_61 G r (mks c n l) (l : Int) U) _
    have j1 : gI U (r + 1) 1 = 100 := by rw [hf.I (by omega)]; exact i1
    have j2 : gI U (r + 3) 1 = 1024 := by rw [hf.I (by omega)]; exact i2
    have j3 : gI U r 3 = (n : Int) := by rw [hf.I (by omega)]; exact i3
    have d1 : rc U (r + 1) = rc V (r + 1) := by rw [rc_fr hf (by omega)]; exact c1
    have d3 : rc U (r + 3) = rc V2 (r + 3) := rc_fr hf (by omega)
    unfold B_X0_work_61
    rw [j3]
    refine W_gd ⟨by omega, by omega⟩ (W_gd ⟨by omega, by omega⟩ (W_if (fun q => W_so (Or.inr ⟨Nat.one_ne_zero, hf, ?_⟩)) (fun q => ?_)))
    · have e : l = n := by omega
      rw [e] at hr; exact hr
    obtain ⟨m1, m2, -⟩ := mks_ok hn hn2 hc l (by omega)
    obtain ⟨f, hfe⟩ : ∃ f, n - l = f + 1 := ⟨n - l - 1, by omega⟩
    have hp : pct (mks c n l) + ((f + 1 : Nat) : Int) = (n : Int) := by omega
    obtain ⟨wq, w0, w1, w2, w3, -⟩ := Rd_s (c := c) hn m1 hp
    have el : (n : Int) - ((f : Int) + 1) = (l : Int) := by omega
    rw [el] at w0
    have ew : wch c n l (mks c n l) = wq := by
      unfold wch
      rw [w0, show n - l - 1 = f by omega]
    have gq : ∀ q, 0 ≤ q → q < (n : Int) → bt (mks c n l) q = 0 → rc U (r + 1) ((l : Int) * 10 + q) + rc U (r + 3) (nx (mks c n l) q) = (fun p => c (l : Int) p + Rd c n f (nx (mks c n l) p)) q ∧ rg ((fun p => c (l : Int) p + Rd c n f (nx (mks c n l) p)) q) := by
      intro q q0 q1 q2
      obtain ⟨y1, y2⟩ := nx_ok hn m1 hp ⟨q0, q1⟩ q2
      obtain ⟨t0, t1, -⟩ := FR_eq (c := c) hn hc f _ y1 y2
      have hcq := hc (l : Int) q (by omega) (by omega) q0 q1
      have y3 := pct_nn (x := nx (mks c n l) q)
      show rc U (r + 1) ((l : Int) * 10 + q) + rc U (r + 3) (nx (mks c n l) q) = c (l : Int) q + Rd c n f (nx (mks c n l) q) ∧ rg (c (l : Int) q + Rd c n f (nx (mks c n l) q))
      refine ⟨?_, ⟨by omega, by omega⟩⟩
      rw [d1, hcost _ _ (by omega) (by omega) q0 q1, d3, t2 (nx (mks c n l) q) y1.1 (by rw [hA]; exact y1.2), show n - (pct (nx (mks c n l) q)).toNat = f by omega]
    have e3 := c_cheap hG j3 hn j1 j2 m1 (l := (l : Int)) ⟨by omega, by omega⟩ gq
    rw [← w0] at e3
    obtain ⟨U1, e4, f4, r4⟩ := rw_add (v := wq) (s0_2s hG) (s0_2c hG) hr ⟨by omega, by show (l : Int) < 10; omega⟩ (by show wch c n ((l : Int)).toNat (mks c n ((l : Int)).toNat) = wq; rw [Int.toNat_natCast]; exact ew)
    have hs := shl1_lt w1.1 (show wq < 10 by omega)
    refine W_be e3 (W_be e4 (W_gd ⟨by omega, by omega⟩ (W_gd ⟨m1.1, hs.1⟩ (W_lt (W_lt (W_so (Or.inl ⟨rfl, w - 1, by omega, l + 1, ?_, by omega, hf.trans (f4.mono (fun i q => by omega)), r4⟩)))))))
    show (nx (mks c n l) wq, (l : Int) + 1) = (nx (mks c n l) (wch c n l (mks c n l)), ((l + 1 : Nat) : Int))
    rw [ew]; rfl
  obtain ⟨V3, q3, e3, k3, r3⟩ := main2
  refine ⟨V3, ?_, (k2.mono (fun i q => Or.inl q)).trans (k3.mono (fun i q => Or.inr q)), by rw [k3.I (by omega)]; exact i2, ?_, r3⟩
  · unfold F_X0_work
    rw [h3, es]
    exact E_gd ⟨by omega, by omega⟩ (E_lt (E_bd p1 (E_lt (E_bd e2 (E_bd e3 rfl)))))
  · rw [rc_fr k3 (by omega), t2 0 (by omega) (by omega)]; rfl
end
section
variable {G : mG} {V V1 : mV} {x m : Nat} {Z : mZ}
def aChange (Z : mZ) (k : Int) : Int := if 2 ≤ cn Z.1 ∧ (k = -1 ∨ (0 ≤ k ∧ k < cn Z.1)) then (if k = -1 then Rd (cst Z.1 Z.2.1) (cn Z.1).toNat (cn Z.1).toNat 0 else wch (cst Z.1 Z.2.1) (cn Z.1).toNat k.toNat (mks (cst Z.1 Z.2.1) (cn Z.1).toNat k.toNat)) else -1
theorem c_change (hG : is9 G x) (ho : okZ Z) (hv : vZ G V x Z) (hlv : 0 ≤ gI V (x + 43) 1 ∧ gI V (x + 43) 1 ≤ 10) {k : Int} (hk : rg k) :
    ∃ V', F_X9_change G x k V = some (V', aChange Z k) ∧ fr (fun i => zE G x i ∨ (x + 38 ≤ i ∧ i ≤ x + 44)) V V' ∧ vZ G V' x Z ∧ (0 ≤ gI V' (x + 43) 1 ∧ gI V' (x + 43) 1 ≤ 10) := by
  have hn := ho.1.1
  have e1 := c_isP ho hv hk
  have hsz : gI V (gR G x 10 + 1) 1 = cn Z.1 := hv.2.1.2.1.1.1
  have h0 := s9_6s hG
  unfold F_X9_change aChange
  by_cases h2 : 2 ≤ cn Z.1
  rotate_left
  · rw [if_neg (fun q => h2 q.1)]
    refine ⟨V, E_bd p7_size ?_, fr_refl, hv, hlv⟩
    rw [hsz]
    exact E_gd ⟨by omega, by omega⟩ (E_if (fun _ => rfl) (fun q => absurd (by omega) h2))
  by_cases hk2 : k = -1 ∨ (0 ≤ k ∧ k < cn Z.1)
  rotate_left
  · rw [if_neg (fun q => hk2 q.2)]
    rw [if_neg (fun q => hk2 (Or.inr q))] at e1
    refine ⟨V, E_bd p7_size ?_, fr_refl, hv, hlv⟩
    rw [hsz]
    exact E_gd ⟨by omega, by omega⟩ (E_if (fun q => by omega) (fun _ => E_gd hk (E_if (fun q => absurd (Or.inl q) hk2) (fun _ => E_n e1 rfl))))
  rw [if_pos ⟨h2, hk2⟩]
  obtain ⟨n, hnn⟩ : ∃ n : Nat, (n : Int) = cn Z.1 := ⟨(cn Z.1).toNat, by omega⟩
  have hnt : (cn Z.1).toNat = n := by omega
  rw [hnt]
  have hcok := cst_ok (M := Z.2.1) ho.1
  rw [hnt] at hcok
  have hv0 := hv
  obtain ⟨a, b, c, d, ⟨e0, f⟩, g, i, j⟩ := hv
  -- begin
  have k1 : fr (fun i => i = x + 38) V (sI V (x + 38) 3 (cn Z.1)) := fr_sI rfl
  obtain ⟨V2, g2, k2, r2⟩ := rw_fill (V := sI V (x + 38) 3 (cn Z.1)) (n := 100) (v := 1000) (s0_0s h0) (s0_0c h0) ⟨by decide, by decide⟩
  obtain ⟨V3, g3, k3, r3⟩ := rw_fill (V := V2) (n := 1024) (v := 1000) (s0_1s h0) (s0_1c h0) ⟨by decide, by decide⟩
  have k13 : fr (fun i => x + 38 ≤ i ∧ i ≤ x + 42) V V3 := ((k1.mono (fun i q => by omega)).trans (k2.mono (fun i q => by omega))).trans (k3.mono (fun i q => by omega))
  obtain ⟨V4, g4, k4, r4⟩ := rw_cut0 (V := V3) (f := fun _ => 0) (s0_2s h0) (rw_rz (V := V3) (s0_2c h0) rfl (by rw [k13.I (by omega)]; exact hlv))
  have eb : F_X0_begin G (x + 38) (cn Z.1) V = some (V4, 0) := by
    unfold F_X0_begin
    exact E_lt (E_bd g2 (E_bd g3 (E_bd g4 rfl)))
  have k14 : fr (fun i => x + 38 ≤ i ∧ i ≤ x + 43) V V4 := (k13.mono (fun i q => by omega)).trans (k4.mono (fun i q => by omega))
  have p4 : gI V4 (x + 38) 3 = cn Z.1 := by
    rw [k4.I (by omega), k3.I (by omega), k2.I (by omega), gI_sI, if_pos ⟨rfl, rfl⟩]
  have z1 : gI V4 (x + 39) 1 = 100 := by rw [k4.I (by omega), k3.I (by omega)]; exact r2.1
  have z3 : gI V4 (x + 41) 1 = 1024 := by rw [k4.I (by omega)]; exact r3.1
  have z5 : gI V4 (x + 43) 1 = 0 := r4.1
  have cc4 : ∀ j, 0 ≤ j → j < 100 → rc V4 (x + 39) j = 1000 := by
    intro j j0 j1
    rw [rc_fr k4 (by omega), rc_fr k3 (by omega)]; exact r2.2 j j0 j1
  -- what all laps keep
  have keep : ∀ {U : mV}, fr (fun i => i = x + 29 ∨ isSk (gR G x 10) i ∨ i = x + 40) V4 U → kC U (x + 27) → vZ G U x Z := by
    intro U kU kk
    have kVU : fr (fun i => (x + 38 ≤ i ∧ i ≤ x + 43) ∨ i = x + 29 ∨ isSk (gR G x 10) i) V U := (k14.mono (fun i q => Or.inl q)).trans (kU.mono (fun i q => by simp only [isSk] at q ⊢; omega))
    refine ⟨a, b.fr kVU (fun j p q w s => by simp only [isSk] at w s; omega), c.fr kVU (fun j p q s => by simp only [isSk] at s; omega), kk, ⟨e0, f.fr kVU (fun j p q s => by simp only [isSk] at s; omega)⟩, ?_, i.fr kVU (fun j p q s => by simp only [isSk] at s; omega), j.fr kVU (by simp only [isSk]; omega) (by simp only [isSk]; omega)⟩
    rw [kVU.I (by simp only [isSk]; omega)]; exact g
  have kC4 : kC V4 (x + 27) := d.fr k14 (by omega) (by omega)
  have costs : Wp (lp (fun (s : Int) V => B_X9_change_41 G x k (cn Z.1) s V) FU 0 V4) (fun V' _ => fr (fun i => i = x + 29 ∨ isSk (gR G x 10) i ∨ i = x + 40) V4 V' ∧ kC V' (x + 27) ∧ ∀ l p, 0 ≤ l → l < (n : Int) → 0 ≤ p → p < (n : Int) → rc V' (x + 39) (l * 10 + p) = cst Z.1 Z.2.1 l p) := by
    refine W_lp (fun w (y : Int) U => ∃ t : Nat, y = (t : Int) ∧ t + w = n ∧ fr (fun i => i = x + 29 ∨ isSk (gR G x 10) i ∨ i = x + 40) V4 U ∧ kC U (x + 27) ∧ ∀ l p, 0 ≤ l → l < (n : Int) → 0 ≤ p → p < (n : Int) → rc U (x + 39) (l * 10 + p) = if l < (t : Int) then cst Z.1 Z.2.1 l p else 1000) ?_ FU n _ V4 ⟨0, rfl, by omega, fr_refl, kC4, fun l p l0 l1 p0 p1 => by rw [if_neg (by omega)]; exact cc4 _ (by omega) (by omega)⟩ (by unfold FU; omega)
    rintro w y U ⟨t, rfl, hw, hf, hkU, hT⟩
    unfold B_X9_change_41
    refine W_gd ⟨by omega, by omega⟩ (W_gd ⟨by omega, by omega⟩ (W_if (fun q => W_so (Or.inr ⟨Nat.one_ne_zero, hf, hkU, fun l p l0 l1 p0 p1 => ?_⟩)) (fun q => ?_)))
    · rw [hT l p l0 l1 p0 p1, if_pos (by omega)]
    have vU := keep hf hkU
    have ec := c_count (s9_10s hG) ho.1 vU.2.1 (p := (t : Int)) ⟨by omega, by omega⟩
    have inner : Wp (lp (fun (s : Int) V => B_X9_change_62 G x k (cn Z.1) (t : Int) (dcnt (t : Int) (cd Z.1)) s V) FU 0 U) (fun V' _ => fr (fun i => i = x + 29 ∨ isSk (gR G x 10) i ∨ i = x + 40) V4 V' ∧ kC V' (x + 27) ∧ ∀ l p, 0 ≤ l → l < (n : Int) → 0 ≤ p → p < (n : Int) → rc V' (x + 39) (l * 10 + p) = if l < ((t + 1 : Nat) : Int) then cst Z.1 Z.2.1 l p else 1000) := by
      refine W_lp (fun w (y : Int) U => ∃ u : Nat, y = (u : Int) ∧ u + w = n ∧ fr (fun i => i = x + 29 ∨ isSk (gR G x 10) i ∨ i = x + 40) V4 U ∧ kC U (x + 27) ∧ ∀ l p, 0 ≤ l → l < (n : Int) → 0 ≤ p → p < (n : Int) → rc U (x + 39) (l * 10 + p) = if l < (t : Int) ∨ (l = (t : Int) ∧ p < (u : Int)) then cst Z.1 Z.2.1 l p else 1000) ?_ FU n _ U ⟨0, rfl, by omega, hf, hkU, fun l p l0 l1 p0 p1 => ?_⟩ (by unfold FU; omega)
      · rintro w y U ⟨u, rfl, hw, hf, hkU, hT⟩
        have vU := keep hf hkU
        unfold B_X9_change_62
        refine W_gd ⟨by omega, by omega⟩ (W_gd ⟨by omega, by omega⟩ (W_if (fun q => W_so (Or.inr ⟨Nat.one_ne_zero, hf, hkU, fun l p l0 l1 p0 p1 => ?_⟩)) (fun q => W_gd ⟨by omega, by omega⟩ (W_if (fun e => ?_) (fun e => ?_)))))
        · rw [hT l p l0 l1 p0 p1]
          by_cases z : l < ((t + 1 : Nat) : Int)
          · rw [if_pos z, if_pos (by omega)]
          · rw [if_neg z, if_neg (by omega)]
        · refine W_lt (W_so (Or.inl ⟨rfl, w - 1, by omega, u + 1, rfl, by omega, hf, hkU, fun l p l0 l1 p0 p1 => ?_⟩))
          rw [hT l p l0 l1 p0 p1]
          by_cases z : l < (t : Int) ∨ (l = (t : Int) ∧ p < (u : Int))
          · rw [if_pos z, if_pos (by omega)]
          · rw [if_neg z]
            by_cases z2 : l = (t : Int) ∧ p = (u : Int)
            · rw [if_pos (by omega)]
              unfold cst; rw [if_pos (by omega)]
            · rw [if_neg (by omega)]
        · obtain ⟨U1, g1, kk1, f1⟩ := c_countAble (s9_5s hG) (s9_10s hG) (s9_8s hG) ho.1 vU.2.1 hkU (by omega) (by omega) vU.2.2.1 ho.2.1 (p := (u : Int)) (l := (t : Int)) ⟨by omega, by omega⟩ ⟨by omega, by omega⟩
          have f1' : fr (fun i => i = x + 29 ∨ isSk (gR G x 10) i ∨ i = x + 40) U U1 := f1.mono (fun i q => by simp only [sT, isSk] at q ⊢; omega)
          have f41 := hf.trans f1'
          have s1 : gI U1 (x + 39) 1 = 100 := by rw [f41.I (by simp only [isSk]; omega)]; exact z1
          obtain ⟨g5, r5⟩ := rw_put (V := U1) (v := dcnt (t : Int) (cd Z.1) - dob Z.1 (u : Int) (t : Int) (mp Z.2.1 (u : Int) (t : Int)) (mh Z.2.1 / 24)) (k := (t : Int) * 10 + (u : Int)) (f := rc U1 (x + 39)) (n := 100) (s0_0s h0) (s0_0c h0) ⟨s1, fun _ _ _ => rfl⟩ (by decide) ⟨by omega, by omega⟩
          have es : F_X0_setCost G (x + 38) (t : Int) (u : Int) (dcnt (t : Int) (cd Z.1) - dob Z.1 (u : Int) (t : Int) (mp Z.2.1 (u : Int) (t : Int)) (mh Z.2.1 / 24)) U1 = some (sA U1 (x + 38 + 1 + 1) ((t : Int) * 10 + (u : Int)).toNat (dcnt (t : Int) (cd Z.1) - dob Z.1 (u : Int) (t : Int) (mp Z.2.1 (u : Int) (t : Int)) (mh Z.2.1 / 24)), 0) := by
            unfold F_X0_setCost
            exact E_bd g5 rfl
          have f5 : fr (fun i => i = x + 40) U1 (sA U1 (x + 38 + 1 + 1) ((t : Int) * 10 + (u : Int)).toNat (dcnt (t : Int) (cd Z.1) - dob Z.1 (u : Int) (t : Int) (mp Z.2.1 (u : Int) (t : Int)) (mh Z.2.1 / 24))) := fr_sA rfl
          refine W_be g1 (W_be es (W_lt (W_so (Or.inl ⟨rfl, w - 1, by omega, u + 1, rfl, by omega, f41.trans (f5.mono (fun i q => Or.inr (Or.inr q))), kk1.fr f5 (by omega) (by omega), fun l p l0 l1 p0 p1 => ?_⟩))))
          have r5' := r5.2 (l * 10 + p) (by omega) (by omega)
          have r5'' : rc (sA U1 (x + 38 + 1 + 1) ((t : Int) * 10 + (u : Int)).toNat (dcnt (t : Int) (cd Z.1) - dob Z.1 (u : Int) (t : Int) (mp Z.2.1 (u : Int) (t : Int)) (mh Z.2.1 / 24))) (x + 39) (l * 10 + p) = uf (rc U1 (x + 39)) ((t : Int) * 10 + (u : Int)) (dcnt (t : Int) (cd Z.1) - dob Z.1 (u : Int) (t : Int) (mp Z.2.1 (u : Int) (t : Int)) (mh Z.2.1 / 24)) (l * 10 + p) := r5'
          rw [r5'']
          unfold uf
          by_cases z2 : l = (t : Int) ∧ p = (u : Int)
          · rw [if_pos (by omega), if_pos (by omega), z2.1, z2.2]
            unfold cst; rw [if_neg e]
          · rw [if_neg (by omega), rc_fr f1 (by simp only [sT, isSk]; omega), hT l p l0 l1 p0 p1]
            by_cases z : l < (t : Int) ∨ (l = (t : Int) ∧ p < (u : Int))
            · rw [if_pos z, if_pos (by omega)]
            · rw [if_neg z, if_neg (by omega)]
      · rw [hT l p l0 l1 p0 p1]
        by_cases z : l < (t : Int)
        · rw [if_pos z, if_pos (by omega)]
        · rw [if_neg z, if_neg (by omega)]
    obtain ⟨U1, q1, g1, f1, kk1, t1⟩ := inner
    exact W_be ec (W_be g1 (W_lt (W_so (Or.inl ⟨rfl, w - 1, by omega, t + 1, rfl, by omega, f1, kk1, t1⟩))))
  obtain ⟨V5, q5, e5, k5, kC5, t5⟩ := costs
  have y3 : gI V5 (x + 38) 3 = (n : Int) := by rw [k5.I (by simp only [isSk]; omega), p4, hnn]
  have y1 : gI V5 (x + 38 + 1) 1 = 100 := by rw [k5.I (by simp only [isSk]; omega)]; exact z1
  have y2 : gI V5 (x + 38 + 3) 1 = 1024 := by rw [k5.I (by simp only [isSk]; omega)]; exact z3
  have y5 : gI V5 (x + 38 + 5) 1 = 0 := by rw [k5.I (by simp only [isSk]; omega)]; exact z5
  obtain ⟨V6, e6, k6, s6, t6, r6⟩ := c_work h0 y3 (by omega) (by omega) hcok y1 y2 t5 y5
  have kfin : fr (fun i => (x + 38 ≤ i ∧ i ≤ x + 44) ∨ i = x + 29 ∨ isSk (gR G x 10) i) V V6 := ((k14.mono (fun i q => Or.inl (by omega))).trans (k5.mono (fun i q => by simp only [isSk] at q ⊢; omega))).trans (k6.mono (fun i q => Or.inl (by omega)))
  have fin : F_X9_change_J31 G x k (cn Z.1) V = some (V6, if k = -1 then Rd (cst Z.1 Z.2.1) n n 0 else wch (cst Z.1 Z.2.1) n k.toNat (mks (cst Z.1 Z.2.1) n k.toNat)) := by
    unfold F_X9_change_J31
    refine E_bd eb (E_bd e5 (E_bd e6 (E_gd hk (E_if (fun q => ?_) (fun q => ?_)))))
    · rw [if_pos q]
      have : F_X7_get G (x + 38 + 3) 0 V6 = some (V6, Rd (cst Z.1 Z.2.1) n n 0) := by
        rw [p7_get (s0_1s h0) (rw_rz (s0_1c h0) s6 ⟨by decide, by decide⟩) ⟨by decide, by decide⟩, rget_in (by decide) (by rw [s6]; decide), t6]
      unfold F_X0_cost
      exact E_bd (V1 := V6) (v1 := Rd (cst Z.1 Z.2.1) n n 0) (E_bd this rfl) rfl
    · rw [if_neg q]
      have := rw_get (s0_2s h0) (s0_2c h0) r6 (by show (n : Int) ≤ 10; omega) (k := k) ⟨by omega, by omega⟩
      unfold F_X0_whoLives
      exact E_bd (V1 := V6) (v1 := wch (cst Z.1 Z.2.1) n k.toNat (mks (cst Z.1 Z.2.1) n k.toNat)) (E_bd this rfl) rfl
  refine ⟨V6, E_bd p7_size ?_, kfin.mono (fun i q => by simp only [isSk] at q; simp only [zE]; omega), ⟨a, b.fr kfin (fun j p q w s => by simp only [isSk] at w s; omega), c.fr kfin (fun j p q s => by simp only [isSk] at s; omega), kC5.fr k6 (by omega) (by omega), ⟨e0, f.fr kfin (fun j p q s => by simp only [isSk] at s; omega)⟩, by rw [kfin.I (by simp only [isSk]; omega)]; exact g, i.fr kfin (fun j p q s => by simp only [isSk] at s; omega), j.fr kfin (by simp only [isSk]; omega) (by simp only [isSk]; omega)⟩, by rw [show gI V6 (x + 43) 1 = (n : Int) from r6.1]; omega⟩
  rw [hsz]
  refine E_gd ⟨by omega, by omega⟩ (E_if (fun q => by omega) (fun _ => E_gd hk (E_if (fun _ => fin) (fun q => ?_))))
  rw [if_pos (by omega)] at e1
  exact E_y e1 fin
end

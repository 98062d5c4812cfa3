/-! names that are known: both sides -/
/-- where a name stands -/
def fl (f : Int → List Int) (l : List Int) : Int → Nat → Int
  | _, 0 => -1
  | k, m + 1 => if f k = l then k else fl f l (k + 1) m
theorem fl_rg (f : Int → List Int) (l : List Int) (m : Nat) : ∀ k, (fl f l k m = -1 ∧ ∀ j, k ≤ j → j < k + m → f j ≠ l) ∨ (k ≤ fl f l k m ∧ fl f l k m < k + m ∧ f (fl f l k m) = l) := by
  induction m with
  | zero => intro k; exact Or.inl ⟨rfl, fun j h1 h2 => by omega⟩
  | succ m ih =>
    intro k
    unfold fl
    by_cases h : f k = l
    · rw [if_pos h]; exact Or.inr ⟨by omega, by omega, h⟩
    · rw [if_neg h]
      rcases ih (k + 1) with ⟨a, b⟩ | ⟨a, b, c⟩
      · refine Or.inl ⟨a, fun j h1 h2 => ?_⟩
        by_cases e : j = k
        · rw [e]; exact h
        · exact b j (by omega) (by omega)
      · exact Or.inr ⟨by omega, by omega, c⟩
theorem fi_fl {g : List Int → Int} (hg : ∀ l r, okW l → okW r → g l = g r → l = r) {f : Int → List Int} {l : List Int} (hl : okW l) : ∀ (m : Nat) (k : Int), (∀ j, k ≤ j → j < k + m → okW (f j)) → fi (fun j => g (f j)) (g l) k m = fl f l k m := by
  intro m
  induction m with
  | zero => intro k _; rfl
  | succ m ih =>
    intro k h
    unfold fi fl
    by_cases e : f k = l
    · rw [if_pos e, if_pos (by rw [e])]
    · rw [if_neg e, if_neg (fun z => e (hg _ _ (h k (by omega) (by omega)) hl z))]
      exact ih (k + 1) (fun j a b => h j (by omega) (by omega))
/-- a name that must be known -/
def nKn (f : Int → List Int) (n : Int) (T : mT2) (p : Nat) : (Int × Int) ⊕ Nat := match nNa T p with
  | .inl e => .inl e
  | .inr q => if fl f (ltr T p (lnT T p)) 0 n.toNat = -1 then .inl (3, (p : Int)) else .inr q
/-- names so far -/
def okN (f : Int → List Int) (n : Int) : Prop := ∀ j, 0 ≤ j → j < n → okW (f j) ∧ (f j).length ≤ 6
theorem nNa_ok {T : mT2} {p q : Nat} (h : nNa T p = .inr q) : p < T.2 ∧ lnT T p ≤ 6 ∧ q = nxT T p ∧ vlT T p = nm5 (ltr T p (lnT T p)) ∧ okW (ltr T p (lnT T p)) := by
  unfold nNa at h
  by_cases c : kdT T p = 0 ∧ (nmT T p = -1 ∨ 24 ≤ nmT T p)
  · rw [if_pos c] at h
    by_cases l : lnT T p ≤ 6
    · rw [if_pos l] at h
      cases h
      obtain ⟨a, b, -⟩ := kd_0 c.1
      have e : lnT T p = ew isL T p - p := by unfold lnT; rw [te_0 a b]
      refine ⟨a, l, rfl, ?_, ltr_w a _ (by omega)⟩
      rw [vl_0 a b, ← e, Nat.min_eq_left l]
    · rw [if_neg l] at h; cases h
  · rw [if_neg c] at h; cases h
theorem nNa_e {T : mT2} {p : Nat} {e : Int × Int} (h : nNa T p = .inl e) : e.1 = 1 := by
  unfold nNa at h
  (repeat' split at h) <;> cases h <;> rfl
theorem nm5_b {l : List Int} (h : okW l) (hl : l.length ≤ 6) : 0 ≤ nm5 l ∧ nm5 l < 1073741824 := by
  have a := nm5_nn h
  have b := nm5_lt h
  have c : (32 ^ l.length : Nat) ≤ 32 ^ 6 := Nat.pow_le_pow_right (by decide) hl
  omega
theorem nm27_b {l : List Int} (h : okW l) (hl : l.length ≤ 6) : 0 ≤ nm27 l ∧ nm27 l < 387420489 := by
  have key : ∀ (n : Nat) (l : List Int), l.length = n → okW l → 0 ≤ nm27 l ∧ nm27 l < ((27 ^ n : Nat) : Int) := by
    intro n
    induction n with
    | zero => intro l hl _; rw [List.length_eq_zero_iff.mp hl]; decide
    | succ n ih =>
      intro l hl hw
      have hne : l ≠ [] := by intro q; rw [q] at hl; cases hl
      obtain ⟨r, a, e⟩ : ∃ r a, l = r ++ [a] := ⟨l.dropLast, l.getLast hne, (List.dropLast_concat_getLast hne).symm⟩
      subst e
      have h1 := hw a (by simp)
      have h2 := ih r (by simpa using hl) (fun b hb => hw b (by simp [hb]))
      have e : (27 ^ (n + 1) : Nat) = 27 ^ n * 27 := Nat.pow_succ _ _
      rw [nm27_app, e]
      omega
  have a := key l.length l rfl h
  have c : (27 ^ l.length : Nat) ≤ 27 ^ 6 := Nat.pow_le_pow_right (by decide) hl
  omega
section
variable {G : mG} {V : mV} {r row m : Nat} {T : mT2} {p : Nat} {n : Int} {f : Int → List Int}
theorem c_findN {cap : Nat} (hr : is7 G row) (hq : qG G (row + 1) = cap) (hn : 0 ≤ n ∧ n ≤ (cap : Int)) (hw : rw' V row n (fun j => nm5 (f j))) (hf : okN f n) {v : Int} (hv : rg v) : F_X7_find G row v V = some (V, fi (fun j => nm5 (f j)) v 0 n.toNat) := by
  rw [p7_find hr (rw_rz hq hw.1 hn) (fun j j0 j1 => ?_) hv, hw.1]
  · have e := fi_cg (f := rc V row) (g := fun j => nm5 (f j)) (v := v) (m := n.toNat) (k := 0) (fun j a b => hw.2 j a (by omega))
    exact congrArg (fun v => some (V, v)) e
  · rw [hw.1] at j1
    rw [hw.2 j j0 j1]
    have := nm5_b (hf j j0 j1).1 (hf j j0 j1).2
    show rg (nm5 (f j))
    exact ⟨by omega, by omega⟩
/-- the class's -/
theorem c_known {cap : Nat} (hG : is6 G r) (hT : tOk T) (h : cA V r T p) (h0 : gI V r 11 = 0) (hr : is7 G row) (hq : qG G (row + 1) = cap) (hn : 0 ≤ n ∧ n ≤ (cap : Int)) (hc : cap ≤ 10) (hd : row ≠ r ∧ row + 1 ≠ r) (hw : rw' V row n (fun j => nm5 (f j))) (hf : okN f n) :
    ∃ V' v, F_X6_takeKnown G r row V = some (V', v) ∧ f6 r V V' ∧ rs6 V' r T (nKn f n T p) ∧ (-1 ≤ v ∧ v < n ∨ v = -1) ∧ (∀ q, nKn f n T p = .inr q → v = fl f (ltr T p (lnT T p)) 0 n.toNat ∧ 0 ≤ v) := by
  have vr := vl_rg (p := p) hT
  obtain ⟨V1, e1, k1, r1⟩ := k6_tNa hG hT h h0
  have hw1 : rw' V1 row n (fun j => nm5 (f j)) := hw.fr k1.1 (fun z => hd.1 z) (fun z => hd.2 z)
  have e2 := c_findN (V := V1) hr hq hn hw1 hf (v := vlT T p) ⟨by omega, by omega⟩
  have fr := fi_rg (fun j => nm5 (f j)) (vlT T p) n.toNat 0
  have fb : -1 ≤ fi (fun j => nm5 (f j)) (vlT T p) 0 n.toNat ∧ (fi (fun j => nm5 (f j)) (vlT T p) 0 n.toNat < n ∨ fi (fun j => nm5 (f j)) (vlT T p) 0 n.toNat = -1) := by
    rcases fr with ⟨a, -⟩ | ⟨a, b, -⟩
    · exact ⟨by omega, Or.inr a⟩
    · exact ⟨by omega, Or.inl (by omega)⟩
  have frg : rg (fi (fun j => nm5 (f j)) (vlT T p) 0 n.toNat) := by
    have := fb.2
    exact ⟨by omega, by omega⟩
  have vv : (-1 ≤ fi (fun j => nm5 (f j)) (vlT T p) 0 n.toNat ∧ fi (fun j => nm5 (f j)) (vlT T p) 0 n.toNat < n) ∨ fi (fun j => nm5 (f j)) (vlT T p) 0 n.toNat = -1 := by omega
  cases hN : nNa T p with
  | inl e =>
    rw [hN] at r1
    have kn : nKn f n T p = .inl e := by unfold nKn; rw [hN]
    obtain ⟨⟨q, b0⟩, b1, b2, b3, b4⟩ := r1
    have bb : gI V1 r 11 ≠ 0 ∧ rg (gI V1 r 11) := ⟨by rw [b1]; exact b4, by rw [b1]; exact b3⟩
    refine ⟨V1, fi (fun j => nm5 (f j)) (vlT T p) 0 n.toNat, ?_, k1, by rw [kn]; exact ⟨⟨q, b0⟩, b1, b2, b3, b4⟩, vv, fun q z => by rw [kn] at z; cases z⟩
    unfold F_X6_takeKnown
    exact E_bd (k6_here hG h) (E_bd e1 (E_bd e2 (E_gd frg (E_if (fun _ => E_bd (k6_fail1 bb.1 bb.2) rfl) (fun _ => rfl)))))
  | inr q =>
    rw [hN] at r1
    obtain ⟨n1, n2, n3, n4, n5⟩ := nNa_ok hN
    have ef : fi (fun j => nm5 (f j)) (vlT T p) 0 n.toNat = fl f (ltr T p (lnT T p)) 0 n.toNat := by
      rw [n4]
      exact fi_fl (g := nm5) (fun l r a b e => nm5_inj a b e) n5 n.toNat 0 (fun j a b => (hf j a (by omega)).1)
    rw [ef] at e2 frg vv
    by_cases c : fl f (ltr T p (lnT T p)) 0 n.toNat = -1
    · have kn : nKn f n T p = .inl (3, (p : Int)) := by unfold nKn; rw [hN]; exact if_pos c
      obtain ⟨V2, x1, x2, x3, -⟩ := k6_fail (G := G) r1.1 r1.2 (k := 3) (w := (p : Int)) ⟨by decide, by decide⟩
      refine ⟨V2, fl f (ltr T p (lnT T p)) 0 n.toNat, ?_, k1.trans x2, by rw [kn]; exact x3, vv, fun q z => by rw [kn] at z; cases z⟩
      unfold F_X6_takeKnown
      exact E_bd (k6_here hG h) (E_bd e1 (E_bd e2 (E_gd frg (E_if (fun _ => E_bd x1 rfl) (fun y => absurd c y)))))
    · have kn : nKn f n T p = .inr q := by unfold nKn; rw [hN]; exact if_neg c
      refine ⟨V1, fl f (ltr T p (lnT T p)) 0 n.toNat, ?_, k1, by rw [kn]; exact r1, vv, fun _ _ => ⟨rfl, by omega⟩⟩
      unfold F_X6_takeKnown
      exact E_bd (k6_here hG h) (E_bd e1 (E_bd e2 (E_gd frg (E_if (fun y => absurd y c) (fun _ => rfl)))))
theorem c_known1 {cap : Nat} (hG : is6 G r) (hT : tOk T) (h : cA V r T p) (h0 : gI V r 11 ≠ 0) (hg : rg (gI V r 11)) (hr : is7 G row) (hq : qG G (row + 1) = cap) (hn : 0 ≤ n ∧ n ≤ (cap : Int)) (hc : cap ≤ 10) (hw : rw' V row n (fun j => nm5 (f j))) (hf : okN f n) :
    ∃ v, F_X6_takeKnown G r row V = some (V, v) ∧ ((-1 ≤ v ∧ v < n) ∨ v = -1) := by
  have vr := vl_rg (p := p) hT
  have e2 := c_findN hr hq hn hw hf (v := vlT T p) ⟨by omega, by omega⟩
  have fr := fi_rg (fun j => nm5 (f j)) (vlT T p) n.toNat 0
  refine ⟨fi (fun j => nm5 (f j)) (vlT T p) 0 n.toNat, ?_, by omega⟩
  unfold F_X6_takeKnown
  exact E_bd (k6_here hG h) (E_bd (k6_tNa1 hG hT h h0 hg) (E_bd e2 (E_gd ⟨by omega, by omega⟩ (E_if (fun _ => E_bd (k6_fail1 h0 hg) rfl) (fun _ => rfl)))))
/-- names in the reference's cells, of a kind -/
def rNm (V : mV) (m : Nat) (k : Nat) (n : Int) (f : Int → List Int) : Prop := gA V (m + 27) k = n ∧ (∀ j : Nat, (j : Int) < n → gL V (m + 28) (10 * k + j) = nm27 (f (j : Int)))
theorem rNm.of {V' : mV} {k : Nat} (h : rNm V m k n f) (a : gA V' (m + 27) = gA V (m + 27)) (b : gL V' (m + 28) = gL V (m + 28)) : rNm V' m k n f := ⟨by rw [a]; exact h.1, fun j hj => by rw [b]; exact h.2 j hj⟩
theorem r_nmOf {k : Nat} (hk : k ≤ 1) (h : rNm V m k n f) (hn : 0 ≤ n ∧ n ≤ 10) (hf : okN f n) {v : Int} (hv : rl v) : F_X10_nameOf G m (k : Int) v V = some (V, fi (fun j => nm27 (f j)) v 0 n.toNat) := by
  have key : ∀ (w : Nat) (j : Nat) (fu : Nat), (j : Int) + w = n → w < fu → ∃ q : Nat × Int, lp (fun (s : Int) V => B_X10_nameOf_3 G m (k : Int) v s V) fu (j : Int) V = some (V, q) ∧ ((q.1 = 1 ∧ q.2 = fi (fun j => nm27 (f j)) v (j : Int) w) ∨ (q.1 = 2 ∧ fi (fun j => nm27 (f j)) v (j : Int) w = -1)) := by
    intro w
    induction w with
    | zero =>
      intro j fu hj hf
      refine ⟨(2, (j : Int)), lp_stop ?_ (by decide : (2 : Nat) ≠ 0) hf, Or.inr ⟨rfl, rfl⟩⟩
      show B_X10_nameOf_3 G m (k : Int) v (j : Int) V = _
      unfold B_X10_nameOf_3
      rw [Int.toNat_natCast, h.1]
      exact E_gd ⟨by omega, by omega, by omega⟩ (E_gd ⟨by omega, by omega⟩ (E_gd ⟨by omega, by omega⟩ (E_if (fun _ => rfl) (fun q => by omega))))
    | succ w ih =>
      intro j fu hj hfu
      obtain ⟨fu, rfl⟩ : ∃ i, fu = i + 1 := ⟨fu - 1, by omega⟩
      have hc := h.2 j (by omega)
      have hb := nm27_b (hf (j : Int) (by omega) (by omega)).1 (hf (j : Int) (by omega) (by omega)).2
      have ec : (10 * (k : Int) + (j : Int)).toNat = 10 * k + j := by omega
      have pre : ∀ r, (if nm27 (f (j : Int)) = v then (some (V, 1, (j : Int))) else (lt ((j : Int) + 1) fun y9 => some (V, 0, y9))) = r → B_X10_nameOf_3 G m (k : Int) v (j : Int) V = r := by
        intro r e
        unfold B_X10_nameOf_3
        rw [Int.toNat_natCast, h.1, ec, hc]
        exact E_gd ⟨by omega, by omega, by omega⟩ (E_gd ⟨by omega, by omega⟩ (E_gd ⟨by omega, by omega⟩ (E_if (fun q => by omega) (fun _ => E_gd ⟨by omega, by omega, by omega⟩ (E_gd ⟨by omega, by omega⟩ (E_gd hv e))))))
      unfold fi
      by_cases e : nm27 (f (j : Int)) = v
      · rw [if_pos e]
        exact ⟨(1, (j : Int)), lp_stop (pre _ (if_pos e)) Nat.one_ne_zero (by omega), Or.inl ⟨rfl, rfl⟩⟩
      · rw [if_neg e]
        obtain ⟨q, q1, q2⟩ := ih (j + 1) fu (by omega) (by omega)
        refine ⟨q, ?_, q2⟩
        rw [← q1]
        exact lp_more (pre _ (if_neg e))
  obtain ⟨q, q1, q2⟩ := key n.toNat 0 FU (by omega) (by unfold FU; omega)
  unfold F_X10_nameOf
  refine E_bd q1 ?_
  rcases q2 with ⟨a, b⟩ | ⟨a, b⟩
  · rw [if_pos a, b]; rfl
  · rw [if_neg (by omega)]
    exact E_so rfl b.symm
/-- the reference's -/
theorem r_one (hT : tOk T) (hG : is10 G m) (hw : rWd V m) {k : Nat} (hk : k ≤ 1) (hm : rNm V m k n f) (hn : 0 ≤ n ∧ n ≤ 10) (hf : okN f n) (h : rA V m T p) (h0 : gI V m 5 = 0) :
    ∃ V' v, F_X10_oneOf G m (k : Int) V = some (V', v) ∧ rLk m V V' ∧ rs10 V' m T (nKn f n T p) ∧ (0 ≤ v ∧ v ≤ 9) ∧ (∀ q, nKn f n T p = .inr q → v = fl f (ltr T p (lnT T p)) 0 n.toNat ∧ gI V' m 35 = (p : Int)) := by
  obtain ⟨V1, v1, e1, k1, r1, b1, c1⟩ := r_name (G := G) hT hG hw h h0
  have e2 := r_nmOf (G := G) hk (hm.of (by rw [k1.1]) (by rw [k1.2.2.1])) hn hf (v := v1) ⟨by omega, by omega⟩
  have fr := fi_rg (fun j => nm27 (f j)) v1 n.toNat 0
  cases hN : nNa T p with
  | inl e =>
    rw [hN] at r1
    have kn : nKn f n T p = .inl e := by unfold nKn; rw [hN]
    obtain ⟨x1, x2, x3, x4⟩ := r1
    refine ⟨V1, 0, ?_, k1, by rw [kn]; exact ⟨x1, x2, x3, x4⟩, by decide, fun q z => by rw [kn] at z; cases z⟩
    have J : F_X10_oneOf_J35 G m (k : Int) (fi (fun j => nm27 (f j)) v1 0 n.toNat) V1 = some (V1, 0) := by
      unfold F_X10_oneOf_J35
      exact E_gd (by rw [x1]; exact x3) (E_if (fun y => absurd y (by rw [x1]; exact x4)) (fun _ => rfl))
    unfold F_X10_oneOf
    exact E_bd e1 (E_bd e2 (E_gd (by rw [x1]; exact x3) (E_if (fun y => absurd y (by rw [x1]; exact x4)) (fun _ => J))))
  | inr q =>
    rw [hN] at r1
    obtain ⟨n1, n2, n3, n4, n5⟩ := nNa_ok hN
    obtain ⟨cv, c35⟩ := c1 q hN
    have ef : fi (fun j => nm27 (f j)) v1 0 n.toNat = fl f (ltr T p (lnT T p)) 0 n.toNat := by
      rw [cv]
      exact fi_fl (g := nm27) (fun l r a b e => nm27_inj a b e) n5 n.toNat 0 (fun j a b => (hf j a (by omega)).1)
    rw [ef] at e2 fr
    by_cases c : fl f (ltr T p (lnT T p)) 0 n.toNat = -1
    · have kn : nKn f n T p = .inl (3, (p : Int)) := by unfold nKn; rw [hN]; exact if_pos c
      obtain ⟨V2, x1, x2, x3⟩ := r_fail (G := G) (T := T) r1.2 (k := 3) (w := (p : Int)) ⟨by decide, by decide⟩
      refine ⟨V2, 0, ?_, k1.trans x2, by rw [kn]; exact x3, by decide, fun q z => by rw [kn] at z; cases z⟩
      have J : F_X10_oneOf_J35 G m (k : Int) (fl f (ltr T p (lnT T p)) 0 n.toNat) V2 = some (V2, 0) := by
        unfold F_X10_oneOf_J35
        exact E_gd (by rw [x3.1]; exact x3.2.2.1) (E_if (fun y => absurd y (by rw [x3.1]; exact x3.2.2.2)) (fun _ => rfl))
      unfold F_X10_oneOf
      refine E_bd e1 (E_bd e2 (E_gd (by rw [r1.2]; decide) (E_if (fun _ => E_gd (by rw [c]; decide) (E_if (fun _ => ?_) (fun y => absurd c y))) (fun y => absurd r1.2 y))))
      rw [c35]
      exact E_bd x1 J
    · have kn : nKn f n T p = .inr q := by unfold nKn; rw [hN]; exact if_neg c
      have fb : 0 ≤ fl f (ltr T p (lnT T p)) 0 n.toNat ∧ fl f (ltr T p (lnT T p)) 0 n.toNat ≤ 9 := by
        rcases fl_rg f (ltr T p (lnT T p)) n.toNat 0 with ⟨y, -⟩ | ⟨y1, y2, -⟩
        · exact absurd y c
        · omega
      refine ⟨V1, fl f (ltr T p (lnT T p)) 0 n.toNat, ?_, k1, by rw [kn]; exact r1, fb, fun _ _ => ⟨rfl, c35⟩⟩
      have J : F_X10_oneOf_J35 G m (k : Int) (fl f (ltr T p (lnT T p)) 0 n.toNat) V1 = some (V1, fl f (ltr T p (lnT T p)) 0 n.toNat) := by
        unfold F_X10_oneOf_J35
        exact E_gd (by rw [r1.2]; decide) (E_if (fun _ => rfl) (fun y => absurd r1.2 y))
      unfold F_X10_oneOf
      exact E_bd e1 (E_bd e2 (E_gd (by rw [r1.2]; decide) (E_if (fun _ => E_gd ⟨by omega, by omega⟩ (E_if (fun y => absurd y c) (fun _ => J))) (fun y => absurd r1.2 y))))
theorem r_one1 {k : Nat} (hk : k ≤ 1) (hm : rNm V m k n f) (hn : 0 ≤ n ∧ n ≤ 10) (hf : okN f n) (h0 : gI V m 5 ≠ 0) (hr : rg (gI V m 5)) : F_X10_oneOf G m (k : Int) V = some (V, 0) := by
  have e2 := r_nmOf (G := G) hk hm hn hf (v := 0) ⟨by decide, by decide⟩
  unfold F_X10_oneOf
  refine E_bd (r_name1 h0 hr) (E_bd e2 (E_gd hr (E_if (fun y => absurd y h0) (fun _ => ?_))))
  unfold F_X10_oneOf_J35
  exact E_gd hr (E_if (fun y => absurd y h0) (fun _ => rfl))
end

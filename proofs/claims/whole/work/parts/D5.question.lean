/-! a question read: what it is; hours asked -/
/-- a fault, or its kind and its codes -/
def aQu (T : mT2) : (Int × Int) ⊕ (Int × List Int) :=
  if 24 ≤ nmT T (bsk T 0) ∧ nmT T (bsk T 0) ≤ 29 then
    (match rd (kT 3 T) 64 (if nmT T (bsk T 0) ≤ 26 then 0 else 3) 0 (nxT T (bsk T 0)) with
    | .inl e => .inl e
    | .inr y => if kdT T y.2 = 3 then .inr (nmT T (bsk T 0) - 24, y.1) else .inl (1, (y.2 : Int)))
  else .inl (1, ((bsk T 0 : Nat) : Int))
def okQu (T : mT2) (y : (Int × Int) ⊕ (Int × List Int)) : Prop := match y with
  | .inl e => (0 ≤ e.1 ∧ e.1 ≤ 9) ∧ 0 ≤ e.2 ∧ e.2 ≤ (T.2 : Int) + 6
  | .inr y => (0 ≤ y.1 ∧ y.1 ≤ 5) ∧ okc (decide (y.1 ≤ 2)) 40 y.2 ∧ pkS (alS 3) (3 = 3) y.2 ∧ y.2.length ≤ 1600
theorem aQu_ok {T : mT2} (hT : tOk T) : okQu T (aQu T) := by
  have hb := (bsk_spec (T := T) (p := 0) (Nat.zero_le _)).2.1
  unfold aQu
  by_cases c : 24 ≤ nmT T (bsk T 0) ∧ nmT T (bsk T 0) ≤ 29
  · rw [if_pos c]
    have hn := nx_le1 hb
    obtain ⟨w, hw⟩ : ∃ w : Nat, w = (if nmT T (bsk T 0) ≤ 26 then 0 else 3) := ⟨_, rfl⟩
    rw [← hw]
    have w5 : w ≤ 5 := by rw [hw]; split <;> decide
    have k := eB_rd (K := kT 3 T) okK_T 64 w 0 (nxT T (bsk T 0)) hn
    cases e : rd (kT 3 T) 64 w 0 (nxT T (bsk T 0)) with
    | inl e0 => rw [e] at k; exact k
    | inr y =>
      obtain ⟨c1, q1⟩ := y
      rw [e] at k
      have k' : q1 ≤ T.2 := k
      have r := rd_ok (okK3_T (md := 3)) 64 w 0 _ c1 q1 (by decide) w5 e
      have pr := pr64 hT hn e
      show okQu T (if kdT T q1 = 3 then .inr (nmT T (bsk T 0) - 24, c1) else .inl (1, (q1 : Int)))
      by_cases z : kdT T q1 = 3
      · rw [if_pos z]
        have e1 : decide (w ≤ 2) = decide (nmT T (bsk T 0) - 24 ≤ 2) := by
          by_cases q : nmT T (bsk T 0) ≤ 26
          · have w0 : w = 0 := by rw [hw, if_pos q]
            rw [w0]
            exact (decide_eq_true (show nmT T (bsk T 0) - 24 ≤ 2 by omega)).symm
          · have w0 : w = 3 := by rw [hw, if_neg q]
            rw [w0]
            exact (decide_eq_false (show ¬ nmT T (bsk T 0) - 24 ≤ 2 by omega)).symm
        have r1 := r.1
        rw [e1] at r1
        refine ⟨⟨by show 0 ≤ nmT T (bsk T 0) - 24; omega, by show nmT T (bsk T 0) - 24 ≤ 5; omega⟩, okc_up r1 (by unfold hgt; omega), r.2, ?_⟩
        show c1.length ≤ 1600
        have := hT.1
        omega
      · rw [if_neg z]
        exact ⟨⟨(show (0 : Int) ≤ 1 by decide), (show (1 : Int) ≤ 9 by decide)⟩, by show (0 : Int) ≤ (q1 : Int); omega, by show ((q1 : Nat) : Int) ≤ _; omega⟩
  · rw [if_neg c]
    exact ⟨⟨(show (0 : Int) ≤ 1 by decide), (show (1 : Int) ≤ 9 by decide)⟩, by show (0 : Int) ≤ ((bsk T 0 : Nat) : Int); omega, by show ((bsk T 0 : Nat) : Int) ≤ _; omega⟩
/-- codes told: what they ask alone matters -/
theorem evs_cq {fa fb kn : Int → Int} {S : List Int} {b5 : Prop} (h : ∀ k ∈ S, fa k = fb k) : ∀ {cs s : List Int}, pkS S b5 cs → evs fa kn cs s = evs fb kn cs s
  | [], s, _ => rfl
  | v :: cs, s, p => by
    have p0 := p v List.mem_cons_self
    have e : est fa kn v s = est fb kn v s := by
      by_cases z : v = 60
      · subst z
        unfold est
        rw [if_neg (by decide), if_pos rfl, if_neg (by decide), if_pos rfl]
      · refine est_cg z (fun a b => h _ ?_)
        rcases p0.2 with q | ⟨-, -, q⟩ | ⟨q, -⟩ | q
        · omega
        · exact q
        · exact absurd q z
        · omega
    unfold evs
    rw [e]
    cases est fb kn v s with
    | none => rfl
    | some s' => exact evs_cq h (fun w hw => p w (List.mem_cons_of_mem _ hw))
-- ---- what is told of an hour
def qF (M : mMo) (d : Int → Int) (p : Int) : Int → Int := fun k => if k = 0 then mh M % 24 else if k = 1 then mh M / 24 else if k = 7 then mh M else if k = 8 then (if ml M p = -1 then 99 else ml M p) else if k = 9 then d p else 0
def qK (C : mCy) (M : mMo) (p : Int) : Int → Int := fun a => if 0 ≤ a ∧ a < cn C then mp M p a else 0
def qV (C : mCy) (y : mMo × (Int → Int)) (p : Int) (cs : List Int) : Int := tell (qF y.1 y.2 p) (qK C y.1 p) cs
theorem okF_q {C : mCy} {M : mMo} {d : Int → Int} {p : Int} (ho : okC C) (hM : okM (cn C) M) (hp : 0 ≤ p ∧ p < cn C) (hd : 0 ≤ d p ∧ d p ≤ 1000) : okF (qF M d p) (qK C M p) := by
  have hn := ho.1
  have h0 := hM.1
  have h1 := hM.2.1 p hp.1 hp.2
  refine ⟨fun k => ?_, fun a => ?_⟩
  · unfold qF
    split
    · omega
    · split
      · omega
      · split
        · omega
        · split
          · split <;> omega
          · split <;> omega
  · unfold qK
    split
    · next q =>
      have := hM.2.2.2.2.1 p a hp.1 hp.2 q.1 q.2
      omega
    · omega
theorem qV_ok {C : mCy} {M : mMo} {d : Int → Int} {p : Int} {b : Bool} {cs : List Int} (ho : okC C) (hM : okM (cn C) M) (hp : 0 ≤ p ∧ p < cn C) (hd : 0 ≤ d p ∧ d p ≤ 1000) (hc : okc b 40 cs) : evs (qF M d p) (qK C M p) cs [] = some [qV C (M, d) p cs] ∧ (-1000000 ≤ qV C (M, d) p cs ∧ qV C (M, d) p cs ≤ 1000000) ∧ (b = true → qV C (M, d) p cs = 0 ∨ qV C (M, d) p cs = 1) := by
  obtain ⟨x, e, bd, b01⟩ := hc _ _ (okF_q ho hM hp hd) [] (by decide)
  have t : qV C (M, d) p cs = x := by
    show tell (qF M d p) (qK C M p) cs = x
    unfold tell
    rw [e]
  rw [t]
  exact ⟨e, bd, b01⟩
-- ---- hours on: a moment, who dried in its hour
noncomputable def askN (C : mCy) (y : mMo × (Int → Int)) : mMo × (Int → Int) := ((hourS C (s0 y.1)).1, (hourS C (s0 y.1)).2.2.2)
noncomputable def askY (C : mCy) (y : mMo × (Int → Int)) : Nat → mMo × (Int → Int)
  | 0 => y
  | k + 1 => askN C (askY C y k)
/-- hours, first, last, how often, sum, most, least -/
abbrev mTl : Type := Int × Int × Int × Int × Int × Int × Int
def tl0 : mTl := (0, -1, -1, 0, 0, 0, 0)
def tlS (t : mTl) (h v : Int) : mTl := (t.1 + 1, if v ≠ 0 ∧ t.2.1 = -1 then h else t.2.1, if v ≠ 0 then h else t.2.2.1, if v ≠ 0 then t.2.2.2.1 + 1 else t.2.2.2.1, t.2.2.2.2.1 + v, if t.1 = 0 then v else max t.2.2.2.2.2.1 v, if t.1 = 0 then v else min t.2.2.2.2.2.2 v)
def tlA (t : mTl) (k : Int) : Int := if k = 0 then t.2.1 else if k = 1 then t.2.2.1 else if k = 2 then t.2.2.2.1 else if k = 3 then t.2.2.2.2.1 else if k = 4 then t.2.2.2.2.2.1 else t.2.2.2.2.2.2
noncomputable def askT (C : mCy) (M : mMo) (p : Int) (cs : List Int) : Nat → mTl
  | 0 => tl0
  | k + 1 => tlS (askT C M p cs k) (mh M + (k : Int)) (qV C (askY C (M, fun _ => 0) k) p cs)
def askK (M : mMo) : Nat := min 48 (10000 - mh M).toNat
/-- the answer; what stands behind it -/
noncomputable def aAsk (Y : mY) (p : Int) : Int := if 0 ≤ p ∧ p < cn (yZ Y).1 then (match aQu (yT Y) with
  | .inl _ => -1000000000000000
  | .inr y => tlA (askT (yZ Y).1 (yZ Y).2.1 p y.2 (askK (yZ Y).2.1)) y.1) else -1000000000000000
def yAsk (Y : mY) (p : Int) : mY := (yZ Y, ((yT Y).1, 0), (if 0 ≤ p ∧ p < cn (yZ Y).1 then (match aQu (yT Y) with
  | .inl e => e
  | .inr _ => (0, -1)) else yF Y), yI Y, yS Y, yE Y)
def tlB (k : Nat) (t : mTl) : Prop := t.1 = (k : Int) ∧ (-1 ≤ t.2.1 ∧ t.2.1 ≤ 9999) ∧ (-1 ≤ t.2.2.1 ∧ t.2.2.1 ≤ 9999) ∧ (0 ≤ t.2.2.2.1 ∧ t.2.2.2.1 ≤ (k : Int)) ∧ (-1000000 * (k : Int) ≤ t.2.2.2.2.1 ∧ t.2.2.2.2.1 ≤ 1000000 * (k : Int)) ∧ (-1000000 ≤ t.2.2.2.2.2.1 ∧ t.2.2.2.2.2.1 ≤ 1000000) ∧ (-1000000 ≤ t.2.2.2.2.2.2 ∧ t.2.2.2.2.2.2 ≤ 1000000)
theorem tlB_0 : tlB 0 tl0 := ⟨rfl, ⟨by decide, by decide⟩, ⟨by decide, by decide⟩, ⟨by decide, by decide⟩, ⟨by decide, by decide⟩, ⟨by decide, by decide⟩, by decide, by decide⟩
theorem tlB_s {k : Nat} {t : mTl} {h v : Int} (b : tlB k t) (hh : 0 ≤ h ∧ h ≤ 9999) (hv : -1000000 ≤ v ∧ v ≤ 1000000) : tlB (k + 1) (tlS t h v) := by
  obtain ⟨a, b1, c, d, e, f, g⟩ := b
  refine ⟨?_, ⟨?_, ?_⟩, ⟨?_, ?_⟩, ⟨?_, ?_⟩, ⟨?_, ?_⟩, ⟨?_, ?_⟩, ?_, ?_⟩ <;> simp only [tlS] <;> (try split) <;> omega
-- ---- who dried
def eqD (S S' : mSt) : Prop := S.1 = S'.1 ∧ S.2.2.2 = S'.2.2.2
theorem eqD_fail {S S' : mSt} {w l p : Int} (h : eqD S S') : eqD (failX S w l p) (failX S' w l p) := by
  obtain ⟨M, a, b, d⟩ := S
  obtain ⟨M', a', b', d'⟩ := S'
  obtain ⟨h1, h2⟩ := h
  obtain rfl : M = M' := h1
  obtain rfl : d = d' := h2
  exact ⟨rfl, rfl⟩
theorem eqD_dry {S S' : mSt} {p : Int} (h : eqD S S') : eqD (dry S p) (dry S' p) := by
  obtain ⟨M, a, b, d⟩ := S
  obtain ⟨M', a', b', d'⟩ := S'
  obtain ⟨h1, h2⟩ := h
  obtain rfl : M = M' := h1
  obtain rfl : d = d' := h2
  exact ⟨rfl, rfl⟩
theorem eqD_duty {C : mCy} {clock day l task : Int} {S S' : mSt} (h : eqD S S') : eqD (dutyS C clock day S l task) (dutyS C clock day S' l task) := by
  have h1 := h.1
  unfold dutyS
  simp only
  rw [← h1]
  by_cases a : fi (ml S.1) l 0 (cn C).toNat = -1
  · rw [if_pos a, if_pos a]; exact eqD_fail h
  · rw [if_neg a, if_neg a]
    by_cases b : fi (ml S.1) l 0 (cn C).toNat = l
    · simp only [if_pos b]
      by_cases c : able C (mp S.1 (fi (ml S.1) l 0 (cn C).toNat) l) 1 task clock day = 0
      · rw [if_pos c, if_pos c]; exact eqD_fail (eqD_dry h)
      · rw [if_neg c, if_neg c]; exact h
    · simp only [if_neg b]
      by_cases c : able C (mp S.1 (fi (ml S.1) l 0 (cn C).toNat) l) 0 task clock day = 0
      · rw [if_pos c, if_pos c]; exact eqD_fail (eqD_dry h)
      · rw [if_neg c, if_neg c]; exact ⟨rfl, h.2⟩
theorem eqD_stD {C : mCy} {clock day : Int} {d : Int × Int × Int} {S S' : mSt} (h : eqD S S') : eqD (stD C clock day S d) (stD C clock day S' d) := by
  unfold stD
  split
  · exact eqD_duty h
  · exact h
theorem eqD_fold {C : mCy} {clock day : Int} : ∀ (D : List (Int × Int × Int)) {S S' : mSt}, eqD S S' → eqD (D.foldl (stD C clock day) S) (D.foldl (stD C clock day) S')
  | [], _, _, h => h
  | _ :: D, _, _, h => eqD_fold D (eqD_stD h)
theorem eqD_hour {C : mCy} {S S' : mSt} (h : eqD S S') : eqD (hourS C S) (hourS C S') := by
  obtain ⟨M, t⟩ := S
  obtain ⟨M', t'⟩ := S'
  obtain ⟨h1, h3⟩ := h
  obtain rfl : M = M' := h1
  have k := eqD_fold (C := C) (clock := (mh M + 1) % 24) (day := (mh M + 1) / 24) (srt (cn C).toNat (cd C)) (S := (if (mh M + 1) % 24 = 0 then nightM C ((mh M + 1, ml M, mw M, mp M, me M) : mMo) ((mh M + 1) / 24) else (mh M + 1, ml M, mw M, mp M, me M), t)) (S' := (if (mh M + 1) % 24 = 0 then nightM C ((mh M + 1, ml M, mw M, mp M, me M) : mMo) ((mh M + 1) / 24) else (mh M + 1, ml M, mw M, mp M, me M), t')) ⟨rfl, h3⟩
  exact ⟨congrArg (itr (watM C ((mh M + 1) % 24) ((mh M + 1) / 24)) 0 (cn C).toNat) k.1, k.2⟩
/-- how often somebody dries in an hour -/
def dB (k : Int) (S : mSt) : Prop := ∀ p, 0 ≤ S.2.2.2 p ∧ S.2.2.2 p ≤ k
theorem dB_dry {k : Int} {S : mSt} {w : Int} (h : dB k S) : dB (k + 1) (dry S w) := by
  intro p
  have h1 := h p
  have h2 := h w
  show 0 ≤ uf S.2.2.2 w (S.2.2.2 w + 1) p ∧ uf S.2.2.2 w (S.2.2.2 w + 1) p ≤ k + 1
  unfold uf
  split <;> omega
theorem dB_up {k : Int} {S : mSt} (h : dB k S) : dB (k + 1) S := fun p => by have := h p; omega
theorem dB_duty {C : mCy} {clock day l task : Int} {k : Int} {S : mSt} (h : dB k S) : dB (k + 1) (dutyS C clock day S l task) := by
  unfold dutyS
  simp only
  by_cases a : fi (ml S.1) l 0 (cn C).toNat = -1
  · rw [if_pos a]; exact fun p => dB_up h p
  · rw [if_neg a]
    by_cases b : able C (mp S.1 (fi (ml S.1) l 0 (cn C).toNat) l) (if fi (ml S.1) l 0 (cn C).toNat = l then 1 else 0) task clock day = 0
    · rw [if_pos b]
      exact fun p => dB_dry (w := fi (ml S.1) l 0 (cn C).toNat) h p
    · rw [if_neg b]
      by_cases c : fi (ml S.1) l 0 (cn C).toNat = l
      · rw [if_pos c]; exact dB_up h
      · rw [if_neg c]; exact fun p => dB_up h p
theorem dB_stD {C : mCy} {clock day : Int} {d : Int × Int × Int} {k : Int} {S : mSt} (h : dB k S) : dB (k + 1) (stD C clock day S d) := by
  unfold stD
  split
  · exact dB_duty h
  · exact dB_up h
theorem dB_fold {C : mCy} {clock day : Int} : ∀ (D : List (Int × Int × Int)) {k : Int} {S : mSt}, dB k S → dB (k + D.length) (D.foldl (stD C clock day) S)
  | [], k, S, h => by
    show dB (k + ((0 : Nat) : Int)) S
    rw [show k + ((0 : Nat) : Int) = k by omega]; exact h
  | d :: D, k, S, h => by
    have := dB_fold (C := C) (clock := clock) (day := day) D (dB_stD (C := C) (clock := clock) (day := day) (d := d) h)
    rw [List.length_cons, show k + ((D.length + 1 : Nat) : Int) = k + 1 + (D.length : Int) by omega]
    exact this
theorem dB_hour {C : mCy} {M : mMo} (ho : okC C) (p : Int) : 0 ≤ (hourS C (s0 M)).2.2.2 p ∧ (hourS C (s0 M)).2.2.2 p ≤ 24 := by
  have hl := Nat.le_trans (srt_len (cn C).toNat (cd C)) ho.2.2.1.1
  have k := dB_fold (C := C) (clock := (mh M + 1) % 24) (day := (mh M + 1) / 24) (srt (cn C).toNat (cd C)) (k := 0) (S := (if (mh M + 1) % 24 = 0 then nightM C ((mh M + 1, ml M, mw M, mp M, me M) : mMo) ((mh M + 1) / 24) else (mh M + 1, ml M, mw M, mp M, me M), (s0 M).2)) (fun _ => ⟨Int.le_refl _, Int.le_refl _⟩)
  have k' := k p
  exact ⟨k'.1, by have := k'.2; exact Int.le_trans this (by omega)⟩
section
variable {C : mCy} {M : mMo}
theorem askY_ok (ho : okC C) (hM : okM (cn C) M) : ∀ k : Nat, mh M + (k : Int) ≤ 9999 → (okM (cn C) (askY C (M, fun _ => 0) k).1 ∧ mh (askY C (M, fun _ => 0) k).1 = mh M + (k : Int)) ∧ ∀ p, 0 ≤ (askY C (M, fun _ => 0) k).2 p ∧ (askY C (M, fun _ => 0) k).2 p ≤ 24
  | 0, _ => ⟨⟨hM, by show mh M = mh M + ((0 : Nat) : Int); omega⟩, fun p => ⟨by show (0 : Int) ≤ 0; decide, by show (0 : Int) ≤ 24; decide⟩⟩
  | k + 1, h => by
    obtain ⟨⟨a, b⟩, -⟩ := askY_ok ho hM k (by omega)
    refine ⟨⟨?_, ?_⟩, fun p => dB_hour ho p⟩
    · exact okM_hour (S := s0 (askY C (M, fun _ => 0) k).1) ho a (by show mh (askY C (M, fun _ => 0) k).1 ≤ 9998; omega)
    · have := mh_hour (C := C) (S := s0 (askY C (M, fun _ => 0) k).1)
      have e : mh (s0 (askY C (M, fun _ => 0) k).1).1 = mh (askY C (M, fun _ => 0) k).1 := rfl
      show mh (hourS C (s0 (askY C (M, fun _ => 0) k).1)).1 = _
      rw [this, e, b]; omega
theorem askT_ok (ho : okC C) (hM : okM (cn C) M) {p : Int} (hp : 0 ≤ p ∧ p < cn C) {b : Bool} {cs : List Int} (hc : okc b 40 cs) : ∀ k : Nat, mh M + (k : Int) ≤ 10000 → tlB k (askT C M p cs k)
  | 0, _ => tlB_0
  | k + 1, h => by
    have h0 := hM.1
    obtain ⟨⟨a, -⟩, d⟩ := askY_ok ho hM k (by omega)
    have dp := d p
    have v := qV_ok (d := (askY C (M, fun _ => 0) k).2) ho a hp ⟨dp.1, by omega⟩ hc
    exact tlB_s (askT_ok ho hM hp hc k (by omega)) ⟨by omega, by omega⟩ v.2.1
end

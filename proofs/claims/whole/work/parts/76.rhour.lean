/-! the reference: an hour comes -/
def rM (g : Nat → Int) (n : Int) (M : mMo) : Prop := g 0 = mh M ∧ (∀ p, 0 ≤ p → p < n → g (1 + 12 * p).toNat = ml M p ∧ g (2 + 12 * p).toNat = mw M p) ∧ (∀ p l, 0 ≤ p → p < n → 0 ≤ l → l < n → g (3 + 12 * p + l).toNat = mp M p l) ∧ g 121 = ((me M).length : Int) ∧ ∀ i : Nat, i < (me M).length → g (122 + 4 * i) = ((me M).getD i e0).1 ∧ g (123 + 4 * i) = ((me M).getD i e0).2.1 ∧ g (124 + 4 * i) = ((me M).getD i e0).2.2.1 ∧ g (125 + 4 * i) = ((me M).getD i e0).2.2.2
def rS (V : mV) (m : Nat) (S : mSt) : Prop := gA V (m + 39) 0 = S.2.1.1 ∧ gA V (m + 39) 1 = S.2.1.2 ∧ (∀ p, 0 ≤ p → p < 10 → gA V (m + 40) p.toNat = S.2.2.2 p) ∧ gI V m 61 = S.2.2.1.2.1 ∧ (S.2.2.1.2.1 = -1 ∨ S.2.2.1.2.1 = 0 ∨ S.2.2.1.2.1 = 1) ∧ (S.2.2.1.2.1 ≠ -1 → gI V m 62 = S.2.2.1.2.2)
def rH (m : Nat) (V V' : mV) : Prop := (∀ i, i ≠ m + 37 → i ≠ m + 39 → i ≠ m + 40 → i ≠ m + 41 → gA V' i = gA V i) ∧ (∀ i k, (i ≠ m ∨ (k ≠ 104 ∧ k ≠ 61 ∧ k ≠ 62 ∧ k ≠ 64 ∧ k ≠ 65)) → gI V' i k = gI V i k) ∧ (∀ i k, (i ≠ m ∨ k < 51 ∨ 57 < k) → gJ V' i k = gJ V i k) ∧ (∀ i, i ≠ m + 70 → gL V' i = gL V i)
theorem rH_refl {m : Nat} {V : mV} : rH m V V := ⟨fun _ _ _ _ _ => rfl, fun _ _ _ => rfl, fun _ _ _ => rfl, fun _ _ => rfl⟩
theorem rH.trans {m : Nat} {V V1 V2 : mV} (h : rH m V V1) (k : rH m V1 V2) : rH m V V2 :=
  ⟨fun i a b c d => (k.1 i a b c d).trans (h.1 i a b c d), fun i j q => (k.2.1 i j q).trans (h.2.1 i j q), fun i j q => (k.2.2.1 i j q).trans (h.2.2.1 i j q), fun i q => (k.2.2.2 i q).trans (h.2.2.2 i q)⟩
theorem rT.H {m : Nat} {V V' : mV} (h : rT m V V') : rH m V V' := ⟨fun i _ _ _ _ => by rw [h.1], fun i k q => h.2.1 i k (by omega), h.2.2.1, h.2.2.2⟩
theorem rH.cs {m : Nat} {V V' : mV} (h : rH m V V') : rCs m V V' := ⟨fun i _ _ => h.1 i (by omega) (by omega) (by omega) (by omega), h.2.2.2 _ (by omega)⟩
theorem rH_sF {m a : Nat} {V : mV} {g : Nat → Int} (ha : a = m + 37 ∨ a = m + 39 ∨ a = m + 40 ∨ a = m + 41) : rH m V (sF V a g) :=
  ⟨fun i h1 h2 h3 h4 => by funext b; rw [gA_sF, if_neg (by omega)], fun _ _ _ => rfl, fun _ _ _ => rfl, fun _ _ => rfl⟩
theorem rH_sA {m a k : Nat} {V : mV} {x : Int} (ha : a = m + 37 ∨ a = m + 39 ∨ a = m + 40 ∨ a = m + 41) : rH m V (sA V a k x) := by rw [sA_sF]; exact rH_sF ha
theorem rH_sI {m k : Nat} {V : mV} {x : Int} (hk : k = 104 ∨ k = 61 ∨ k = 62 ∨ k = 64 ∨ k = 65) : rH m V (sI V m k x) :=
  ⟨fun _ _ _ _ _ => rfl, fun i j q => by rw [gI_sI, if_neg (by omega)], fun _ _ _ => rfl, fun _ _ => rfl⟩
theorem gA_sFe {V : mV} {i : Nat} {g : Nat → Int} : gA (sF V i g) i = g := by funext b; rw [gA_sF, if_pos rfl]
theorem gA_sAe {V : mV} {i k : Nat} {x : Int} : gA (sA V i k x) i = uN (gA V i) k x := by
  funext b; rw [gA_sA]; unfold uN
  by_cases h : b = k
  · rw [if_pos ⟨rfl, h⟩, if_pos h]
  · rw [if_neg (fun q => h q.2), if_neg h]
theorem gA_sAo {V : mV} {i j k : Nat} {x : Int} (h : j ≠ i) : gA (sA V i k x) j = gA V j := by funext b; rw [gA_sA, if_neg (fun q => h q.1)]
theorem gA_sFo {V : mV} {i j : Nat} {g : Nat → Int} (h : j ≠ i) : gA (sF V i g) j = gA V j := by funext b; rw [gA_sF, if_neg h]
theorem rS.T {m : Nat} {V V' : mV} {S : mSt} (h : rS V m S) (k : rT m V V') : rS V' m S := by
  unfold rS; rw [k.1, k.2.1 m 61 (by omega), k.2.1 m 62 (by omega)]; exact h
theorem rS.now {m : Nat} {V : mV} {S : mSt} {g : Nat → Int} (h : rS V m S) : rS (sF V (m + 37) g) m S := by
  unfold rS; rw [gA_sFo (by omega), gA_sFo (by omega)]; exact h
theorem rS.nowA {m k : Nat} {V : mV} {S : mSt} {x : Int} (h : rS V m S) : rS (sA V (m + 37) k x) m S := by rw [sA_sF]; exact h.now
theorem rS.mom {m : Nat} {V : mV} {S : mSt} (h : rS V m S) (M : mMo) : rS V m (M, S.2) := h
theorem rM_setP {g : Nat → Int} {n p l v : Int} {M : mMo} (h : rM g n M) (hn : n ≤ 10) (hp : 0 ≤ p ∧ p < n) (hl : 0 ≤ l ∧ l < n) : rM (uN g (3 + 12 * p + l).toNat v) n (mh M, ml M, mw M, ug (mp M) p l v, me M) := by
  obtain ⟨a, b, c, d, e⟩ := h
  refine ⟨?_, fun q q1 q2 => ⟨?_, ?_⟩, fun q r q1 q2 r1 r2 => ?_, ?_, fun i hi => ⟨?_, ?_, ?_, ?_⟩⟩
  · show uN g _ v 0 = _; unfold uN; rw [if_neg (by omega)]; exact a
  · unfold uN; rw [if_neg (by omega)]; exact (b q q1 q2).1
  · unfold uN; rw [if_neg (by omega)]; exact (b q q1 q2).2
  · show uN g _ v _ = ug (mp M) p l v q r
    unfold uN ug
    by_cases e1 : q = p ∧ r = l
    · rw [if_pos (by rw [e1.1, e1.2]), if_pos e1]
    · rw [if_neg (by omega), if_neg e1]; exact c q r q1 q2 r1 r2
  · unfold uN; rw [if_neg (by omega)]; exact d
  · unfold uN; rw [if_neg (by omega)]; exact (e i hi).1
  · unfold uN; rw [if_neg (by omega)]; exact (e i hi).2.1
  · unfold uN; rw [if_neg (by omega)]; exact (e i hi).2.2.1
  · unfold uN; rw [if_neg (by omega)]; exact (e i hi).2.2.2
theorem rM_setL {g : Nat → Int} {n p v : Int} {M : mMo} (h : rM g n M) (hn : n ≤ 10) (hp : 0 ≤ p ∧ p < n) : rM (uN g (1 + 12 * p).toNat v) n (mh M, uf (ml M) p v, mw M, mp M, me M) := by
  obtain ⟨a, b, c, d, e⟩ := h
  refine ⟨?_, fun q q1 q2 => ⟨?_, ?_⟩, fun q r q1 q2 r1 r2 => ?_, ?_, fun i hi => ⟨?_, ?_, ?_, ?_⟩⟩
  · show uN g _ v 0 = _; unfold uN; rw [if_neg (by omega)]; exact a
  · show uN g _ v _ = uf (ml M) p v q
    unfold uN uf
    by_cases e1 : q = p
    · rw [if_pos (by rw [e1]), if_pos e1]
    · rw [if_neg (by omega), if_neg e1]; exact (b q q1 q2).1
  · unfold uN; rw [if_neg (by omega)]; exact (b q q1 q2).2
  · unfold uN; rw [if_neg (by omega)]; exact c q r q1 q2 r1 r2
  · unfold uN; rw [if_neg (by omega)]; exact d
  · unfold uN; rw [if_neg (by omega)]; exact (e i hi).1
  · unfold uN; rw [if_neg (by omega)]; exact (e i hi).2.1
  · unfold uN; rw [if_neg (by omega)]; exact (e i hi).2.2.1
  · unfold uN; rw [if_neg (by omega)]; exact (e i hi).2.2.2
theorem rM_hour {g : Nat → Int} {n v : Int} {M : mMo} (h : rM g n M) : rM (uN g 0 v) n (v, ml M, mw M, mp M, me M) := by
  obtain ⟨a, b, c, d, e⟩ := h
  refine ⟨?_, fun q q1 q2 => ⟨?_, ?_⟩, fun q r q1 q2 r1 r2 => ?_, ?_, fun i hi => ⟨?_, ?_, ?_, ?_⟩⟩
  · show uN g 0 v 0 = v; unfold uN; rw [if_pos rfl]
  · unfold uN; rw [if_neg (by omega)]; exact (b q q1 q2).1
  · unfold uN; rw [if_neg (by omega)]; exact (b q q1 q2).2
  · unfold uN; rw [if_neg (by omega)]; exact c q r q1 q2 r1 r2
  · unfold uN; rw [if_neg (by omega)]; exact d
  · unfold uN; rw [if_neg (by omega)]; exact (e i hi).1
  · unfold uN; rw [if_neg (by omega)]; exact (e i hi).2.1
  · unfold uN; rw [if_neg (by omega)]; exact (e i hi).2.2.1
  · unfold uN; rw [if_neg (by omega)]; exact (e i hi).2.2.2
theorem rM_cg {g : Nat → Int} {n h : Int} {l l' w : Int → Int} {f f' : Int → Int → Int} {k : List (Int × Int × Int × Int)} (q : rM g n (h, l, w, f, k)) (e1 : ∀ p, 0 ≤ p → p < n → l' p = l p) (e : ∀ a b, 0 ≤ a → a < n → 0 ≤ b → b < n → f' a b = f a b) : rM g n (h, l', w, f', k) :=
  ⟨q.1, fun p a b => ⟨by rw [(q.2.1 p a b).1]; exact (e1 p a b).symm, (q.2.1 p a b).2⟩, fun p r a b c d => by rw [q.2.2.1 p r a b c d]; exact (e p r a b c d).symm, q.2.2.2⟩
section
variable {G : mG} {V : mV} {m : Nat} {C : mCy} {M : mMo} {S : mSt} {n : Int}
theorem r_pts (hM : rM (gA V (m + 37)) n M) (hn : n ≤ 10) {p l : Int} (hp : 0 ≤ p ∧ p < n) (hl : 0 ≤ l ∧ l < n) : F_X10_pointsOf G m p l V = some (V, mp M p l) := by
  unfold F_X10_pointsOf
  exact E_gd ⟨by omega, by omega, by omega⟩ (E_so rfl (hM.2.2.1 p l hp.1 hp.2 hl.1 hl.2))
theorem r_lives (hM : rM (gA V (m + 37)) n M) (hn : n ≤ 10) {p : Int} (hp : 0 ≤ p ∧ p < n) : F_X10_livesNow G m p V = some (V, ml M p) := by
  unfold F_X10_livesNow
  exact E_gd ⟨by omega, by omega, by omega⟩ (E_so rfl (hM.2.1 p hp.1 hp.2).1)
theorem r_wat (hM : rM (gA V (m + 37)) n M) (hn : n ≤ 10) {p : Int} (hp : 0 ≤ p ∧ p < n) : F_X10_watches G m p V = some (V, mw M p) := by
  unfold F_X10_watches
  exact E_gd ⟨by omega, by omega, by omega⟩ (E_so rfl (hM.2.1 p hp.1 hp.2).2)
theorem r_many (hv : rC V m C) : F_X10_peopleMany G m V = some (V, cn C) := by unfold F_X10_peopleMany; rw [hv.1.1]
theorem r_dmany (hv : rC V m C) : F_X10_dutyMany G m V = some (V, ((cd C).length : Int)) := by unfold F_X10_dutyMany; rw [hv.1.2.2]
theorem r_duty (ho : okC C) (hv : rC V m C) {k : Nat} (hk : k < (cd C).length) : F_X10_dutyOf G m (k : Int) 0 V = some (V, ((cd C).getD k d0).1) ∧ F_X10_dutyOf G m (k : Int) 1 V = some (V, ((cd C).getD k d0).2.1) ∧ F_X10_dutyOf G m (k : Int) 2 V = some (V, ((cd C).getD k d0).2.2) := by
  have hl := ho.2.2.1.1
  obtain ⟨a, b, c⟩ := hv.2.2.2.1 k hk
  unfold F_X10_dutyOf
  refine ⟨E_gd ⟨by omega, by omega, by omega⟩ (E_so rfl ?_), E_gd ⟨by omega, by omega, by omega⟩ (E_so rfl ?_), E_gd ⟨by omega, by omega, by omega⟩ (E_so rfl ?_)⟩
  · rw [show (72 + 3 * (k : Int) + 0).toNat = 72 + 3 * k by omega]; exact a
  · rw [show (72 + 3 * (k : Int) + 1).toNat = 73 + 3 * k by omega]; exact b
  · rw [show (72 + 3 * (k : Int) + 2).toNat = 74 + 3 * k by omega]; exact c
theorem r_canDo (ho : okC C) (hv : rC V m C) (hM : rM (gA V (m + 37)) (cn C) M) (hoM : okM (cn C) M) {p l task clock : Int} (hp : 0 ≤ p ∧ p < cn C) (hl : 0 ≤ l ∧ l < cn C) (ht : 0 ≤ task ∧ task < ct C) (hck : 0 ≤ clock ∧ clock < 24) :
    ∃ V', F_X10_canDo G m p l task clock V = some (V', able C (mp M p l) (if p = l then 1 else 0) task clock (mh M / 24)) ∧ rT m V V' ∧ (able C (mp M p l) (if p = l then 1 else 0) task clock (mh M / 24) = 0 ∨ able C (mp M p l) (if p = l then 1 else 0) task clock (mh M / 24) = 1) := by
  have hn := ho.1
  have hh := hoM.1
  have hpt := hoM.2.2.2.2.1 p l hp.1 hp.2 hl.1 hl.2
  obtain ⟨V', e, f, b⟩ := r_able (G := G) ho hv (own := if p = l then 1 else 0) (by split <;> simp) ht hpt (clock := clock) ⟨by omega, by omega⟩ (day := mh M / 24) ⟨by omega, by omega⟩
  refine ⟨V', ?_, f, b⟩
  have h0 : gA V (m + 37) 0 = mh M := hM.1
  have fin : ∀ q, q = (if p = l then (1 : Int) else 0) → F_X10_canDo_J17 G m p l task clock (mp M p l) q V = some (V', able C (mp M p l) (if p = l then 1 else 0) task clock (mh M / 24)) := by
    intro q hq
    subst hq
    unfold F_X10_canDo_J17
    rw [h0, (tm24 hh.1).2]
    exact E_gd ⟨by omega, by omega⟩ (E_bd e (E_gd b rfl))
  unfold F_X10_canDo
  refine E_bd (r_pts hM (by omega) hp hl) (E_gd ⟨by omega, by omega⟩ (E_gd ⟨by omega, by omega⟩ (E_if (fun q => fin 1 ?_) (fun q => fin 0 ?_))))
  · rw [if_pos q]
  · rw [if_neg q]
theorem r_seen (ho : okC C) (hv : rC V m C) (hM : rM (gA V (m + 37)) (cn C) M) (hoM : okM (cn C) M) {p who l clock day : Int} (hp : 0 ≤ p ∧ p < cn C) (hw : 0 ≤ who ∧ who < cn C) (hl : 0 ≤ l ∧ l < cn C) (hck : 0 ≤ clock ∧ clock ≤ 10000) (hdy : 0 ≤ day ∧ day ≤ 10000) :
    ∃ V', F_X10_notices G m p who l clock day V = some (V', seen C M p who l clock day) ∧ rT m V V' ∧ (seen C M p who l clock day = 0 ∨ seen C M p who l clock day = 1) := by
  have hn := ho.1
  have w1 := ho.2.2.2.1 p hp.1 hp.2
  have w2 := ho.2.2.2.1 l hl.1 hl.2
  have hpt := hoM.2.2.2.2.1 who l hw.1 hw.2 hl.1 hl.2
  have hpt2 := hoM.2.2.2.2.1 p l hp.1 hp.2 hl.1 hl.2
  obtain ⟨t1, t2⟩ := rF_told hv.2.2.2.2.2.1.2.2.2
  unfold seen
  by_cases hcs : co C 3 = []
  · refine ⟨V, ?_, rT_refl, by rw [if_pos hcs]; exact Or.inl rfl⟩
    rw [if_pos hcs]
    unfold F_X10_notices
    exact E_gd t1 (E_if (fun _ => rfl) (fun q => absurd (t2.mpr hcs) q))
  · rw [if_neg hcs]
    have hok := (ho.2.2.2.2.2.2.2.2.2.2.2.2).resolve_left hcs
    have f3 : rT m V (sJ (sJ (sJ V m 51 clock) m 52 day) m 53 (mp M who l)) := ((rT_sJ (by omega)).trans (rT_sJ (by omega))).trans (rT_sJ (by omega))
    have f5 : rT m V (sJ (sJ (sJ (sJ (sJ V m 51 clock) m 52 day) m 53 (mp M who l)) m 54 (sam C p l)) m 57 (mp M p l)) := (f3.trans (rT_sJ (by omega))).trans (rT_sJ (by omega))
    have hs := sam_bd (C := C) (a := p) (b := l)
    obtain ⟨V', e, f6, b, t01⟩ := r_codes (G := G) (fb := fct clock day (mp M who l) (sam C p l) 0 0 (mp M p l)) (hv.fr f5.cs) (w := 3) (by omega) hcs hok (by simp) (by
      intro k hk
      simp only [List.mem_cons, List.not_mem_nil, or_false] at hk
      rcases hk with rfl | rfl | rfl | rfl | rfl <;> simp [rfa, fct, gJ_sJ]) (by
      intro k hk
      simp only [List.mem_cons, List.not_mem_nil, or_false] at hk
      rcases hk with rfl | rfl | rfl | rfl | rfl <;> simp [fct] <;> omega)
    have t := t01 rfl
    refine ⟨V', ?_, f5.trans f6, t⟩
    have fin : ∀ q, q = sam C p l → F_X10_notices_J57 G m p who l clock day q (sJ (sJ (sJ V m 51 clock) m 52 day) m 53 (mp M who l)) = some (V', tell (fct clock day (mp M who l) (sam C p l) 0 0 (mp M p l)) k0 (co C 3)) := by
      intro q hq
      subst hq
      unfold F_X10_notices_J57
      refine E_lt (E_bd (r_pts (V := sJ (sJ (sJ (sJ V m 51 clock) m 52 day) m 53 (mp M who l)) m 54 (sam C p l)) (M := M) hM (by omega) hp hl) (E_gd ⟨by omega, by omega⟩ (E_lt (E_bd e (E_gd ⟨by omega, by omega⟩ (E_if (fun q1 => E_so rfl ?_) (fun q1 => E_so rfl ?_))))))) <;> omega
    unfold F_X10_notices
    refine E_gd t1 (E_if (fun q => absurd (t2.mp q) hcs) (fun _ => E_gd ⟨by omega, by omega⟩ (E_lt (E_gd ⟨by omega, by omega⟩ (E_lt (E_bd (r_pts (V := sJ (sJ V m 51 clock) m 52 day) (M := M) hM (by omega) hw hl) (E_gd ⟨by omega, by omega⟩ (E_lt ?_))))))))
    refine E_bd (r_ward ho (hv.fr f3.cs) hp) (E_bd (r_ward ho (hv.fr f3.cs) hl) (E_gd ⟨by omega, by omega⟩ (E_gd ⟨by omega, by omega⟩ (E_if (fun q => fin 1 ?_) (fun q => fin 0 ?_)))))
    · unfold sam; rw [if_pos q]
    · unfold sam; rw [if_neg q]
theorem r_who (hv : rC V m C) (ho : okC C) (hM : rM (gA V (m + 37)) (cn C) M) (hoM : okM (cn C) M) {l : Int} (hl : rg l) : F_X10_whoLives G m l V = some (V, fi (ml M) l 0 (cn C).toNat) := by
  have hn := ho.1
  have key : ∀ (w : Nat) (k : Int) (fu : Nat), 0 ≤ k → k + w = cn C → w < fu → ∃ q : Nat × Int, lp (fun (s : Int) V => B_X10_whoLives_2 G m l s V) fu k V = some (V, q) ∧ ((q.1 = 1 ∧ q.2 = fi (ml M) l k w) ∨ (q.1 = 2 ∧ fi (ml M) l k w = -1)) := by
    intro w
    induction w with
    | zero =>
      intro k fu h0 h1 hf
      obtain ⟨fu, rfl⟩ : ∃ f, fu = f + 1 := ⟨fu - 1, by omega⟩
      refine ⟨(2, k), ?_, Or.inr ⟨rfl, rfl⟩⟩
      unfold lp
      rw [show B_X10_whoLives_2 G m l k V = some (V, 2, k) by
        unfold B_X10_whoLives_2
        exact E_bd (r_many hv) (E_gd ⟨by omega, by omega⟩ (E_gd ⟨by omega, by omega⟩ (E_if (fun _ => rfl) (fun q => by omega))))]
      rfl
    | succ w ih =>
      intro k fu h0 h1 hf
      obtain ⟨fu, rfl⟩ : ∃ f, fu = f + 1 := ⟨fu - 1, by omega⟩
      have hlv := hoM.2.1 k h0 (by omega)
      unfold fi
      by_cases e : ml M k = l
      · refine ⟨(1, k), ?_, Or.inl ⟨rfl, by rw [if_pos e]⟩⟩
        unfold lp
        rw [show B_X10_whoLives_2 G m l k V = some (V, 1, k) by
          unfold B_X10_whoLives_2
          refine E_bd (r_many hv) (E_gd ⟨by omega, by omega⟩ (E_gd ⟨by omega, by omega⟩ (E_if (fun q => by omega) (fun _ => ?_))))
          exact E_bd (r_lives hM (by omega) ⟨h0, by omega⟩) (E_gd ⟨by omega, by omega⟩ (E_gd hl (E_if (fun _ => rfl) (fun q => absurd e q))))]
        rfl
      · rw [if_neg e]
        obtain ⟨q, q1, q2⟩ := ih (k + 1) fu (by omega) (by omega) (by omega)
        refine ⟨q, ?_, q2⟩
        unfold lp
        rw [show B_X10_whoLives_2 G m l k V = some (V, 0, k + 1) by
          unfold B_X10_whoLives_2
          refine E_bd (r_many hv) (E_gd ⟨by omega, by omega⟩ (E_gd ⟨by omega, by omega⟩ (E_if (fun q => by omega) (fun _ => ?_))))
          exact E_bd (r_lives hM (by omega) ⟨h0, by omega⟩) (E_gd ⟨by omega, by omega⟩ (E_gd hl (E_if (fun q => absurd q e) (fun _ => rfl))))]
        exact q1
  obtain ⟨q, q1, q2⟩ := key (cn C).toNat 0 FU (by omega) (by omega) (by unfold FU; omega)
  unfold F_X10_whoLives
  refine E_bd q1 ?_
  rcases q2 with ⟨a, b⟩ | ⟨a, b⟩
  · rw [if_pos a, b]
  · rw [if_neg (by omega), b]
end

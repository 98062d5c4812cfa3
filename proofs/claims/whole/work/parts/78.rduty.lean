/-! the reference: what happens is kept; a duty comes -/
section
variable {G : mG} {V : mV} {m : Nat} {C : mCy} {M : mMo} {S : mSt} {n : Int}
theorem r_J108 {g : Nat → Int} (hg : gA V (m + 37) = g) {L : Nat} (hL : g 121 = (L : Int)) (hL2 : 1 ≤ L ∧ L ≤ 40) {w l p : Int} :
    ∃ g', F_X10_happens_J108 G m w l p V = some (sF V (m + 37) g', 0) ∧ (∀ j, g' j = if j = 118 + 4 * L then g 0 else if j = 119 + 4 * L then w else if j = 120 + 4 * L then l else if j = 121 + 4 * L then p else g j) := by
  have h121 : gA V (m + 37) 121 = (L : Int) := by rw [hg]; exact hL
  refine ⟨uN (uN (uN (uN g (118 + 4 * L) (g 0)) (119 + 4 * L) w) (120 + 4 * L) l) (121 + 4 * L) p, ?_, fun j => ?_⟩
  · unfold F_X10_happens_J108
    refine E_lt ?_
    rw [h121]
    have e0 : (122 + 4 * (L : Int) - 4).toNat = 118 + 4 * L := by omega
    have e1 : (122 + 4 * (L : Int) - 4 + 1).toNat = 119 + 4 * L := by omega
    have e2 : (122 + 4 * (L : Int) - 4 + 2).toNat = 120 + 4 * L := by omega
    have e3 : (122 + 4 * (L : Int) - 4 + 3).toNat = 121 + 4 * L := by omega
    refine E_gd ⟨by omega, by omega, by omega⟩ (E_lt (E_gd ⟨by omega, by omega, by omega⟩ (E_lt (E_gd ⟨by omega, by omega, by omega⟩ (E_lt (E_gd ⟨by omega, by omega, by omega⟩ (E_lt (E_so ?_ rfl))))))))
    rw [e0, e1, e2, e3]
    have s1 : ∀ (U : mV) (k : Nat) (x : Int), sA U (m + 37) k x = sF U (m + 37) (uN (gA U (m + 37)) k x) := fun U k x => by rw [sA_sF]; rfl
    rw [s1, gA_sAe, gA_sAe, gA_sAe, hg, sA_sF, sF_sF]
    simp only [sA_sF, sF_sF]
  · unfold uN
    (repeat' split) <;> first | rfl | omega
theorem r_kept (hM : rM (gA V (m + 37)) n M) (hl : (me M).length ≤ 40) (hn : n ≤ 10) {w l p : Int} :
    ∃ g', F_X10_happens_J48 G m w l p V = some (sF V (m + 37) g', 0) ∧ rM g' n (keepM M w l p) := by
  obtain ⟨a, b, c, d, e⟩ := hM
  have hk : me (keepM M w l p) = (if (me M).length = 40 then (me M).tail else me M) ++ [(mh M, w, l, p)] := rfl
  -- from the cells to the picture
  have fin : ∀ (g g' : Nat → Int) (L : Nat), 1 ≤ L → L ≤ 40 → (∀ j, j < 121 → g j = gA V (m + 37) j) → g 121 = (L : Int) → (me (keepM M w l p)).length = L → (∀ i : Nat, i + 1 < L → g (122 + 4 * i) = ((me (keepM M w l p)).getD i e0).1 ∧ g (123 + 4 * i) = ((me (keepM M w l p)).getD i e0).2.1 ∧ g (124 + 4 * i) = ((me (keepM M w l p)).getD i e0).2.2.1 ∧ g (125 + 4 * i) = ((me (keepM M w l p)).getD i e0).2.2.2) → (me (keepM M w l p)).getD (L - 1) e0 = (mh M, w, l, p) → (∀ j, g' j = if j = 118 + 4 * L then g 0 else if j = 119 + 4 * L then w else if j = 120 + 4 * L then l else if j = 121 + 4 * L then p else g j) → rM g' n (keepM M w l p) := by
    intro g g' L h1 h2 h3 h4 h5 h6 h7 h8
    refine ⟨?_, fun q q1 q2 => ⟨?_, ?_⟩, fun q r q1 q2 r1 r2 => ?_, ?_, fun i hi => ?_⟩
    · rw [h8, if_neg (by omega), if_neg (by omega), if_neg (by omega), if_neg (by omega), h3 0 (by omega)]; exact a
    · rw [h8, if_neg (by omega), if_neg (by omega), if_neg (by omega), if_neg (by omega), h3 _ (by omega)]; exact (b q q1 q2).1
    · rw [h8, if_neg (by omega), if_neg (by omega), if_neg (by omega), if_neg (by omega), h3 _ (by omega)]; exact (b q q1 q2).2
    · rw [h8, if_neg (by omega), if_neg (by omega), if_neg (by omega), if_neg (by omega), h3 _ (by omega)]; exact c q r q1 q2 r1 r2
    · rw [h8, if_neg (by omega), if_neg (by omega), if_neg (by omega), if_neg (by omega), h4, h5]
    · rw [h5] at hi
      rw [h8, h8, h8, h8]
      by_cases e2 : i + 1 < L
      · obtain ⟨q1, q2, q3, q4⟩ := h6 i e2
        rw [if_neg (by omega), if_neg (by omega), if_neg (by omega), if_neg (by omega), if_neg (by omega), if_neg (by omega), if_neg (by omega), if_neg (by omega), if_neg (by omega), if_neg (by omega), if_neg (by omega), if_neg (by omega), if_neg (by omega), if_neg (by omega), if_neg (by omega), if_neg (by omega)]
        exact ⟨q1, q2, q3, q4⟩
      · have hi2 : i = L - 1 := by omega
        rw [hi2, h7]
        refine ⟨?_, ?_, ?_, ?_⟩
        · rw [if_pos (by omega), h3 0 (by omega)]; exact a
        · rw [if_neg (by omega), if_pos (by omega)]
        · rw [if_neg (by omega), if_neg (by omega), if_pos (by omega)]
        · rw [if_neg (by omega), if_neg (by omega), if_neg (by omega), if_pos (by omega)]
  unfold F_X10_happens_J48
  by_cases h40 : (me M).length = 40
  · have hd : gA V (m + 37) 121 = 40 := by rw [d, h40]; rfl
    let gs : Nat → Nat → Int := fun k j => if 122 ≤ j ∧ j < 122 + k then gA V (m + 37) (j + 4) else gA V (m + 37) j
    have key := E_for (B := fun (s : Int) V => B_X10_happens_64 G m w l p s V) (t := 1) (by decide) (fun k => ((122 + k : Nat) : Int)) (fun k => sF V (m + 37) (gs k)) 156 ?_ ?_ FU (by unfold FU; omega)
    · have e0' : sF V (m + 37) (gs 0) = V := sF_id (fun j => by show (if _ then _ else _) = _; rw [if_neg (by omega)])
      rw [e0'] at key
      obtain ⟨g', e1, e2⟩ := r_J108 (G := G) (V := sF V (m + 37) (gs 156)) (g := gs 156) gA_sFe (L := 40) (by show (if 122 ≤ 121 ∧ 121 < 122 + 156 then _ else gA V (m + 37) 121) = _; rw [if_neg (by omega), hd]; rfl) ⟨by decide, by decide⟩ (w := w) (l := l) (p := p)
      refine ⟨g', ?_, ?_⟩
      · refine E_gd (by rw [hd]; exact ⟨by decide, by decide⟩) (E_if (fun _ => ?_) (fun q => absurd hd q))
        refine E_bd key ?_
        rw [e1, sF_sF]
      · have hlen : (me (keepM M w l p)).length = 40 := by rw [hk, if_pos h40, List.length_append, List.length_tail, h40]; rfl
        refine fin (gs 156) g' 40 (by decide) (by decide) (fun j hj => by show (if _ then _ else _) = _; rw [if_neg (by omega)]) (by show (if 122 ≤ 121 ∧ 121 < 122 + 156 then _ else gA V (m + 37) 121) = _; rw [if_neg (by omega), hd]; rfl) hlen (fun i hi => ?_) ?_ e2
        · have eg : (me (keepM M w l p)).getD i e0 = (me M).getD (i + 1) e0 := by
            rw [hk, if_pos h40, gD_l _ _ _ _ (by rw [List.length_tail, h40]; omega)]
            simp [List.getD_eq_getElem?_getD, List.getElem?_tail]
          obtain ⟨q1, q2, q3, q4⟩ := e (i + 1) (by omega)
          rw [eg]
          refine ⟨?_, ?_, ?_, ?_⟩
          · show (if _ then _ else _) = _; rw [if_pos (by omega), show 122 + 4 * i + 4 = 122 + 4 * (i + 1) by omega]; exact q1
          · show (if _ then _ else _) = _; rw [if_pos (by omega), show 123 + 4 * i + 4 = 123 + 4 * (i + 1) by omega]; exact q2
          · show (if _ then _ else _) = _; rw [if_pos (by omega), show 124 + 4 * i + 4 = 124 + 4 * (i + 1) by omega]; exact q3
          · show (if _ then _ else _) = _; rw [if_pos (by omega), show 125 + 4 * i + 4 = 125 + 4 * (i + 1) by omega]; exact q4
        · rw [hk, if_pos h40, gD_r _ _ _ _ (by rw [List.length_tail, h40]; exact Nat.le_refl _), List.length_tail, h40]; rfl
    · intro k hk2
      unfold B_X10_happens_64
      refine E_gd ⟨by omega, by omega⟩ (E_if (fun q => by omega) (fun _ => E_gd ⟨by omega, by omega, by omega⟩ (E_gd ⟨by omega, by omega, by omega⟩ (E_lt (E_lt (E_so ?_ ?_))))))
      · rw [gA_sFe, sA_sF, sF_sF, gA_sFe]
        refine sF_cg (fun j => ?_)
        have e4 : (((122 + k : Nat) : Int)).toNat = 122 + k := by omega
        have e5 : (((122 + k : Nat) : Int) + 4).toNat = 126 + k := by omega
        rw [e4, e5]
        show (if j = 122 + k then (if 122 ≤ 126 + k ∧ 126 + k < 122 + k then _ else gA V (m + 37) (126 + k)) else (if 122 ≤ j ∧ j < 122 + k then gA V (m + 37) (j + 4) else gA V (m + 37) j)) = (if 122 ≤ j ∧ j < 122 + (k + 1) then gA V (m + 37) (j + 4) else gA V (m + 37) j)
        by_cases q : j = 122 + k
        · rw [if_pos q, if_neg (by omega), if_pos (by omega), q, show 122 + k + 4 = 126 + k by omega]
        · rw [if_neg q]
          by_cases q2 : 122 ≤ j ∧ j < 122 + k
          · rw [if_pos q2, if_pos (by omega)]
          · rw [if_neg q2, if_neg (by omega)]
      · show ((0 : Nat), ((122 + k : Nat) : Int) + 1) = (0, ((122 + (k + 1) : Nat) : Int)); congr 1
    · unfold B_X10_happens_64
      exact E_gd ⟨by decide, by decide⟩ (E_if (fun _ => rfl) (fun q => absurd (by decide) q))
  · have hlt : (me M).length < 40 := by omega
    obtain ⟨g', e1, e2⟩ := r_J108 (G := G) (V := sA V (m + 37) 121 (gA V (m + 37) 121 + 1)) (g := uN (gA V (m + 37)) 121 (gA V (m + 37) 121 + 1)) gA_sAe (L := (me M).length + 1) (by unfold uN; rw [if_pos rfl, d]; omega) ⟨by omega, by omega⟩ (w := w) (l := l) (p := p)
    refine ⟨g', ?_, ?_⟩
    · refine E_gd (by rw [d]; exact ⟨by omega, by omega⟩) (E_if (fun q => by rw [d] at q; omega) (fun _ => E_lt ?_))
      rw [e1, sF_sA]
    · refine fin _ g' ((me M).length + 1) (by omega) (by omega) (fun j hj => by unfold uN; rw [if_neg (by omega)]) (by unfold uN; rw [if_pos rfl, d]; omega) (by rw [hk, if_neg h40, List.length_append]; rfl) (fun i hi => ?_) ?_ e2
      · rw [hk, if_neg h40, gD_l _ _ _ _ (by omega)]
        obtain ⟨q1, q2, q3, q4⟩ := e i (by omega)
        refine ⟨?_, ?_, ?_, ?_⟩
        · unfold uN; rw [if_neg (by omega)]; exact q1
        · unfold uN; rw [if_neg (by omega)]; exact q2
        · unfold uN; rw [if_neg (by omega)]; exact q3
        · unfold uN; rw [if_neg (by omega)]; exact q4
      · rw [hk, if_neg h40, show (me M).length + 1 - 1 = (me M).length by omega, gD_r _ _ _ _ (Nat.le_refl _), Nat.sub_self]; rfl
theorem r_noted (hM : rM (gA V (m + 37)) n S.1) (hl : (me S.1).length ≤ 40) (hn : n ≤ 10) (hS : rS V m S) {l p : Int} :
    ∃ V', F_X10_happens G m 2 l p V = some (V', 0) ∧ rH m V V' ∧ rM (gA V' (m + 37)) n (keepM S.1 2 l p) ∧ rS V' m S := by
  have f1 : rH m V (sA V (m + 39) 2 (gA V (m + 39) 2 + 1)) := rH_sA (by omega)
  obtain ⟨g', e1, e2⟩ := r_kept (G := G) (V := sA V (m + 39) 2 (gA V (m + 39) 2 + 1)) (n := n) (M := S.1) (by rw [gA_sAo (show m + 37 ≠ m + 39 by omega)]; exact hM) hl hn (w := 2) (l := l) (p := p)
  refine ⟨_, ?_, f1.trans (rH_sF (Or.inl rfl)), by rw [gA_sFe]; exact e2, ?_⟩
  · unfold F_X10_happens
    refine E_gd ⟨by decide, by decide, by decide⟩ (E_lt (E_gd ⟨by decide, by decide⟩ (E_if (fun q => absurd q (by decide)) (fun _ => ?_))))
    unfold F_X10_happens_J25
    exact E_gd ⟨by decide, by decide⟩ (E_if (fun _ => e1) (fun q => absurd (by decide) q))
  · obtain ⟨a, b, c, d⟩ := hS
    refine rS.now ⟨?_, ?_, fun q q1 q2 => ?_, d⟩
    · rw [gA_sA, if_neg (by rintro ⟨-, q⟩; cases q)]; exact a
    · rw [gA_sA, if_neg (by rintro ⟨-, q⟩; cases q)]; exact b
    · rw [gA_sAo (by omega)]; exact c q q1 q2
theorem r_J25 (hM : rM (gA V (m + 37)) n S.1) (hl : (me S.1).length ≤ 40) (hn : n ≤ 10) {w l p : Int} (hw : w = 0 ∨ w = 1)
    (h1 : gA V (m + 39) 0 = (if w = 0 then S.2.1.1 + 1 else S.2.1.1)) (h2 : gA V (m + 39) 1 = (if w = 1 then S.2.1.2 + 1 else S.2.1.2)) (h3 : ∀ p, 0 ≤ p → p < 10 → gA V (m + 40) p.toNat = S.2.2.2 p) (h4 : gI V m 61 = S.2.2.1.2.1 ∧ (S.2.2.1.2.1 = -1 ∨ S.2.2.1.2.1 = 0 ∨ S.2.2.1.2.1 = 1) ∧ (S.2.2.1.2.1 ≠ -1 → gI V m 62 = S.2.2.1.2.2)) :
    ∃ V', F_X10_happens_J25 G m w l p V = some (V', 0) ∧ rH m V V' ∧ rM (gA V' (m + 37)) n (failX S w l p).1 ∧ rS V' m (failX S w l p) := by
  obtain ⟨k1, k2, k3⟩ := h4
  by_cases hf : S.2.2.1.2.1 = -1
  · have e : (failX S w l p).2.2.1 = (mh S.1, w, l) := by show (if S.2.2.1.2.1 = -1 then _ else _) = _; rw [if_pos hf]
    obtain ⟨g', e1, e2⟩ := r_kept (G := G) (V := sI (sI V m 61 w) m 62 l) hM hl hn (w := w) (l := l) (p := p)
    refine ⟨sF (sI (sI V m 61 w) m 62 l) (m + 37) g', ?_, ((rH_sI (k := 61) (by omega)).trans (rH_sI (k := 62) (by omega))).trans (rH_sF (Or.inl rfl)), by rw [gA_sFe]; exact e2, ?_⟩
    · unfold F_X10_happens_J25
      exact E_gd ⟨by omega, by omega⟩ (E_if (fun q => by omega) (fun _ => E_gd (by rw [k1, hf]; decide) (E_if (fun _ => E_lt (E_lt e1)) (fun q => absurd (by rw [k1, hf]) q))))
    · refine rS.now ⟨h1, h2, h3, ?_⟩
      rw [e]
      refine ⟨?_, by show w = -1 ∨ w = 0 ∨ w = 1; omega, fun _ => ?_⟩
      · rw [gI_sI, if_neg (by rintro ⟨-, q⟩; cases q), gI_sI, if_pos ⟨rfl, rfl⟩]
      · rw [gI_sI, if_pos ⟨rfl, rfl⟩]
  · have e : (failX S w l p).2.2.1 = S.2.2.1 := by show (if S.2.2.1.2.1 = -1 then _ else _) = _; rw [if_neg hf]
    obtain ⟨g', e1, e2⟩ := r_kept (G := G) hM hl hn (w := w) (l := l) (p := p)
    refine ⟨_, ?_, rH_sF (Or.inl rfl), by rw [gA_sFe]; exact e2, ?_⟩
    · unfold F_X10_happens_J25
      exact E_gd ⟨by omega, by omega⟩ (E_if (fun q => by omega) (fun _ => E_gd (by rw [k1]; exact ⟨by omega, by omega⟩) (E_if (fun q => absurd (k1.symm.trans q) hf) (fun _ => e1))))
    · refine rS.now ⟨h1, h2, h3, ?_⟩
      rw [e]; exact ⟨k1, k2, k3⟩
theorem r_left (hM : rM (gA V (m + 37)) n S.1) (hl : (me S.1).length ≤ 40) (hn : n ≤ 10) (hS : rS V m S) {l : Int} :
    ∃ V', F_X10_happens G m 0 l (-1) V = some (V', 0) ∧ rH m V V' ∧ rM (gA V' (m + 37)) n (failX S 0 l (-1)).1 ∧ rS V' m (failX S 0 l (-1)) := by
  obtain ⟨a, b, c, d⟩ := hS
  obtain ⟨V', e1, f1, m1, s1⟩ := r_J25 (G := G) (S := S) (V := sA V (m + 39) 0 (gA V (m + 39) 0 + 1)) (by rw [gA_sAo (by omega)]; exact hM) hl hn (w := 0) (l := l) (p := -1) (Or.inl rfl) (by rw [gA_sA, if_pos ⟨rfl, rfl⟩, if_pos rfl, a]) (by rw [gA_sA, if_neg (by rintro ⟨-, q⟩; cases q), if_neg (by decide)]; exact b) (fun p p1 p2 => by rw [gA_sAo (by omega)]; exact c p p1 p2) d
  refine ⟨V', ?_, (rH_sA (by omega)).trans f1, m1, s1⟩
  unfold F_X10_happens
  exact E_gd ⟨by decide, by decide, by decide⟩ (E_lt (E_gd ⟨by decide, by decide⟩ (E_if (fun q => absurd q (by decide)) (fun _ => e1))))
theorem r_dried (hM : rM (gA V (m + 37)) n S.1) (hl : (me S.1).length ≤ 40) (hn : n ≤ 10) (hS : rS V m S) {l p : Int} (hp : 0 ≤ p ∧ p < n) :
    ∃ V', F_X10_happens G m 1 l p V = some (V', 0) ∧ rH m V V' ∧ rM (gA V' (m + 37)) n (failX (dry S p) 1 l p).1 ∧ rS V' m (failX (dry S p) 1 l p) := by
  obtain ⟨a, b, c, d⟩ := hS
  obtain ⟨V', e1, f1, m1, s1⟩ := r_J25 (G := G) (S := dry S p) (V := sA (sA V (m + 39) 1 (gA V (m + 39) 1 + 1)) (m + 40) p.toNat (gA (sA V (m + 39) 1 (gA V (m + 39) 1 + 1)) (m + 40) p.toNat + 1)) (by rw [gA_sAo (by omega), gA_sAo (by omega)]; exact hM) hl hn (w := 1) (l := l) (p := p) (Or.inr rfl)
    (by rw [gA_sAo (by omega), gA_sA, if_neg (by rintro ⟨-, q⟩; cases q), if_neg (by decide)]; exact a)
    (by rw [gA_sAo (by omega), gA_sA, if_pos ⟨rfl, rfl⟩, if_pos rfl, b]; rfl)
    (fun q q1 q2 => by
      show _ = uf S.2.2.2 p (S.2.2.2 p + 1) q
      have hc := c p hp.1 (by omega)
      rw [gA_sA]
      unfold uf
      by_cases e : q = p
      · rw [if_pos ⟨rfl, by rw [e]⟩, if_pos e, gA_sAo (by omega), hc]
      · rw [if_neg (by rintro ⟨-, w⟩; omega), if_neg e, gA_sAo (by omega)]; exact c q q1 q2) d
  refine ⟨V', ?_, ((rH_sA (by omega)).trans (rH_sA (by omega))).trans f1, m1, s1⟩
  unfold F_X10_happens
  exact E_gd ⟨by decide, by decide, by decide⟩ (E_lt (E_gd ⟨by decide, by decide⟩ (E_if (fun _ => E_gd ⟨by omega, by omega, by omega⟩ (E_lt e1)) (fun q => absurd rfl q))))
end

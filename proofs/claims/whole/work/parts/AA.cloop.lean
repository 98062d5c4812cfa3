/-! sums and tests read by the class: its loops, its steps -/
theorem rx_eq {K : mK} {w o p : Nat} (ho : o ≤ 6) (hw : w ≤ 5) : rd K 64 w o p = rd K 65 w o p := congrFun (rd_mono 64 65 w o ho hw (by unfold need; omega) (by unfold need; omega)) p
theorem rx_0 {K : mK} {o p : Nat} (ho : o ≤ 6) : rd K 64 0 o p = seqR (rd K 64 1 o p) (fun c q => loR (rd K 64 1 o) (orc K) K 1700 c q) := (rx_eq ho (by decide)).trans rfl
theorem rx_1 {K : mK} {o p : Nat} (ho : o ≤ 6) : rd K 64 1 o p = seqR (rd K 64 2 o p) (fun c q => loR (rd K 64 2 o) (andc K) K 1700 c q) := (rx_eq ho (by decide)).trans rfl
theorem rx_2 {K : mK} {o p : Nat} (ho : o ≤ 6) : rd K 64 2 o p = rdF K (rd K 64) o p := (rx_eq ho (by decide)).trans rfl
theorem rx_3 {K : mK} {o p : Nat} (ho : o ≤ 6) : rd K 64 3 o p = seqR (rd K 64 4 o p) (fun c q => loR (rd K 64 4 o) (addc K) K 1700 c q) := (rx_eq ho (by decide)).trans rfl
theorem rx_4 {K : mK} {o p : Nat} (ho : o ≤ 6) : rd K 64 4 o p = seqR (rd K 64 5 o p) (fun c q => loR (rd K 64 5 o) (mulc K) K 1700 c q) := (rx_eq ho (by decide)).trans rfl
theorem rx_5 {K : mK} {o p : Nat} (ho : o ≤ 6) : rd K 64 5 o p = rdP K (rd K 64) o p := (rx_eq ho (by decide)).trans rfl
/-- one round of a loop of the class -/
noncomputable def stL (G : mG) (r : Nat) (rec : Nat → Int → Int → mV → Option (mV × Int)) (w : Nat) (a stp s : Int) (V : mV) : Option (mV × Nat × Int) :=
  bd (F_X6_take G r V) fun V11 _ =>
  bd (rec w a 0 V11) fun V14 _ =>
  bd (F_X3_write G (gR G r 7) stp 0 V14) fun V17 _ =>
  some (V17, 0, s + 1)
/-- what reads P from a place on -/
def rdsP (G : mG) (r : Nat) (T : mT2) (md : Nat) (F : mV → Option (mV × Int)) (P : Nat → tR) : Prop := ∀ V p cs, cF G V r T md p cs → ∃ V' v, F V = some (V', v) ∧ f7 G r V V' ∧ cQ G V' r T md cs (P p)
def badP (r : Nat) (F : mV → Option (mV × Int)) : Prop := ∀ V, gI V r 11 ≠ 0 → rg (gI V r 11) → F V = some (V, 0)
section
variable {G : mG} {r : Nat} {T : mT2} {md : Nat} {rec : Nat → Int → Int → mV → Option (mV × Int)}
theorem c_loop (hG : is6 G r) (hT : tOk T) (ho : oR G r) {B : Int → mV → Option (mV × Nat × Int)} {cd : Nat → Int} {P : Nat → tR} {w : Nat} {a : Int} (hcd : ∀ p, cd p ≠ 0 → kcl (kT md T) p ≠ 0)
    (hB0 : ∀ V p cs s, cF G V r T md p cs → 0 ≤ s → s ≤ 1600 → cd p = 0 → B s V = some (V, 1, s))
    (hB1 : ∀ V p cs s, cF G V r T md p cs → 0 ≤ s → s < 1600 → cd p ≠ 0 → ∃ stp, (0 ≤ stp ∧ stp < 16) ∧ encc (cd p) = stp ∧ B s V = stL G r rec w a stp s V)
    (hBx : ∀ V s, gI V r 11 ≠ 0 → rg (gI V r 11) → 0 ≤ s → s ≤ 1600 → B s V = some (V, 1, s))
    (hrec : rdsP G r T md (rec w a 0) P)
    (hPq : ∀ p c q, p ≤ T.2 → P p = .inr (c, q) → p < q ∧ q ≤ T.2 ∧ c.length + p ≤ q) :
    ∀ (m p : Nat) (cs c : List Int) (s : Int) (V : mV) (k fu : Nat), cF G V r T md p (cs ++ c) → T.2 - p ≤ m → T.2 - p < k → T.2 - p + 1 < fu → 0 ≤ s → s ≤ (p : Int) → ∃ V' s', lp B fu s V = some (V', 1, s') ∧ f7 G r V V' ∧ cQ G V' r T md cs (loR P cd (kT md T) k c p) := by
  have hn := hT.1
  intro m
  induction m with
  | zero =>
    intro p cs c s V k fu h hm hk hf h0 hs
    obtain ⟨k, rfl⟩ : ∃ j, k = j + 1 := ⟨k - 1, by omega⟩
    have e0 : cd p = 0 := by
      by_cases q : cd p = 0
      · exact q
      · have := okK_T p (hcd p q); omega
    have hp := cA_le h.1
    refine ⟨V, s, lp_stop (q := (1, s)) (hB0 V p _ s h h0 (by omega) e0) Nat.one_ne_zero (by omega), f7_refl, ?_⟩
    unfold loR
    rw [if_pos e0]
    exact h
  | succ m ih =>
    intro p cs c s V k fu h hm hk hf h0 hs
    have hp := cA_le h.1
    obtain ⟨k, rfl⟩ : ∃ j, k = j + 1 := ⟨k - 1, by omega⟩
    by_cases e0 : cd p = 0
    · refine ⟨V, s, lp_stop (q := (1, s)) (hB0 V p _ s h h0 (by omega) e0) Nat.one_ne_zero (by omega), f7_refl, ?_⟩
      unfold loR
      rw [if_pos e0]
      exact h
    · obtain ⟨b1, b2, b3⟩ := okK_T p (hcd p e0)
      have b2' : p < nxT T p := b2
      have b3' : nxT T p ≤ T.2 := b3
      obtain ⟨fu, rfl⟩ : ∃ j, fu = j + 1 := ⟨fu - 1, by omega⟩
      obtain ⟨stp, hst, hen, hBe⟩ := hB1 V p _ s h h0 (by omega) e0
      obtain ⟨V1, t1, t2, t3⟩ := k6_take hG h.1 h.2.1
      have h1 := h.nx6 ho t2 (by omega) t3
      obtain ⟨V2, v2, r1, r2, r3⟩ := hrec V1 _ _ h1
      unfold loR
      rw [if_neg e0]
      show ∃ V' s', _ ∧ _ ∧ cQ G V' r T md cs (seqR (P (nxT T p)) _)
      cases hP : P (nxT T p) with
      | inl e =>
        rw [hP] at r3
        obtain ⟨V3, w1, w2, w3⟩ := cX.wr hG ho (r3 : cX G V2 r T md e) (s := stp) (w := 0) (by decide) (Or.inl hst.1)
        have b := w3.bad
        have hB : B s V = some (V3, 0, s + 1) := by
          rw [hBe]; unfold stL
          exact E_bd t1 (E_bd r1 (E_bd w1 rfl))
        refine ⟨V3, s + 1, ?_, (t2.t7.trans r2).trans w2, w3⟩
        rw [lp_more hB]
        exact lp_stop (q := (1, s + 1)) (hBx V3 (s + 1) b.2.1 b.2.2 (by omega) (by omega)) Nat.one_ne_zero (by omega)
      | inr x =>
        obtain ⟨c1, q1⟩ := x
        rw [hP] at r3
        obtain ⟨p1, p2, p3⟩ := hPq _ _ _ b3' hP
        have hl := h.2.2.2.1
        have r3' : cF G V2 r T md q1 (cs ++ c ++ c1) := r3
        obtain ⟨V3, w1, w2, w3⟩ := cF.wr hG hT ho r3' (by rw [List.length_append]; omega) (s := stp) (w := 0) (v := cd p) (by decide) hst (by rw [hen]; omega)
        have hB : B s V = some (V3, 0, s + 1) := by
          rw [hBe]; unfold stL
          exact E_bd t1 (E_bd r1 (E_bd w1 rfl))
        rw [lp_more hB]
        rw [show cs ++ c ++ c1 ++ [cd p] = cs ++ (c ++ c1 ++ [cd p]) by simp] at w3
        obtain ⟨V4, s', l1, l2, l3⟩ := ih q1 cs (c ++ c1 ++ [cd p]) (s + 1) V3 k fu w3 (by omega) (by omega) (by omega) (by omega) (by omega)
        exact ⟨V4, s', l1, ((t2.t7.trans r2).trans w2).trans l2, l3⟩
/-- a first one, then the loop -/
theorem c_first (N : Nat) (hN : 1600 < N) (hG : is6 G r) (hT : tOk T) (ho : oR G r) {B : Int → mV → Option (mV × Nat × Int)} {cd : Nat → Int} {P : Nat → tR} {w : Nat} {a : Int} (hcd : ∀ p, cd p ≠ 0 → kcl (kT md T) p ≠ 0)
    (hB0 : ∀ V p cs s, cF G V r T md p cs → 0 ≤ s → s ≤ 1600 → cd p = 0 → B s V = some (V, 1, s))
    (hB1 : ∀ V p cs s, cF G V r T md p cs → 0 ≤ s → s < 1600 → cd p ≠ 0 → ∃ stp, (0 ≤ stp ∧ stp < 16) ∧ encc (cd p) = stp ∧ B s V = stL G r rec w a stp s V)
    (hBx : ∀ V s, gI V r 11 ≠ 0 → rg (gI V r 11) → 0 ≤ s → s ≤ 1600 → B s V = some (V, 1, s))
    (hrec : rdsP G r T md (rec w a 0) P)
    (hPq : ∀ p c q, p ≤ T.2 → P p = .inr (c, q) → p < q ∧ q ≤ T.2 ∧ c.length + p ≤ q) :
    rdsP G r T md (fun V => bd (rec w a 0 V) fun V1 _ => bd (lp (fun (s : Int) V => B s V) FU 0 V1) fun V21 _ => some (V21, 0)) (fun p => seqR (P p) (fun c q => loR P cd (kT md T) N c q)) := by
  intro V p cs h
  have hn := hT.1
  obtain ⟨V1, v1, r1, r2, r3⟩ := hrec V p cs h
  show ∃ V' v, bd (rec w a 0 V) _ = some (V', v) ∧ f7 G r V V' ∧ cQ G V' r T md cs (seqR (P p) _)
  cases hP : P p with
  | inl e =>
    rw [hP] at r3
    have r3' : cX G V1 r T md e := r3
    have b := r3'.bad
    exact ⟨V1, 0, E_bd r1 (E_bd (lp_stop (q := (1, 0)) (hBx V1 0 b.2.1 b.2.2 (by decide) (by decide)) Nat.one_ne_zero (by unfold FU; decide)) rfl), r2, r3'⟩
  | inr x =>
    obtain ⟨c, q⟩ := x
    rw [hP] at r3
    obtain ⟨p1, p2, p3⟩ := hPq _ _ _ (cA_le h.1) hP
    obtain ⟨V2, s', l1, l2, l3⟩ := c_loop hG hT ho hcd hB0 hB1 hBx hrec hPq (T.2 - q) q cs c 0 V1 N FU r3 (Nat.le_refl _) (by omega) (by unfold FU; omega) (by decide) (by omega)
    exact ⟨V2, 0, E_bd r1 (E_bd l1 rfl), r2.trans l2, l3⟩
-- ---- steps behind one another: x is what was read so far
theorem Q_wr (hG : is6 G r) (hT : tOk T) (ho : oR G r) {V : mV} {cs : List Int} {x : tR} (h : cQ G V r T md cs x) (hl : ∀ c q, x = .inr (c, q) → cs.length + c.length < q) {s w v : Int} (hw : 0 ≤ w) (hs : 0 ≤ s ∧ s < 16) (he : encc v = w * 16 + s) : ∃ V', F_X3_write G (gR G r 7) s w V = some (V', 0) ∧ f7 G r V V' ∧ cQ G V' r T md cs (seqR x (fun c q => .inr (c ++ [v], q))) := by
  cases x with
  | inl e => exact cX.wr hG ho (h : cX G V r T md e) hw (Or.inl hs.1)
  | inr y =>
    obtain ⟨c, q⟩ := y
    obtain ⟨V', a, b, d⟩ := cF.wr hG hT ho (h : cF G V r T md q (cs ++ c)) (by rw [List.length_append]; exact hl c q rfl) hw hs he
    rw [List.append_assoc] at d
    exact ⟨V', a, b, d⟩
theorem Q_sg (hG : is6 G r) (hT : tOk T) (ho : oR G r) {V : mV} {cs : List Int} {x : tR} (h : cQ G V r T md cs x) {s : Int} {k : Nat} (hs : rg s) (hk : ∀ q, kcl (kT md T) q = k ↔ kdT T q = 2 ∧ T.1 q = s) : ∃ V', F_X6_takeSign G r s V = some (V', 0) ∧ f7 G r V V' ∧ cQ G V' r T md cs (seqR x (fun c q => if kcl (kT md T) q = k then .inr (c, knx (kT md T) q) else .inl (1, (q : Int)))) := by
  cases x with
  | inl e =>
    have h' : cX G V r T md e := h
    obtain ⟨⟨p, b1⟩, b2, b3⟩ := h'.bad
    exact ⟨V, k6_tSg1 hG b1 b2 b3, f7_refl, h'⟩
  | inr y =>
    obtain ⟨c, q⟩ := y
    have h' : cF G V r T md q (cs ++ c) := h
    obtain ⟨V', a, b, d⟩ := k6_tSg hG hT h'.1 h'.2.1 hs
    refine ⟨V', a, b.t7, ?_⟩
    show cQ G V' r T md cs (if kcl (kT md T) q = k then .inr (c, knx (kT md T) q) else .inl (1, (q : Int)))
    unfold nSg at d
    by_cases e : kcl (kT md T) q = k
    · rw [if_pos ((hk q).mp e)] at d
      rw [if_pos e]
      have nx : q ≤ nxT T q := by
        by_cases z : q < T.2
        · have := nxT_gt z; omega
        · rw [nxT_out (by omega)]; omega
      exact h'.nx6 ho b nx d
    · rw [if_neg (fun z => e ((hk q).mpr z))] at d
      rw [if_neg e]
      exact h'.x6 hG ho b d
theorem Q_op (hG : is6 G r) (ho : oR G r) {V : mV} {cs : List Int} {x : tR} (h : cQ G V r T md cs x) {o : Nat} (ho6 : o ≤ 6) : ∃ V', F_X6_takeOpening G r (o : Int) V = some (V', 0) ∧ f7 G r V V' ∧ cQ G V' r T md cs (seqR x (fun c q => if 6 ≤ o then .inl (4, (q : Int)) else .inr (c, knx (kT md T) q))) := by
  cases x with
  | inl e =>
    have h' : cX G V r T md e := h
    obtain ⟨⟨p, b1⟩, b2, b3⟩ := h'.bad
    exact ⟨V, k6_tOp1 hG b1 b2 b3 (by omega), f7_refl, h'⟩
  | inr y =>
    obtain ⟨c, q⟩ := y
    have h' : cF G V r T md q (cs ++ c) := h
    obtain ⟨V', a, b, d⟩ := k6_tOp hG h'.1 h'.2.1 (o := o) (by omega)
    refine ⟨V', a, b.t7, ?_⟩
    show cQ G V' r T md cs (if 6 ≤ o then .inl (4, (q : Int)) else .inr (c, knx (kT md T) q))
    unfold nOp at d
    by_cases e : 6 ≤ o
    · rw [if_pos e] at d ⊢
      exact h'.x6 hG ho b d
    · rw [if_neg e] at d ⊢
      have nx : q ≤ nxT T q := by
        by_cases z : q < T.2
        · have := nxT_gt z; omega
        · rw [nxT_out (by omega)]; omega
      exact h'.nx6 ho b nx d
theorem Q_rec {V : mV} {cs : List Int} {x : tR} (h : cQ G V r T md cs x) {F : mV → Option (mV × Int)} {P : Nat → tR} (hb : badP r F) (hr : (∀ e, x ≠ .inl e) → rdsP G r T md F P) : ∃ V' v, F V = some (V', v) ∧ f7 G r V V' ∧ cQ G V' r T md cs (seqR x (fun c q => seqR (P q) (fun c2 q2 => .inr (c ++ c2, q2)))) := by
  cases x with
  | inl e =>
    have h' : cX G V r T md e := h
    obtain ⟨-, b2, b3⟩ := h'.bad
    exact ⟨V, 0, hb V b2 b3, f7_refl, h'⟩
  | inr y =>
    obtain ⟨c, q⟩ := y
    have h' : cF G V r T md q (cs ++ c) := h
    obtain ⟨V', v, a, b, d⟩ := hr (fun e z => by cases z) V q (cs ++ c) h'
    refine ⟨V', v, a, b, ?_⟩
    show cQ G V' r T md cs (seqR (P q) (fun c2 q2 => .inr (c ++ c2, q2)))
    cases hP : P q with
    | inl e => rw [hP] at d; exact d
    | inr z =>
      rw [hP] at d
      have d' : cF G V' r T md z.2 (cs ++ c ++ z.1) := d
      rw [List.append_assoc] at d'
      exact d'
end

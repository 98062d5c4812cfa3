/-! sums and tests read by the class: what the descent tells -/
theorem wr_val {w s : Int} (hw : 0 ≤ w) (hs : 0 ≤ s ∧ s < 16) : bo2 (shl w 4) s = w * 16 + s := by
  have e : shl w 4 = w * ((2 ^ 4 : Nat) : Int) := rfl
  have c : bor (shl w 4) s = bor s (shl w 4) := by unfold bor; rw [Nat.or_comm]
  unfold bo2
  rw [if_neg (by omega), c, e, bor_add ⟨hs.1, by omega⟩ hw]
  have : ((2 ^ 4 : Nat) : Int) = 16 := rfl
  rw [this]; omega
theorem cls_snoc {c c' : Nat → Int} {v : Int} : ∀ {cs : List Int} {k : Nat}, cls c k cs → (∀ j, k ≤ j → j < k + cs.length → c' j = c j) → c' (k + cs.length) = encc v → cls c' k (cs ++ [v])
  | [], k, _, _, h => ⟨h, trivial⟩
  | w :: cs, k, p, e, h => by
    rw [List.length_cons] at e h
    refine ⟨by rw [e k (by omega) (by omega)]; exact p.1, cls_snoc p.2 (fun j a b => e j (by omega) (by omega)) ?_⟩
    rw [show k + 1 + cs.length = k + (cs.length + 1) by omega]; exact h
section
variable {G : mG} {V : mV} {o : Nat}
theorem p3_write (hF : is3 G o) {cs : List Int} (hv : vF V o cs) (hl : cs.length < 1600) {s w v : Int} (hw : 0 ≤ w) (hs : 0 ≤ s ∧ s < 16) (he : encc v = w * 16 + s) : ∃ V', F_X3_write G o s w V = some (V', 0) ∧ fr (fun i => i = o + 1 ∨ i = o + 2) V V' ∧ vF V' o (cs ++ [v]) := by
  obtain ⟨h1, h2, h3, h4⟩ := hv
  have e : radd V (o + 1) (qG G (o + 1 + 1)) (w * 16 + s) = sI (sA V (o + 1 + 1) cs.length (w * 16 + s)) (o + 1) 1 ((cs.length : Int) + 1) := by
    unfold radd
    rw [h1, Int.toNat_natCast, if_pos (by rw [show qG G (o + 1 + 1) = 1600 from s3_0c hF]; omega)]
  refine ⟨sI (sA V (o + 1 + 1) cs.length (w * 16 + s)) (o + 1) 1 ((cs.length : Int) + 1), ?_, (fr_sA (Or.inr rfl)).trans (fr_sI (Or.inl rfl)), ?_, ?_, ?_, ?_⟩
  · unfold F_X3_write
    refine E_gd (Or.inl ⟨?_, hs.1⟩) ?_
    · show 0 ≤ w * ((2 ^ 4 : Nat) : Int)
      exact Int.mul_nonneg hw (by decide)
    · rw [wr_val hw hs]
      refine E_bd (p7_add (s3_0s hF) (rw_rz (s3_0c hF) h1 ⟨by omega, by omega⟩)) ?_
      rw [e]
  · rw [gI_sI, if_pos ⟨rfl, rfl⟩, List.length_append]
    show (cs.length : Int) + 1 = ((cs.length + 1 : Nat) : Int)
    omega
  · rw [List.length_append]
    show cs.length + 1 ≤ 1600
    omega
  · refine cls_snoc h3 (fun j _ b => ?_) ?_
    · show gA (sA V (o + 1 + 1) cs.length (w * 16 + s)) (o + 2) j = _
      rw [gA_sA, if_neg (by omega)]
    · show gA (sA V (o + 1 + 1) cs.length (w * 16 + s)) (o + 2) (0 + cs.length) = _
      rw [gA_sA, if_pos ⟨rfl, by omega⟩, he]
  · rw [gI_sI, if_neg (by omega)]; exact h4
theorem p3_write1 (hF : is3 G o) (hz : rz G V (o + 1)) {s w : Int} (hw : 0 ≤ w) (hs : 0 ≤ s ∨ s = -1) : ∃ V', F_X3_write G o s w V = some (V', 0) ∧ fr (fun i => i = o + 1 ∨ i = o + 2) V V' ∧ rz G V' (o + 1) := by
  refine ⟨radd V (o + 1) (qG G (o + 1 + 1)) (bo2 (shl w 4) s), ?_, fr_radd (Or.inr rfl) (Or.inl rfl), ?_⟩
  · unfold F_X3_write
    refine E_gd ?_ (E_bd (p7_add (s3_0s hF) hz) rfl)
    rcases hs with q | q
    · refine Or.inl ⟨?_, q⟩
      show 0 ≤ w * ((2 ^ 4 : Nat) : Int)
      exact Int.mul_nonneg hw (by decide)
    · exact Or.inr q
  · obtain ⟨a, b⟩ := hz
    unfold radd rz
    split
    · next q => rw [gI_sI, if_pos ⟨rfl, rfl⟩]; omega
    · exact ⟨a, b⟩
end
def msk (md : Nat) : Int := if md = 0 then 61440 else if md = 1 then 94216 else if md = 2 then 192512 else 7516205056
theorem msk_ok : ∀ md : Fin 4, ∀ w : Fin 33, (shr (msk md.val) (w.val : Int)) % 2 = 1 ↔ wfa (w.val : Int) ∈ alS md.val := by decide +kernel
theorem enc_wfa : ∀ w : Fin 33, wfa (w.val : Int) ≠ -1 → encc (40 + wfa (w.val : Int)) = (w.val : Int) * 16 + 1 := by decide +kernel
theorem msk_rl {md : Nat} : rl (msk md) ∧ (∀ k : Int, 0 ≤ k → rl ((shr (msk md) k) % 2)) ∧ (msk md = 7516205056 ↔ ¬ (md = 0 ∨ md = 1 ∨ md = 2)) := by
  refine ⟨?_, fun k _ => ⟨by omega, by omega⟩, ?_⟩
  · unfold msk
    (repeat' split) <;> decide
  · unfold msk
    (repeat' split) <;> omega
/-- a reader's frame: itself, and where it writes -/
def f7 (G : mG) (r : Nat) (V V' : mV) : Prop := fr (fun i => i = r ∨ i = gR G r 7 + 1 ∨ i = gR G r 7 + 2) V V' ∧ gI V' r 10 = gI V r 10
theorem f7_refl {G : mG} {r : Nat} {V : mV} : f7 G r V V := ⟨fr_refl, rfl⟩
theorem f7.trans {G : mG} {r : Nat} {V V1 V2 : mV} (h : f7 G r V V1) (k : f7 G r V1 V2) : f7 G r V V2 := ⟨h.1.trans k.1, k.2.trans h.2⟩
theorem f6.t7 {G : mG} {r : Nat} {V V' : mV} (h : f6 r V V') : f7 G r V V' := ⟨h.1.mono (fun i q => Or.inl q), h.2⟩
/-- where it writes lies elsewhere -/
def oR (G : mG) (r : Nat) : Prop := gR G r 7 + 3 < r ∨ r + 12 < gR G r 7 + 1
/-- reading, nothing amiss: the next token at p, codes cs so far -/
def cF (G : mG) (V : mV) (r : Nat) (T : mT2) (md : Nat) (p : Nat) (cs : List Int) : Prop := cA V r T p ∧ gI V r 11 = 0 ∧ vF V (gR G r 7) cs ∧ cs.length ≤ p ∧ gJ V r 8 = msk md
def cX (G : mG) (V : mV) (r : Nat) (T : mT2) (md : Nat) (e : Int × Int) : Prop := rs6 V r T (.inl e) ∧ rz G V (gR G r 7 + 1) ∧ gJ V r 8 = msk md
def cQ (G : mG) (V : mV) (r : Nat) (T : mT2) (md : Nat) (cs : List Int) (x : tR) : Prop := match x with
  | .inl e => cX G V r T md e
  | .inr y => cF G V r T md y.2 (cs ++ y.1)
section
variable {G : mG} {V V' : mV} {r : Nat} {T : mT2} {md p : Nat} {cs : List Int}
theorem cF.nx6 (h : cF G V r T md p cs) (ho : oR G r) (k : f6 r V V') {q : Nat} (hq : p ≤ q) (hs : rs6 V' r T (.inr q)) : cF G V' r T md q cs := by
  obtain ⟨-, -, c, d, e⟩ := h
  unfold oR at ho
  exact ⟨hs.1, hs.2, c.fr k.1 (by omega) (by omega) (by omega), by omega, by rw [k.1.1]; exact e⟩
theorem cF.x6 (hG : is6 G r) (h : cF G V r T md p cs) (ho : oR G r) (k : f6 r V V') {e : Int × Int} (hs : rs6 V' r T (.inl e)) : cX G V' r T md e := by
  obtain ⟨-, -, c, d, e'⟩ := h
  unfold oR at ho
  refine ⟨hs, rz.fr (V := V) (rw_rz (s3_0c (s6_7s hG)) c.1 ⟨by omega, by have := c.2.1; omega⟩) k.1 (by omega), by rw [k.1.1]; exact e'⟩
theorem cX.bad {e : Int × Int} (h : cX G V r T md e) : (∃ p, cA V r T p) ∧ gI V r 11 ≠ 0 ∧ rg (gI V r 11) := by
  obtain ⟨⟨a, b, -, c, d⟩, -, -⟩ := h
  exact ⟨a, by rw [b]; exact d, by rw [b]; exact c⟩
theorem cA_w7 (ho : oR G r) (h : cA V r T p) (k : fr (fun i => i = gR G r 7 + 1 ∨ i = gR G r 7 + 2) V V') : cA V' r T p := by
  unfold oR at ho
  exact h.fr k (fun i a b => by omega) (k.I (by omega) 6)
/-- a step written -/
theorem cF.wr (hG : is6 G r) (hT : tOk T) (ho : oR G r) (h : cF G V r T md p cs) (hl : cs.length < p) {s w v : Int} (hw : 0 ≤ w) (hs : 0 ≤ s ∧ s < 16) (he : encc v = w * 16 + s) : ∃ V', F_X3_write G (gR G r 7) s w V = some (V', 0) ∧ f7 G r V V' ∧ cF G V' r T md p (cs ++ [v]) := by
  obtain ⟨a, b, c, d, e⟩ := h
  have hp := cA_le a
  have hn := hT.1
  obtain ⟨V', e1, k, e2⟩ := p3_write (s6_7s hG) c (by omega) hw hs he
  have ho' := ho
  unfold oR at ho'
  refine ⟨V', e1, ⟨k.mono (fun i q => Or.inr q), k.I (by omega) 10⟩, cA_w7 ho a k, by rw [k.I (by omega)]; exact b, e2, ?_, by rw [k.1]; exact e⟩
  rw [List.length_append]
  show cs.length + 1 ≤ p
  omega
theorem cX.wr (hG : is6 G r) (ho : oR G r) {e : Int × Int} (h : cX G V r T md e) {s w : Int} (hw : 0 ≤ w) (hs : 0 ≤ s ∨ s = -1) : ∃ V', F_X3_write G (gR G r 7) s w V = some (V', 0) ∧ f7 G r V V' ∧ cX G V' r T md e := by
  obtain ⟨⟨⟨p, a⟩, b, c, d⟩, z, j⟩ := h
  obtain ⟨V', e1, k, e2⟩ := p3_write1 (s6_7s hG) z hw hs
  have ho' := ho
  unfold oR at ho'
  exact ⟨V', e1, ⟨k.mono (fun i q => Or.inr q), k.I (by omega) 10⟩, ⟨⟨p, cA_w7 ho a k⟩, by rw [k.I (by omega)]; exact b, by rw [k.I (by omega)]; exact c, d⟩, e2, by rw [k.1]; exact j⟩
end
theorem lp_stop {σ τ : Type} {B : σ → τ → Option (τ × Nat × σ)} {s : σ} {V V' : τ} {q : Nat × σ} (h : B s V = some (V', q)) (h0 : q.1 ≠ 0) : ∀ {fu : Nat}, 0 < fu → lp B fu s V = some (V', q)
  | 0, hf => absurd hf (Nat.lt_irrefl 0)
  | fu + 1, _ => by
    unfold lp
    rw [h]
    simp only
    rw [if_neg h0]
theorem lp_more {σ τ : Type} {B : σ → τ → Option (τ × Nat × σ)} {s s' : σ} {V V' : τ} (h : B s V = some (V', 0, s')) : ∀ {fu : Nat}, lp B (fu + 1) s V = lp B fu s' V' := by
  intro fu
  show (match B s V with
    | none => none
    | some p => if p.2.1 = 0 then lp B fu p.2.2 p.1 else some p) = _
  rw [h]
  rfl
/-- behind a fault nothing is read -/
theorem FR_bad {G : mG} {V : mV} {r : Nat} (h0 : gI V r 11 ≠ 0) (hr : rg (gI V r 11)) : ∀ (f w : Nat) (a b : Int), w ≤ 5 → 6 - w ≤ f → FR G r f w a b V = some (V, 0) := by
  intro f
  induction f with
  | zero => intro w a b hw h; omega
  | succ f ih =>
    intro w a b hw h
    unfold FR
    by_cases w0 : w = 0
    · rw [if_pos w0]
      unfold F_X6_readTest
      refine E_bd (ih 1 a 0 (by decide) (by omega)) (E_bd (lp_stop (q := (1, 0)) ?_ Nat.one_ne_zero (by unfold FU; decide)) rfl)
      show B_X6_readTest_7 (FR G r f) G r a 0 V = some (V, 1, 0)
      unfold B_X6_readTest_7
      exact E_gd (by decide) (E_if (fun q => absurd q (by decide)) (fun _ => E_bd (k6_isw1 h0 hr) (E_gd (by decide) (E_if (fun _ => rfl) (fun q => absurd rfl q)))))
    rw [if_neg w0]
    by_cases w1 : w = 1
    · rw [if_pos w1]
      unfold F_X6_readBoth
      refine E_bd (ih 2 a 0 (by decide) (by omega)) (E_bd (lp_stop (q := (1, 0)) ?_ Nat.one_ne_zero (by unfold FU; decide)) rfl)
      show B_X6_readBoth_7 (FR G r f) G r a 0 V = some (V, 1, 0)
      unfold B_X6_readBoth_7
      exact E_gd (by decide) (E_if (fun q => absurd q (by decide)) (fun _ => E_bd (k6_isw1 h0 hr) (E_gd (by decide) (E_if (fun _ => rfl) (fun q => absurd rfl q)))))
    rw [if_neg w1]
    by_cases w2 : w = 2
    · rw [if_pos w2]
      unfold F_X6_readFact
      exact E_bd (k6_bad h0 hr) (E_gd (by decide) (E_if (fun _ => rfl) (fun q => absurd rfl q)))
    rw [if_neg w2]
    by_cases w3 : w = 3
    · rw [if_pos w3]
      unfold F_X6_readSum
      refine E_bd (ih 4 a 0 (by decide) (by omega)) (E_bd (lp_stop (q := (1, 0)) ?_ Nat.one_ne_zero (by unfold FU; decide)) rfl)
      show B_X6_readSum_7 (FR G r f) G r a 0 V = some (V, 1, 0)
      unfold B_X6_readSum_7
      exact E_gd (by decide) (E_if (fun q => absurd q (by decide)) (fun _ => E_bd (k6_sign1 h0 hr) (E_gd (by decide) (E_if (fun _ => E_bd (k6_sign1 h0 hr) (E_gd (by decide) (E_if (fun _ => rfl) (fun q => absurd rfl q)))) (fun q => absurd rfl q)))))
    rw [if_neg w3]
    by_cases w4 : w = 4
    · rw [if_pos w4]
      unfold F_X6_readProduct
      refine E_bd (ih 5 a 0 (by decide) (by omega)) (E_bd (lp_stop (q := (1, 0)) ?_ Nat.one_ne_zero (by unfold FU; decide)) rfl)
      show B_X6_readProduct_7 (FR G r f) G r a 0 V = some (V, 1, 0)
      unfold B_X6_readProduct_7
      exact E_gd (by decide) (E_if (fun q => absurd q (by decide)) (fun _ => E_bd (k6_sign1 h0 hr) (E_gd (by decide) (E_if (fun _ => E_bd (k6_sign1 h0 hr) (E_gd (by decide) (E_if (fun _ => rfl) (fun q => absurd rfl q)))) (fun q => absurd rfl q)))))
    rw [if_neg w4]
    have w5 : w = 5 := by omega
    rw [if_pos w5]
    unfold F_X6_readPart
    exact E_bd (k6_bad h0 hr) (E_gd (by decide) (E_if (fun _ => rfl) (fun q => absurd rfl q)))

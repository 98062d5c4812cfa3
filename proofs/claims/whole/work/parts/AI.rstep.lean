/-! the reference at its pile: a state, what opens, which word is asked -/
def rB (m : Nat) (V V' : mV) : Prop := gJ V' = gJ V ∧ gL V' = gL V ∧ (∀ i, i ≠ m + 68 → i ≠ m + 69 → gA V' i = gA V i) ∧ (∀ i k, (i ≠ m ∨ (k ≠ 2 ∧ k ≠ 4 ∧ k ≠ 5 ∧ k ≠ 6 ∧ k ≠ 10 ∧ k ≠ 35 ∧ k ≠ 98 ∧ k ≠ 100 ∧ k ≠ 101 ∧ k ≠ 102)) → gI V' i k = gI V i k)
theorem rB_refl {m : Nat} {V : mV} : rB m V V := ⟨rfl, rfl, fun _ _ _ => rfl, fun _ _ _ => rfl⟩
theorem rB.trans {m : Nat} {V V1 V2 : mV} (h : rB m V V1) (k : rB m V1 V2) : rB m V V2 := ⟨k.1.trans h.1, k.2.1.trans h.2.1, fun i a b => (k.2.2.1 i a b).trans (h.2.2.1 i a b), fun i j q => (k.2.2.2 i j q).trans (h.2.2.2 i j q)⟩
theorem rLk.B {m : Nat} {V V' : mV} (h : rLk m V V') : rB m V V' := ⟨h.2.1, h.2.2.1, fun i _ _ => by rw [h.1], fun i k q => h.2.2.2 i k (by omega)⟩
theorem rqF.B {m : Nat} {V V' : mV} (h : rqF m V V') : rB m V V' := ⟨h.1, h.2.1, h.2.2.1, fun i k q => h.2.2.2 i k (by omega)⟩
/-- at p, S waits above B, o are open -/
def rR (V : mV) (m : Nat) (T : mT2) (md : Nat) (B : List Int) (p : Nat) (S : List Int) (o : Nat) (cs : List Int) : Prop := rA V m T p ∧ gI V m 5 = 0 ∧ gI V m 48 = (md : Int) ∧ rWd V m ∧ pq V m (S ++ B) B.length (o : Int) cs ∧ (opn (S ++ B) ≤ o ∧ o ≤ 6) ∧ (S ++ B).length + cs.length ≤ p
/-- a fault -/
def rX (V : mV) (m : Nat) (e : Int × Int) (k : Int) : Prop := (gI V m 5 = e.1 ∧ gI V m 6 = e.2 ∧ rg e.1 ∧ e.1 ≠ 0) ∧ (0 ≤ gI V m 98 ∧ gI V m 98 ≤ 1600 + k)
section
variable {G : mG} {V V' : mV} {m : Nat} {T : mT2} {md p q o : Nat} {S B cs : List Int} {e : Int × Int} {k : Int}
theorem rWd.lk (h : rWd V m) (k : rLk m V V') : rWd V' m := h.of (fun i _ => by rw [k.1])
theorem rWd.pq (h : rWd V m) (k : rqF m V V') : rWd V' m := h.of (fun i hi => by unfold isW at hi; exact k.2.2.1 _ (by omega) (by omega))
theorem rR.lk (h : rR V m T md B p S o cs) (k : rLk m V V') (r : rs10 V' m T (.inr q)) (hq : p ≤ q) : rR V' m T md B q S o cs := by
  obtain ⟨a1, a2, a3, a4, a5, a6, a7⟩ := h
  exact ⟨r.1, r.2, by rw [k.2.2.2 m 48 (by omega)]; exact a3, a4.lk k, a5.lk k, a6, by omega⟩
theorem rR.x (h : rR V m T md B p S o cs) (k : rLk m V V') (r : rs10 V' m T (.inl e)) : rX V' m e 0 := by
  obtain ⟨a1, a2, a3, a4, a5, a6, a7⟩ := h
  have h98 := a5.2.2.2.2.1
  have h8 := a5.2.2.2.2.2.2.2
  exact ⟨r, by rw [k.2.2.2 m 98 (by omega), h98]; omega⟩
theorem rX.up {j : Int} (h : rX V m e k) (hk : k ≤ j) : rX V m e j := ⟨h.1, h.2.1, by have := h.2.2; omega⟩
theorem rX.bad (h : rX V m e k) : gI V m 5 ≠ 0 ∧ rg (gI V m 5) := by
  obtain ⟨⟨a, b, c, d⟩, -⟩ := h
  exact ⟨by rw [a]; exact d, by rw [a]; exact c⟩
theorem rX.pq (h : rX V m e k) (f : rqF m V V') (h98 : gI V' m 98 = gI V m 98) : rX V' m e k := by
  obtain ⟨⟨a, b, c, d⟩, x⟩ := h
  exact ⟨⟨by rw [f.i (by decide)]; exact a, by rw [f.i (by decide)]; exact b, c, d⟩, by rw [h98]; exact x⟩
theorem rX.at' (h : rX V m e k) {x : Int} : rX (sI V m 2 x) m e k := by
  obtain ⟨⟨a, b, c, d⟩, x⟩ := h
  exact ⟨⟨by rw [gI_sI, if_neg (by omega)]; exact a, by rw [gI_sI, if_neg (by omega)]; exact b, c, d⟩, by rw [gI_sI, if_neg (by omega)]; exact x⟩
/-- a code told behind a fault -/
theorem rX.code (h : rX V m e k) (hk : k ≤ 90) {v : Int} : ∃ V', F_X10_qCode G m v V = some (V', 0) ∧ rqF m V V' ∧ rX V' m e (k + 1) := by
  obtain ⟨⟨a, b, c, d⟩, x⟩ := h
  refine ⟨sI (sA V (m + 68) (gI V m 98).toNat v) m 98 (gI V m 98 + 1), ?_, (rqF_sA (Or.inl rfl)).trans (rqF_sI (by omega)), ⟨?_, ?_, c, d⟩, ?_⟩
  · unfold F_X10_qCode
    exact E_gd ⟨by omega, by omega, by omega⟩ (E_lt (E_lt rfl))
  · rw [gI_sI, if_neg (by omega)]; exact a
  · rw [gI_sI, if_neg (by omega)]; exact b
  · rw [gI_sI, if_pos ⟨rfl, rfl⟩]; omega
theorem rX.ends (h : rX V m e k) : F_X10_qEndsPart G m V = some (V, 0) := p_ends1 h.bad.1 h.bad.2
/-- what opens: a fault, or one more waits -/
theorem r_opens (h : rR V m T md B p S o cs) {v pl : Int} (hv : 12 ≤ v ∧ v ≤ 60) (hp : p < T.2) (hT : tOk T) : ∃ V', F_X10_qOpens G m v pl V = some (V', 0) ∧ rB m V V' ∧ gI V' m 2 = gI V m 2 ∧ gI V' m 4 = gI V m 4 ∧ gA V' (m + 1) = gA V (m + 1) ∧ (if 6 ≤ o then rX V' m (4, pl) 0 else (rA V' m T p ∧ gI V' m 5 = 0 ∧ gI V' m 48 = (md : Int) ∧ rWd V' m ∧ pq V' m ((v :: S) ++ B) B.length ((o + 1 : Nat) : Int) cs ∧ (opn ((v :: S) ++ B) ≤ o + 1 ∧ o + 1 ≤ 6) ∧ ((v :: S) ++ B).length + cs.length ≤ p + 1)) := by
  have hn := hT.1
  have h0 := h
  obtain ⟨a1, a2, a3, a4, a5, a6, a7⟩ := h
  have h101 : gI V m 101 = (o : Int) := a5.2.2.2.1
  by_cases c : 6 ≤ o
  · simp only [if_pos c]
    obtain ⟨V', e1, k1, r1⟩ := r_fail (G := G) (T := T) a2 (k := 4) (w := pl) ⟨by decide, by decide⟩
    have e2 := e1
    unfold F_X10_fail at e2
    rw [gd_p (show rg (gI V m 5) by rw [a2]; decide), if_pos a2] at e2
    have eV : V' = sI (sI V m 5 4) m 6 pl := (congrArg Prod.fst (Option.some.inj e2)).symm
    refine ⟨V', ?_, k1.B, by rw [eV, gI_sI, if_neg (by omega), gI_sI, if_neg (by omega)], by rw [eV, gI_sI, if_neg (by omega), gI_sI, if_neg (by omega)], by rw [k1.1], h0.x k1 r1⟩
    unfold F_X10_qOpens
    exact E_gd (by rw [a2]; decide) (E_if (fun _ => E_gd (by rw [h101]; exact ⟨by omega, by omega⟩) (E_if (fun _ => E_bd e1 rfl) (fun q => by omega))) (fun q => absurd a2 q))
  · simp only [if_neg c]
    have q1 : pq (sI V m 101 (gI V m 101 + 1)) m (S ++ B) B.length ((o + 1 : Nat) : Int) cs := by
      rw [h101]; exact p_oi a5
    obtain ⟨q2, k2⟩ := p_push q1 (v := v) (by omega) (by omega)
    obtain ⟨U, hU⟩ : ∃ U, U = sI (sA (sI V m 101 (gI V m 101 + 1)) (m + 69) (gI (sI V m 101 (gI V m 101 + 1)) m 100).toNat v) m 100 (gI (sA (sI V m 101 (gI V m 101 + 1)) (m + 69) (gI (sI V m 101 (gI V m 101 + 1)) m 100).toNat v) m 100 + 1) := ⟨_, rfl⟩
    rw [← hU] at q2 k2
    have k3 : rqF m V U := (rqF_sI (by omega)).trans k2
    have g100 : gI (sI V m 101 (gI V m 101 + 1)) m 100 = ((S ++ B).length : Int) := q1.1
    refine ⟨U, ?_, k3.B, k3.i (by decide), k3.i (by decide), k3.2.2.1 _ (by omega) (by omega), a1.pq k3, by rw [k3.i (by decide)]; exact a2, by rw [k3.i (by decide)]; exact a3, a4.pq k3, q2, ⟨?_, by omega⟩, ?_⟩
    · unfold F_X10_qOpens
      rw [hU]
      exact E_gd (by rw [a2]; decide) (E_if (fun _ => E_gd (by rw [h101]; exact ⟨by omega, by omega⟩) (E_if (fun q => by omega) (fun _ => E_lt (E_gd (by rw [g100]; omega) (E_lt (E_lt rfl)))))) (fun q => absurd a2 q))
    · show (if 12 ≤ v then 1 else 0) + opn (S ++ B) ≤ o + 1
      rw [if_pos hv.1]; omega
    · rw [List.cons_append, List.length_cons]; omega
theorem wfa_inv : ∀ w : Fin 33, 0 ≤ wfa (w.val : Int) → awk (58 + (wfa (w.val : Int)).toNat) = w.val := by decide +kernel
/-- the word of a part -/
theorem r_askw (hT : tOk T) (hG : is10 G m) (hw : rWd V m) (h : rA V m T p) (h0 : gI V m 5 = 0) {x : Int} (hx : 0 ≤ x ∧ x ≤ 9) (hn : wfa (nmT T p) = x) : ∃ V', F_X10_qAsksWord G m x V = some (V', 0) ∧ rLk m V V' ∧ rs10 V' m T (.inr (nxT T p)) := by
  have nn : 0 ≤ nmT T p ∧ nmT T p < 33 := by
    rcases nm_rg (T := T) (p := p) with z | z
    · rw [z] at hn
      have : wfa (-1) = -1 := by decide
      omega
    · exact ⟨z.1, z.2.1⟩
  have iv := wfa_inv ⟨(nmT T p).toNat, by omega⟩
  simp only [Int.toNat_of_nonneg nn.1] at iv
  rw [hn] at iv
  have iv' := iv hx.1
  have go : ∀ k : Nat, k = 58 + x.toNat → ∃ V', F_X10_asks G m (m + k) V = some (V', 0) ∧ rLk m V V' ∧ rs10 V' m T (.inr (nxT T p)) := by
    intro k hk
    have hkw : isW k := by unfold isW; omega
    have h33 : awk k < 33 := awk_len ⟨k, by omega⟩
    obtain ⟨V', e, a, b⟩ := r_asks (G := G) hT h33 (qG_w hG k hkw) (hw k hkw) h h0
    unfold nWd at b
    rw [if_pos (by rw [hk, iv']; omega)] at b
    exact ⟨V', e, a, b⟩
  unfold F_X10_qAsksWord
  have hr : rg x := ⟨by omega, by omega⟩
  by_cases x0 : x = 0
  · obtain ⟨V', e, a, b⟩ := go 58 (by omega)
    exact ⟨V', E_gd hr ((if_pos x0).trans (E_bd e rfl)), a, b⟩
  by_cases x1 : x = 1
  · obtain ⟨V', e, a, b⟩ := go 59 (by omega)
    exact ⟨V', E_gd hr (by rw [if_neg x0, if_pos x1]; exact E_bd e rfl), a, b⟩
  by_cases x2 : x = 2
  · obtain ⟨V', e, a, b⟩ := go 60 (by omega)
    exact ⟨V', E_gd hr (by rw [if_neg x0, if_neg x1, if_pos x2]; exact E_bd e rfl), a, b⟩
  by_cases x3 : x = 3
  · obtain ⟨V', e, a, b⟩ := go 61 (by omega)
    exact ⟨V', E_gd hr (by rw [if_neg x0, if_neg x1, if_neg x2, if_pos x3]; exact E_bd e rfl), a, b⟩
  by_cases x4 : x = 4
  · obtain ⟨V', e, a, b⟩ := go 62 (by omega)
    exact ⟨V', E_gd hr (by rw [if_neg x0, if_neg x1, if_neg x2, if_neg x3, if_pos x4]; exact E_bd e rfl), a, b⟩
  by_cases x5 : x = 5
  · obtain ⟨V', e, a, b⟩ := go 63 (by omega)
    exact ⟨V', E_gd hr (by rw [if_neg x0, if_neg x1, if_neg x2, if_neg x3, if_neg x4, if_pos x5]; exact E_bd e rfl), a, b⟩
  by_cases x6 : x = 6
  · obtain ⟨V', e, a, b⟩ := go 64 (by omega)
    exact ⟨V', E_gd hr (by rw [if_neg x0, if_neg x1, if_neg x2, if_neg x3, if_neg x4, if_neg x5, if_pos x6]; exact E_bd e rfl), a, b⟩
  by_cases x7 : x = 7
  · obtain ⟨V', e, a, b⟩ := go 65 (by omega)
    exact ⟨V', E_gd hr (by rw [if_neg x0, if_neg x1, if_neg x2, if_neg x3, if_neg x4, if_neg x5, if_neg x6, if_pos x7]; exact E_bd e rfl), a, b⟩
  by_cases x8 : x = 8
  · obtain ⟨V', e, a, b⟩ := go 66 (by omega)
    exact ⟨V', E_gd hr (by rw [if_neg x0, if_neg x1, if_neg x2, if_neg x3, if_neg x4, if_neg x5, if_neg x6, if_neg x7, if_pos x8]; exact E_bd e rfl), a, b⟩
  obtain ⟨V', e, a, b⟩ := go 67 (by omega)
  exact ⟨V', E_gd hr (by rw [if_neg x0, if_neg x1, if_neg x2, if_neg x3, if_neg x4, if_neg x5, if_neg x6, if_neg x7, if_neg x8, if_pos (show x = 9 by omega)]; exact E_bd e rfl), a, b⟩
/-- one step further, behind a sign that was looked at -/
theorem rA_at {hp : p < T.2} (h : rA V m T p) (h2 : gI V m 2 = (p : Int)) (hL : ¬ isL (T.1 p) = true) (hD : ¬ isD (T.1 p) = true) : rA (sI V m 2 (gI V m 2 + 1)) m T (nxT T p) :=
  rA_sg h (rLk_sI (by omega)) hp hL hD (by rw [gI_sI, if_pos ⟨rfl, rfl⟩, h2]; omega) (by rw [gI_sI, if_neg (by omega)])
end

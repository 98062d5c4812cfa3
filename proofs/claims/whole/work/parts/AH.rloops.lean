/-! what the reference's pile drops, loop by loop -/
def opn : List Int → Nat
  | [] => 0
  | a :: S => (if 12 ≤ a then 1 else 0) + opn S
theorem opn_app : ∀ {S B : List Int}, opn (S ++ B) = opn S + opn B
  | [], B => by show opn B = 0 + opn B; omega
  | a :: S, B => by
    show (if 12 ≤ a then 1 else 0) + opn (S ++ B) = (if 12 ≤ a then 1 else 0) + opn S + opn B
    rw [opn_app]; omega
section
variable {G : mG} {V V' : mV} {m : Nat} {W S B cs : List Int} {bs o : Nat} {oi : Int} {a v : Int}
theorem hdI_app {x : Int} (hx : 1 ≤ x) (h : S = [] ∨ ∃ a S', S = a :: S' ∧ a ≠ x) (hB : hd B (fun a => a ≠ x)) : hdI (S ++ B) ≠ x := by
  rcases h with rfl | ⟨a, S', rfl, ha⟩
  · cases B with
    | nil => show (0 : Int) ≠ x; omega
    | cons b B => exact hB b B rfl
  · exact ha
theorem p_dtb (h5 : gI V m 5 = 0) (h : pq V m (S ++ B) B.length oi cs) : ∃ V', F_X10_qDropsToBracket G m V = some (V', 0) ∧ rqF m V V' ∧ pq V' m ((dtb S cs).1 ++ B) B.length oi (dtb S cs).2 := by
  have hl : (S ++ B).length = S.length + B.length := List.length_append
  have h8 := h.2.2.2.2.2.2.2
  have key := p_loop (m := m) (B := B) (bs := B.length) (oi := oi) (d := fun a => decide (¬ (20 ≤ a ∧ a ≤ 24))) (Bd := fun (_ : Unit) V => B_X10_qDropsToBracket_0 G m V) ?_ ?_ S cs V FU (by unfold FU; omega) h5 h
  · obtain ⟨V', e, k, q⟩ := key
    rw [← dtb_dp] at q
    refine ⟨V', ?_, k, q⟩
    unfold F_X10_qDropsToBracket
    exact E_bd e rfl
  · intro V cs S h h5 hc
    show B_X10_qDropsToBracket_0 G m V = _
    have a1 := h.1
    have a3 := h.2.2.1
    have hl : (S ++ B).length = S.length + B.length := List.length_append
    have h8 := h.2.2.2.2.2.2.2
    unfold B_X10_qDropsToBracket_0
    rw [a1, a3]
    refine E_gd ⟨by omega, by omega⟩ (E_gd ⟨by omega, by omega⟩ (E_if (fun _ => rfl) (fun q => ?_)))
    rcases hc with rfl | ⟨a, S', rfl, ha⟩
    · rw [List.nil_append] at q; omega
    · obtain ⟨t1, t2, t3, t4⟩ := p_top (a := a) (W := S' ++ B) h
      have b : 20 ≤ a ∧ a ≤ 24 := by
        have := of_decide_eq_false ha
        omega
      have e := p_isB (G := G) (V := V) (x := a) ⟨by omega, by omega⟩
      rw [if_pos b] at e
      rw [← a1, show (gI V m 100 - 1).toNat = (S' ++ B).length by omega, t2]
      exact E_gd ⟨by omega, by omega, by omega⟩ (E_bd e (E_gd (by decide) (E_if (fun q => absurd q (by decide)) (fun _ => rfl))))
  · intro V cs a S' h h5 ha
    obtain ⟨t1, t2, t3, t4⟩ := p_top h
    obtain ⟨V', e, k, q⟩ := p_drops (G := G) h
    refine ⟨V', ?_, k, q⟩
    show B_X10_qDropsToBracket_0 G m V = _
    have b : ¬ (20 ≤ a ∧ a ≤ 24) := of_decide_eq_true ha
    have e2 := p_isB (G := G) (V := V) (x := a) ⟨by omega, by omega⟩
    rw [if_neg b] at e2
    have a3 := h.2.2.1
    have hl : (S' ++ B).length = S'.length + B.length := List.length_append
    unfold B_X10_qDropsToBracket_0
    rw [a3]
    refine E_gd ⟨by omega, by omega⟩ (E_gd ⟨by omega, by omega⟩ (E_if (fun q => by omega) (fun _ => E_gd ⟨by omega, by omega, by omega⟩ ?_)))
    rw [show (gI V m 100 - 1).toNat = (S' ++ B).length by omega, t2]
    exact E_bd e2 (E_gd (by decide) (E_if (fun _ => E_bd e rfl) (fun q => absurd rfl q)))
theorem p_dm {x : Int} (hB : hd B (fun a => a ≠ 3 ∧ a ≠ 4)) (h5 : gI V m 5 = 0) (h : pq V m (S ++ B) bs oi cs) : ∃ V', lp (fun (_ : Unit) V => B_X10_qGoesOn_162 G m x V) FU () V = some (V', 1, ()) ∧ rqF m V V' ∧ pq V' m ((dpm S cs).1 ++ B) bs oi (dpm S cs).2 := by
  have hl : (S ++ B).length = S.length + B.length := List.length_append
  have h8 := h.2.2.2.2.2.2.2
  rw [dpm_dp]
  refine p_loop (d := fun a => decide (a = 3 ∨ a = 4)) ?_ ?_ S cs V FU (by unfold FU; omega) h5 h
  · intro V cs S h h5 hc
    show B_X10_qGoesOn_162 G m x V = _
    have c3 := hdI_app (x := 3) (S := S) (B := B) (by decide) (hc.imp id (fun ⟨a, S', e, ha⟩ => ⟨a, S', e, fun z => of_decide_eq_false ha (Or.inl z)⟩)) (hd_m hB (fun a q => q.1))
    have c4 := hdI_app (x := 4) (S := S) (B := B) (by decide) (hc.imp id (fun ⟨a, S', e, ha⟩ => ⟨a, S', e, fun z => of_decide_eq_false ha (Or.inr z)⟩)) (hd_m hB (fun a q => q.2))
    have e3 := p_isOn (G := G) (x := 3) (by decide) h
    have e4 := p_isOn (G := G) (x := 4) (by decide) h
    rw [if_neg c3] at e3
    rw [if_neg c4] at e4
    unfold B_X10_qGoesOn_162
    exact E_bd e3 (E_gd (by decide) (E_if (fun _ => E_bd e4 (E_gd (by decide) (E_if (fun _ => rfl) (fun q => absurd rfl q)))) (fun q => absurd rfl q)))
  · intro V cs a S' h h5 ha
    obtain ⟨V', e, k, q⟩ := p_drops (G := G) h
    refine ⟨V', ?_, k, q⟩
    show B_X10_qGoesOn_162 G m x V = _
    have e3 := p_isOn (G := G) (x := 3) (by decide) h
    have e4 := p_isOn (G := G) (x := 4) (by decide) h
    unfold B_X10_qGoesOn_162
    rcases of_decide_eq_true ha with z | z
    · rw [if_pos (show hdI (a :: (S' ++ B)) = 3 from z)] at e3
      exact E_bd e3 (E_gd (by decide) (E_if (fun q => absurd q (by decide)) (fun _ => E_bd e rfl)))
    · rw [if_neg (show ¬ hdI (a :: (S' ++ B)) = 3 from fun w => by have w' : a = 3 := w; omega)] at e3
      rw [if_pos (show hdI (a :: (S' ++ B)) = 4 from z)] at e4
      exact E_bd e3 (E_gd (by decide) (E_if (fun _ => E_bd e4 (E_gd (by decide) (E_if (fun q => absurd q (by decide)) (fun _ => E_bd e rfl)))) (fun q => absurd rfl q)))
theorem p_da {x : Int} (hB : hd B (fun a => ¬ (1 ≤ a ∧ a ≤ 4))) (h5 : gI V m 5 = 0) (h : pq V m (S ++ B) bs oi cs) : ∃ V', lp (fun (_ : Unit) V => B_X10_qGoesOn_247 G m x V) FU () V = some (V', 1, ()) ∧ rqF m V V' ∧ pq V' m ((dpa S cs).1 ++ B) bs oi (dpa S cs).2 := by
  have hl : (S ++ B).length = S.length + B.length := List.length_append
  have h8 := h.2.2.2.2.2.2.2
  rw [dpa_dp]
  refine p_loop (d := fun a => decide (1 ≤ a ∧ a ≤ 4)) ?_ ?_ S cs V FU (by unfold FU; omega) h5 h
  · intro V cs S h h5 hc
    show B_X10_qGoesOn_247 G m x V = _
    have c : ∀ x : Int, 1 ≤ x → x ≤ 4 → F_X10_qIsOn G m x V = some (V, 0) := by
      intro x x1 x4
      have c := hdI_app (x := x) (S := S) (B := B) x1 (hc.imp id (fun ⟨a, S', e, ha⟩ => ⟨a, S', e, fun z => of_decide_eq_false ha (by omega)⟩)) (hd_m hB (fun a q => by omega))
      have e := p_isOn (G := G) (x := x) (by omega) h
      rw [if_neg c] at e
      exact e
    unfold B_X10_qGoesOn_247
    exact E_bd (c 3 (by decide) (by decide)) (E_gd (by decide) (E_if (fun _ => E_bd (c 4 (by decide) (by decide)) (E_gd (by decide) (E_if (fun _ => E_bd (c 1 (by decide) (by decide)) (E_gd (by decide) (E_if (fun _ => E_bd (c 2 (by decide) (by decide)) (E_gd (by decide) (E_if (fun _ => rfl) (fun q => absurd rfl q)))) (fun q => absurd rfl q)))) (fun q => absurd rfl q)))) (fun q => absurd rfl q)))
  · intro V cs a S' h h5 ha
    obtain ⟨V', e, k, q⟩ := p_drops (G := G) h
    refine ⟨V', ?_, k, q⟩
    show B_X10_qGoesOn_247 G m x V = _
    have y : ∀ x : Int, 1 ≤ x → x ≤ 4 → a = x → F_X10_qIsOn G m x V = some (V, 1) := by
      intro x x1 x4 z
      have e := p_isOn (G := G) (x := x) (by omega) h
      rw [if_pos (show hdI (a :: (S' ++ B)) = x from z)] at e
      exact e
    have n : ∀ x : Int, 1 ≤ x → x ≤ 4 → a ≠ x → F_X10_qIsOn G m x V = some (V, 0) := by
      intro x x1 x4 z
      have e := p_isOn (G := G) (x := x) (by omega) h
      rw [if_neg (show ¬ hdI (a :: (S' ++ B)) = x from z)] at e
      exact e
    have ha' := of_decide_eq_true ha
    unfold B_X10_qGoesOn_247
    by_cases a3 : a = 3
    · exact E_bd (y 3 (by decide) (by decide) a3) (E_gd (by decide) (E_if (fun q => absurd q (by decide)) (fun _ => E_bd e rfl)))
    refine E_bd (n 3 (by decide) (by decide) a3) (E_gd (by decide) (E_if (fun _ => ?_) (fun q => absurd rfl q)))
    by_cases a4 : a = 4
    · exact E_bd (y 4 (by decide) (by decide) a4) (E_gd (by decide) (E_if (fun q => absurd q (by decide)) (fun _ => E_bd e rfl)))
    refine E_bd (n 4 (by decide) (by decide) a4) (E_gd (by decide) (E_if (fun _ => ?_) (fun q => absurd rfl q)))
    by_cases a1 : a = 1
    · exact E_bd (y 1 (by decide) (by decide) a1) (E_gd (by decide) (E_if (fun q => absurd q (by decide)) (fun _ => E_bd e rfl)))
    refine E_bd (n 1 (by decide) (by decide) a1) (E_gd (by decide) (E_if (fun _ => ?_) (fun q => absurd rfl q)))
    exact E_bd (y 2 (by decide) (by decide) (by omega)) (E_gd (by decide) (E_if (fun q => absurd q (by decide)) (fun _ => E_bd e rfl)))
/-- parts of numbers end -/
theorem p_enp : ∀ (S cs : List Int) (o : Nat) (V : mV) (fu : Nat), S.length < fu → gI V m 5 = 0 → opn S ≤ o → pq V m (S ++ B) B.length (o : Int) cs → ∃ V', lp (fun (_ : Unit) V => B_X10_qEndsPart_0 G m V) fu () V = some (V', 1, ()) ∧ rqF m V V' ∧ pq V' m ((enp S o cs).1 ++ B) B.length ((enp S o cs).2.1 : Int) (enp S o cs).2.2 := by
  intro S
  induction S with
  | nil =>
    intro cs o V fu hf h5 ho h
    refine ⟨V, lp_stop (q := (1, ())) ?_ Nat.one_ne_zero hf, rqF_refl, h⟩
    show B_X10_qEndsPart_0 G m V = _
    have a1 : gI V m 100 = (B.length : Int) := h.1
    have a3 := h.2.2.1
    have h8 := h.2.2.2.2.2.2.2
    rw [List.nil_append] at h8
    unfold B_X10_qEndsPart_0
    rw [a1, a3]
    exact E_gd (by rw [h5]; decide) (E_if (fun _ => E_gd ⟨by omega, by omega⟩ (E_gd ⟨by omega, by omega⟩ (E_if (fun _ => rfl) (fun q => absurd (Int.le_refl _) q)))) (fun q => absurd h5 q))
  | cons a S ih =>
    intro cs o V fu hf h5 ho h
    obtain ⟨t1, t2, t3, t4⟩ := p_top (a := a) (W := S ++ B) h
    have a3 := h.2.2.1
    have hl : (S ++ B).length = S.length + B.length := List.length_append
    by_cases c : 60 ≤ a
    · obtain ⟨fu, rfl⟩ : ∃ j, fu = j + 1 := ⟨fu - 1, by omega⟩
      have ho' : opn (a :: S) = 1 + opn S := by
        show (if 12 ≤ a then 1 else 0) + opn S = _
        rw [if_pos (by omega)]
      have h1 : pq (sI V m 101 (gI V m 101 - 1)) m (a :: (S ++ B)) B.length ((o - 1 : Nat) : Int) cs := by
        have := p_oi (x := ((o - 1 : Nat) : Int)) (h : pq V m (a :: (S ++ B)) B.length (o : Int) cs)
        rw [show gI V m 101 - 1 = ((o - 1 : Nat) : Int) by rw [h.2.2.2.1]; omega]
        exact this
      obtain ⟨V1, e1, k1, q1⟩ := p_drops (G := G) h1
      have k2 : rqF m V V1 := (rqF_sI (by omega)).trans k1
      rw [List.length_cons] at hf
      obtain ⟨V2, e2, k3, q2⟩ := ih (cs ++ [a]) (o - 1) V1 fu (by omega) (by rw [k2.i (by decide)]; exact h5) (by omega) q1
      rw [show enp (a :: S) o cs = enp S (o - 1) (cs ++ [a]) from if_pos c]
      refine ⟨V2, ?_, k2.trans k3, q2⟩
      rw [← e2]
      refine lp_more ?_
      show B_X10_qEndsPart_0 G m V = _
      unfold B_X10_qEndsPart_0
      refine E_gd (by rw [h5]; decide) (E_if (fun _ => E_gd ⟨by omega, by omega⟩ (E_gd ⟨by omega, by omega⟩ (E_if (fun q => by omega) (fun _ => E_gd ⟨by omega, by omega, by omega⟩ ?_)))) (fun q => absurd h5 q))
      rw [show (gI V m 100 - 1).toNat = (S ++ B).length by omega, t2]
      exact E_gd ⟨by omega, by omega⟩ (E_if (fun q => by omega) (fun _ => E_lt (E_bd e1 rfl)))
    · rw [show enp (a :: S) o cs = (a :: S, o, cs) from if_neg c]
      refine ⟨V, lp_stop (q := (1, ())) ?_ Nat.one_ne_zero (by omega), rqF_refl, h⟩
      show B_X10_qEndsPart_0 G m V = _
      unfold B_X10_qEndsPart_0
      refine E_gd (by rw [h5]; decide) (E_if (fun _ => E_gd ⟨by omega, by omega⟩ (E_gd ⟨by omega, by omega⟩ (E_if (fun q => rfl) (fun _ => E_gd ⟨by omega, by omega, by omega⟩ ?_)))) (fun q => absurd h5 q))
      rw [show (gI V m 100 - 1).toNat = (S ++ B).length by omega, t2]
      exact E_gd ⟨by omega, by omega⟩ (E_if (fun _ => rfl) (fun q => by omega))
theorem p_ends (h5 : gI V m 5 = 0) (ho : opn S ≤ o) (h : pq V m (S ++ B) B.length (o : Int) cs) : ∃ V', F_X10_qEndsPart G m V = some (V', 0) ∧ rqF m V V' ∧ pq V' m ((enp S o cs).1 ++ B) B.length ((enp S o cs).2.1 : Int) (enp S o cs).2.2 := by
  have hl : (S ++ B).length = S.length + B.length := List.length_append
  have h8 := h.2.2.2.2.2.2.2
  obtain ⟨V', e, k, q⟩ := p_enp (G := G) S cs o V FU (by unfold FU; omega) h5 ho h
  refine ⟨V', ?_, k, q⟩
  unfold F_X10_qEndsPart
  exact E_bd e rfl
theorem p_ends1 (h0 : gI V m 5 ≠ 0) (hr : rg (gI V m 5)) : F_X10_qEndsPart G m V = some (V, 0) := by
  unfold F_X10_qEndsPart
  refine E_bd (lp_stop (q := (1, ())) ?_ Nat.one_ne_zero (by unfold FU; decide)) rfl
  show B_X10_qEndsPart_0 G m V = _
  unfold B_X10_qEndsPart_0
  exact E_gd hr (E_if (fun q => absurd q h0) (fun _ => rfl))
/-- all that is left above the base -/
theorem p_all {x : Int} (h5 : gI V m 5 = 0) (h : pq V m (S ++ B) B.length oi cs) : ∃ V', lp (fun (_ : Unit) V => B_X10_qSums_53 G m x V) FU () V = some (V', 1, ()) ∧ rqF m V V' ∧ pq V' m B B.length oi (cs ++ S) := by
  have hl : (S ++ B).length = S.length + B.length := List.length_append
  have h8 := h.2.2.2.2.2.2.2
  have key := p_loop (m := m) (B := B) (bs := B.length) (oi := oi) (d := fun _ => true) (Bd := fun (_ : Unit) V => B_X10_qSums_53 G m x V) ?_ ?_ S cs V FU (by unfold FU; omega) h5 h
  · rw [← all_dp] at key
    exact key
  · intro V cs S h h5 hc
    show B_X10_qSums_53 G m x V = _
    rcases hc with rfl | ⟨a, S', rfl, ha⟩
    · have a1 : gI V m 100 = (B.length : Int) := h.1
      have a3 := h.2.2.1
      have h8 := h.2.2.2.2.2.2.2
      rw [List.nil_append] at h8
      unfold B_X10_qSums_53
      rw [a1, a3]
      exact E_gd (by rw [h5]; decide) (E_if (fun _ => E_gd ⟨by omega, by omega⟩ (E_gd ⟨by omega, by omega⟩ (E_if (fun _ => rfl) (fun q => absurd (Int.le_refl _) q)))) (fun q => absurd h5 q))
    · cases ha
  · intro V cs a S' h h5 ha
    obtain ⟨t1, t2, t3, t4⟩ := p_top h
    have a3 := h.2.2.1
    have hl : (S' ++ B).length = S'.length + B.length := List.length_append
    obtain ⟨V', e, k, q⟩ := p_drops (G := G) h
    refine ⟨V', ?_, k, q⟩
    show B_X10_qSums_53 G m x V = _
    unfold B_X10_qSums_53
    exact E_gd (by rw [h5]; decide) (E_if (fun _ => E_gd ⟨by omega, by omega⟩ (E_gd ⟨by omega, by omega⟩ (E_if (fun q => by omega) (fun _ => E_bd e rfl)))) (fun q => absurd h5 q))
theorem p_all1 {x : Int} (h0 : gI V m 5 ≠ 0) (hr : rg (gI V m 5)) : lp (fun (_ : Unit) V => B_X10_qSums_53 G m x V) FU () V = some (V, 1, ()) := by
  refine lp_stop (q := (1, ())) ?_ Nat.one_ne_zero (by unfold FU; decide)
  show B_X10_qSums_53 G m x V = _
  unfold B_X10_qSums_53
  exact E_gd hr (E_if (fun q => absurd q h0) (fun _ => rfl))
end

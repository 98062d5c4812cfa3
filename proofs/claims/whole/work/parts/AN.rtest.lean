/-! a test (reference): what is dropped, a fact -/
theorem dno_len : ∀ (S cs : List Int) (o : Nat), (dno S o cs).1.length + (dno S o cs).2.2.length = S.length + cs.length
  | [], _, _ => rfl
  | a :: S, cs, o => by
    unfold dno
    by_cases c : a = 12
    · rw [if_pos c, dno_len S]
      simp only [List.length_append, List.length_cons, List.length_nil]
      omega
    · rw [if_neg c]
theorem dno_opn : ∀ (S cs : List Int) (o : Nat), opn S ≤ o → opn (dno S o cs).1 ≤ (dno S o cs).2.1 ∧ (dno S o cs).2.1 ≤ o
  | [], _, o, h => ⟨h, Nat.le_refl _⟩
  | a :: S, cs, o, h => by
    unfold dno
    by_cases c : a = 12
    · rw [if_pos c]
      have e : opn (a :: S) = 1 + opn S := by
        show (if 12 ≤ a then 1 else 0) + opn S = _
        rw [if_pos (by omega)]
      have := dno_opn S (cs ++ [a]) (o - 1) (by omega)
      exact ⟨this.1, by omega⟩
    · rw [if_neg c]; exact ⟨h, Nat.le_refl _⟩
def okT (W : List Int) : Prop := ∀ a ∈ W, a = 10 ∨ a = 11 ∨ a = 12 ∨ a = 25
theorem okT_hd {W : List Int} (h : okT W) : hd W (fun a => ¬ (1 ≤ a ∧ a ≤ 4)) := fun a S' e => by
  have := h a (by rw [e]; exact List.mem_cons_self)
  omega
theorem dno_okT : ∀ (S cs : List Int) (o : Nat), okT S → okT (dno S o cs).1
  | [], _, _, h => h
  | a :: S, cs, o, h => by
    unfold dno
    by_cases c : a = 12
    · rw [if_pos c]; exact dno_okT S _ _ (fun b hb => h b (List.mem_cons_of_mem _ hb))
    · rw [if_neg c]; exact h
theorem dp_okT {d : Int → Bool} : ∀ (S cs : List Int), okT S → okT (dp d S cs).1
  | [], _, h => h
  | a :: S, cs, h => by
    unfold dp
    by_cases c : d a = true
    · rw [if_pos c]; exact dp_okT S _ (fun b hb => h b (List.mem_cons_of_mem _ hb))
    · rw [if_neg c]; exact h
theorem dsq_25 : ∀ (S cs : List Int), 25 ∈ S → ∃ S2, (dsq S cs).1 = 25 :: S2 ∧ S2.length + 1 + (dsq S cs).2.length = S.length + cs.length ∧ opn S2 + 1 ≤ opn S
  | [], _, h => absurd h List.not_mem_nil
  | a :: S, cs, h => by
    by_cases c : a = 25
    · have e2 : dsq (a :: S) cs = (a :: S, cs) := if_pos c
      rw [e2]
      refine ⟨S, by rw [c], by rw [List.length_cons], ?_⟩
      show _ ≤ (if 12 ≤ a then 1 else 0) + opn S
      rw [if_pos (by omega)]; omega
    · have e2 : dsq (a :: S) cs = dsq S (cs ++ [a]) := if_neg c
      rw [e2]
      have h' : 25 ∈ S := by
        rcases List.mem_cons.mp h with q | q
        · exact absurd q.symm c
        · exact q
      obtain ⟨S2, x1, x2, x3⟩ := dsq_25 S (cs ++ [a]) h'
      refine ⟨S2, x1, ?_, ?_⟩
      · rw [x2]
        simp only [List.length_append, List.length_cons, List.length_nil]
        omega
      · show _ ≤ (if 12 ≤ a then 1 else 0) + opn S
        omega
section
variable {G : mG} {V V' : mV} {m : Nat} {T : mT2} {md p o bs : Nat} {W S cs : List Int} {oi : Int}
theorem p_nots : ∀ (W cs : List Int) (o : Nat) (V : mV) (fu : Nat), W.length < fu → gI V m 5 = 0 → opn W ≤ o → pq V m W bs (o : Int) cs → ∃ V', lp (fun (_ : Unit) V => B_X10_qDropsNots_0 G m V) fu () V = some (V', 1, ()) ∧ rqF m V V' ∧ pq V' m (dno W o cs).1 bs ((dno W o cs).2.1 : Int) (dno W o cs).2.2 := by
  intro W
  induction W with
  | nil =>
    intro cs o V fu hf h5 ho h
    have e := p_isOn (G := G) (x := 12) (by decide) h
    rw [if_neg (show ¬ hdI [] = (12 : Int) from by decide)] at e
    refine ⟨V, lp_stop (q := (1, ())) ?_ Nat.one_ne_zero hf, rqF_refl, h⟩
    show B_X10_qDropsNots_0 G m V = _
    unfold B_X10_qDropsNots_0
    exact E_gd (by rw [h5]; decide) (E_if (fun _ => E_bd e (E_gd (by decide) (E_if (fun _ => rfl) (fun q => absurd rfl q)))) (fun q => absurd h5 q))
  | cons a S ih =>
    intro cs o V fu hf h5 ho h
    have e := p_isOn (G := G) (x := 12) (by decide) h
    by_cases c : a = 12
    · rw [if_pos (show hdI (a :: S) = 12 from c)] at e
      obtain ⟨fu, rfl⟩ : ∃ j, fu = j + 1 := ⟨fu - 1, by omega⟩
      have ho' : opn (a :: S) = 1 + opn S := by
        show (if 12 ≤ a then 1 else 0) + opn S = _
        rw [if_pos (by omega)]
      have h1 : pq (sI V m 101 (gI V m 101 - 1)) m (a :: S) bs ((o - 1 : Nat) : Int) cs := by
        have := p_oi (x := ((o - 1 : Nat) : Int)) h
        rw [show gI V m 101 - 1 = ((o - 1 : Nat) : Int) by rw [h.2.2.2.1]; omega]
        exact this
      obtain ⟨V1, e1, k1, q1⟩ := p_drops (G := G) h1
      have k2 : rqF m V V1 := (rqF_sI (by omega)).trans k1
      rw [List.length_cons] at hf
      obtain ⟨V2, e2, k3, q2⟩ := ih (cs ++ [a]) (o - 1) V1 fu (by omega) (by rw [k2.i (by decide)]; exact h5) (by omega) q1
      rw [show dno (a :: S) o cs = dno S (o - 1) (cs ++ [a]) from if_pos c]
      refine ⟨V2, ?_, k2.trans k3, q2⟩
      rw [← e2]
      refine lp_more ?_
      show B_X10_qDropsNots_0 G m V = _
      unfold B_X10_qDropsNots_0
      exact E_gd (by rw [h5]; decide) (E_if (fun _ => E_bd e (E_gd (by decide) (E_if (fun q => absurd q (by decide)) (fun _ => E_lt (E_bd e1 rfl))))) (fun q => absurd h5 q))
    · rw [if_neg (show ¬ hdI (a :: S) = 12 from c)] at e
      rw [show dno (a :: S) o cs = (a :: S, o, cs) from if_neg c]
      refine ⟨V, lp_stop (q := (1, ())) ?_ Nat.one_ne_zero (by omega), rqF_refl, h⟩
      show B_X10_qDropsNots_0 G m V = _
      unfold B_X10_qDropsNots_0
      exact E_gd (by rw [h5]; decide) (E_if (fun _ => E_bd e (E_gd (by decide) (E_if (fun _ => rfl) (fun q => absurd rfl q)))) (fun q => absurd h5 q))
/-- nots that end -/
theorem r_nots (h : rW0 V m T md W bs p o cs) (hO : okT W) : ∃ V', F_X10_qDropsNots G m V = some (V', 0) ∧ rB m V V' ∧ rW0 V' m T md (dno W o cs).1 bs p (dno W o cs).2.1 (dno W o cs).2.2 ∧ okT (dno W o cs).1 := by
  obtain ⟨a1, a2, a3, a4, a5, a6, a7⟩ := h
  have h8 := a5.2.2.2.2.2.2.2
  obtain ⟨V', e, k, q⟩ := p_nots (G := G) W cs o V FU (by unfold FU; omega) a2 a6.1 a5
  have l := dno_len W cs o
  have n := dno_opn W cs o a6.1
  refine ⟨V', ?_, k.B, ⟨a1.pq k, by rw [k.i (by decide)]; exact a2, by rw [k.i (by decide)]; exact a3, a4.pq k, q, ⟨n.1, by omega⟩, by omega⟩, dno_okT W cs o hO⟩
  unfold F_X10_qDropsNots
  exact E_bd e rfl
theorem r_nots1 (h0 : gI V m 5 ≠ 0) (hr : rg (gI V m 5)) : F_X10_qDropsNots G m V = some (V, 0) := by
  unfold F_X10_qDropsNots
  refine E_bd (lp_stop (q := (1, ())) ?_ Nat.one_ne_zero (by unfold FU; decide)) rfl
  show B_X10_qDropsNots_0 G m V = _
  unfold B_X10_qDropsNots_0
  exact E_gd hr (E_if (fun q => absurd q h0) (fun _ => rfl))
/-- a [ is open -/
theorem p_hsq (h : pq V m W bs oi cs) : F_X10_qHasSquare G m V = some (V, if 25 ∈ W then 1 else 0) := by
  obtain ⟨a1, a2, a3, a4, a5, a6, a7, a8⟩ := h
  have mem : ∀ (W : List Int) (g : Nat → Int), skp g W → (25 ∈ W ↔ ∃ j, j < W.length ∧ g j = 25) := by
    intro W g
    induction W with
    | nil => intro _; exact ⟨fun q => absurd q List.not_mem_nil, fun ⟨j, q, _⟩ => absurd q (Nat.not_lt_zero j)⟩
    | cons a W ih =>
      intro hs
      have i := ih hs.2
      constructor
      · intro q
        rcases List.mem_cons.mp q with z | z
        · exact ⟨W.length, by rw [List.length_cons]; omega, by rw [hs.1]; exact z.symm⟩
        · obtain ⟨j, j1, j2⟩ := i.mp z
          exact ⟨j, by rw [List.length_cons]; omega, j2⟩
      · rintro ⟨j, j1, j2⟩
        rw [List.length_cons] at j1
        by_cases c : j = W.length
        · rw [c, hs.1] at j2; rw [j2]; exact List.mem_cons_self
        · exact List.mem_cons_of_mem _ (i.mpr ⟨j, by omega, j2⟩)
  have rng : ∀ (W : List Int) (g : Nat → Int), skp g W → (∀ a ∈ W, 1 ≤ a ∧ a ≤ 60) → ∀ j, j < W.length → 1 ≤ g j ∧ g j ≤ 60 := by
    intro W g
    induction W with
    | nil => intro _ _ j q; exact absurd q (Nat.not_lt_zero j)
    | cons a W ih =>
      intro hs hm j j1
      rw [List.length_cons] at j1
      by_cases c : j = W.length
      · rw [c, hs.1]; exact hm a List.mem_cons_self
      · exact ih hs.2 (fun b hb => hm b (List.mem_cons_of_mem _ hb)) j (by omega)
  have main : Wp (lp (fun (s : Int) V => B_X10_qHasSquare_2 G m s V) FU 0 V) (fun U q => U = V ∧ ((q.1 = 1 ∧ 25 ∈ W) ∨ (q.1 = 2 ∧ 25 ∉ W))) := by
    refine W_lp (fun w (x : Int) U => U = V ∧ ∃ j : Nat, x = (j : Int) ∧ j + w = W.length ∧ ∀ i, i < j → gA V (m + 69) i ≠ 25) ?_ FU W.length 0 V ⟨rfl, 0, rfl, by omega, fun i hi => by omega⟩ (by unfold FU; omega)
    rintro w x U ⟨rfl, j, rfl, hj, hall⟩
    show Wp (B_X10_qHasSquare_2 G m (j : Int) U) _
    unfold B_X10_qHasSquare_2
    rw [a1, Int.toNat_natCast]
    refine W_gd ⟨by omega, by omega⟩ (W_gd ⟨by omega, by omega⟩ (W_if (fun q => W_so (Or.inr ⟨(by decide : (2 : Nat) ≠ 0), rfl, Or.inr ⟨rfl, fun z => ?_⟩⟩)) (fun q => ?_)))
    · obtain ⟨i, i1, i2⟩ := (mem W _ a2).mp z
      exact hall i (by omega) i2
    · have r := rng W _ a2 a7 j (by omega)
      refine W_gd ⟨by omega, by omega, by omega⟩ (W_gd ⟨by omega, by omega⟩ (W_if (fun y => W_so (Or.inr ⟨Nat.one_ne_zero, rfl, Or.inl ⟨rfl, (mem W _ a2).mpr ⟨j, by omega, y⟩⟩⟩)) (fun y => W_lt (W_so (Or.inl ⟨rfl, w - 1, by omega, rfl, j + 1, (by show (j : Int) + 1 = _; omega), by omega, fun i hi => ?_⟩)))))
      by_cases c : i = j
      · rw [c]; exact y
      · exact hall i (by omega)
  obtain ⟨U, q, e, rfl, hh⟩ := main
  unfold F_X10_qHasSquare
  refine E_bd e ?_
  rcases hh with ⟨t, c⟩ | ⟨t, c⟩
  · rw [if_pos t, if_pos c]
  · rw [if_neg (by omega), if_neg c]
theorem p_dsq (hm : 25 ∈ W) (h5 : gI V m 5 = 0) (h : pq V m W 0 oi cs) : ∃ V', lp (fun (_ : Unit) V => B_X10_qGoesOnTest_33 G m V) FU () V = some (V', 1, ()) ∧ rqF m V V' ∧ pq V' m (dsq W cs).1 0 oi (dsq W cs).2 := by
  have h8 := h.2.2.2.2.2.2.2
  have key : ∀ (W cs : List Int) (V : mV) (fu : Nat), 25 ∈ W → W.length < fu → pq V m W 0 oi cs → ∃ V', lp (fun (_ : Unit) V => B_X10_qGoesOnTest_33 G m V) fu () V = some (V', 1, ()) ∧ rqF m V V' ∧ pq V' m (dsq W cs).1 0 oi (dsq W cs).2 := by
    intro W
    induction W with
    | nil => intro cs V fu hm; exact absurd hm List.not_mem_nil
    | cons a W ih =>
      intro cs V fu hm hf h
      have e := p_isOn (G := G) (x := 25) (by decide) h
      by_cases c : a = 25
      · rw [if_pos (show hdI (a :: W) = 25 from c)] at e
        rw [show dsq (a :: W) cs = (a :: W, cs) from if_pos c]
        refine ⟨V, lp_stop (q := (1, ())) ?_ Nat.one_ne_zero (by omega), rqF_refl, h⟩
        show B_X10_qGoesOnTest_33 G m V = _
        unfold B_X10_qGoesOnTest_33
        exact E_bd e (E_gd (by decide) (E_if (fun q => absurd q (by decide)) (fun _ => rfl)))
      · rw [if_neg (show ¬ hdI (a :: W) = 25 from c)] at e
        obtain ⟨fu, rfl⟩ : ∃ j, fu = j + 1 := ⟨fu - 1, by omega⟩
        rw [List.length_cons] at hf
        obtain ⟨V1, e1, k1, q1⟩ := p_drops (G := G) h
        obtain ⟨V2, e2, k2, q2⟩ := ih (cs ++ [a]) V1 fu (by
          rcases List.mem_cons.mp hm with q | q
          · exact absurd q.symm c
          · exact q) (by omega) q1
        rw [show dsq (a :: W) cs = dsq W (cs ++ [a]) from if_neg c]
        refine ⟨V2, ?_, k1.trans k2, q2⟩
        rw [← e2]
        refine lp_more ?_
        show B_X10_qGoesOnTest_33 G m V = _
        unfold B_X10_qGoesOnTest_33
        exact E_bd e (E_gd (by decide) (E_if (fun _ => E_bd e1 rfl) (fun q => absurd rfl q)))
  exact key W cs V FU hm (by unfold FU; omega) h
theorem p_dan (h5 : gI V m 5 = 0) (h : pq V m W 0 oi cs) : ∃ V', lp (fun (_ : Unit) V => B_X10_qGoesOnTest_87 G m V) FU () V = some (V', 1, ()) ∧ rqF m V V' ∧ pq V' m (dan W cs).1 0 oi (dan W cs).2 := by
  have h8 := h.2.2.2.2.2.2.2
  have key := p_loop (m := m) (B := []) (bs := 0) (oi := oi) (d := fun a => decide (a = 10)) (Bd := fun (_ : Unit) V => B_X10_qGoesOnTest_87 G m V) ?_ ?_ W cs V FU (by unfold FU; omega) h5 (by rw [List.append_nil]; exact h)
  · rw [← dan_dp, List.append_nil] at key
    exact key
  · intro V cs S h h5 hc
    show B_X10_qGoesOnTest_87 G m V = _
    have c := hdI_app (x := 10) (S := S) (B := []) (by decide) (hc.imp id (fun ⟨a, S', e, ha⟩ => ⟨a, S', e, of_decide_eq_false ha⟩)) hd_n
    have e := p_isOn (G := G) (x := 10) (by decide) h
    rw [if_neg c] at e
    unfold B_X10_qGoesOnTest_87
    exact E_bd e (E_gd (by decide) (E_if (fun _ => rfl) (fun q => absurd rfl q)))
  · intro V cs a S' h h5 ha
    obtain ⟨V', e, k, q⟩ := p_drops (G := G) h
    refine ⟨V', ?_, k, q⟩
    show B_X10_qGoesOnTest_87 G m V = _
    have e2 := p_isOn (G := G) (x := 10) (by decide) h
    rw [if_pos (show hdI (a :: (S' ++ [])) = 10 from of_decide_eq_true ha)] at e2
    unfold B_X10_qGoesOnTest_87
    exact E_bd e2 (E_gd (by decide) (E_if (fun q => absurd q (by decide)) (fun _ => E_bd e rfl)))
theorem p_dor (h5 : gI V m 5 = 0) (h : pq V m W 0 oi cs) : ∃ V', lp (fun (_ : Unit) V => B_X10_qGoesOnTest_137 G m V) FU () V = some (V', 1, ()) ∧ rqF m V V' ∧ pq V' m (dor W cs).1 0 oi (dor W cs).2 := by
  have h8 := h.2.2.2.2.2.2.2
  have key := p_loop (m := m) (B := []) (bs := 0) (oi := oi) (d := fun a => decide (a = 10 ∨ a = 11)) (Bd := fun (_ : Unit) V => B_X10_qGoesOnTest_137 G m V) ?_ ?_ W cs V FU (by unfold FU; omega) h5 (by rw [List.append_nil]; exact h)
  · rw [← dor_dp, List.append_nil] at key
    exact key
  · intro V cs S h h5 hc
    show B_X10_qGoesOnTest_137 G m V = _
    have c1 := hdI_app (x := 10) (S := S) (B := []) (by decide) (hc.imp id (fun ⟨a, S', e, ha⟩ => ⟨a, S', e, fun z => of_decide_eq_false ha (Or.inl z)⟩)) hd_n
    have c2 := hdI_app (x := 11) (S := S) (B := []) (by decide) (hc.imp id (fun ⟨a, S', e, ha⟩ => ⟨a, S', e, fun z => of_decide_eq_false ha (Or.inr z)⟩)) hd_n
    have e1 := p_isOn (G := G) (x := 10) (by decide) h
    have e2 := p_isOn (G := G) (x := 11) (by decide) h
    rw [if_neg c1] at e1
    rw [if_neg c2] at e2
    unfold B_X10_qGoesOnTest_137
    exact E_bd e1 (E_gd (by decide) (E_if (fun _ => E_bd e2 (E_gd (by decide) (E_if (fun _ => rfl) (fun q => absurd rfl q)))) (fun q => absurd rfl q)))
  · intro V cs a S' h h5 ha
    obtain ⟨V', e, k, q⟩ := p_drops (G := G) h
    refine ⟨V', ?_, k, q⟩
    show B_X10_qGoesOnTest_137 G m V = _
    have e1 := p_isOn (G := G) (x := 10) (by decide) h
    have e2 := p_isOn (G := G) (x := 11) (by decide) h
    unfold B_X10_qGoesOnTest_137
    rcases of_decide_eq_true ha with z | z
    · rw [if_pos (show hdI (a :: (S' ++ [])) = 10 from z)] at e1
      exact E_bd e1 (E_gd (by decide) (E_if (fun q => absurd q (by decide)) (fun _ => E_bd e rfl)))
    · rw [if_neg (show ¬ hdI (a :: (S' ++ [])) = 10 from fun w => by have w' : a = 10 := w; omega)] at e1
      rw [if_pos (show hdI (a :: (S' ++ [])) = 11 from z)] at e2
      exact E_bd e1 (E_gd (by decide) (E_if (fun _ => E_bd e2 (E_gd (by decide) (E_if (fun q => absurd q (by decide)) (fun _ => E_bd e rfl)))) (fun q => absurd rfl q)))
theorem p_all0 (h5 : gI V m 5 = 0) (h : pq V m W 0 oi cs) : ∃ V', lp (fun (_ : Unit) V => B_X10_qTest_110 G m V) FU () V = some (V', 1, ()) ∧ rqF m V V' ∧ pq V' m [] 0 oi (cs ++ W) := by
  have h8 := h.2.2.2.2.2.2.2
  have key := p_loop (m := m) (B := []) (bs := 0) (oi := oi) (d := fun _ => true) (Bd := fun (_ : Unit) V => B_X10_qTest_110 G m V) ?_ ?_ W cs V FU (by unfold FU; omega) h5 (by rw [List.append_nil]; exact h)
  · rw [← all_dp] at key
    exact key
  · intro V cs S h h5 hc
    show B_X10_qTest_110 G m V = _
    rcases hc with rfl | ⟨a, S', rfl, ha⟩
    · have a1 : gI V m 100 = 0 := h.1
      unfold B_X10_qTest_110
      exact E_gd (by rw [h5]; decide) (E_if (fun _ => E_gd (by rw [a1]; decide) (E_if (fun _ => rfl) (fun q => by omega))) (fun q => absurd h5 q))
    · cases ha
  · intro V cs a S' h h5 ha
    obtain ⟨t1, t2, t3, t4⟩ := p_top h
    obtain ⟨V', e, k, q⟩ := p_drops (G := G) h
    refine ⟨V', ?_, k, q⟩
    show B_X10_qTest_110 G m V = _
    unfold B_X10_qTest_110
    exact E_gd (by rw [h5]; decide) (E_if (fun _ => E_gd ⟨by omega, by omega⟩ (E_if (fun q => by omega) (fun _ => E_bd e rfl))) (fun q => absurd h5 q))
theorem p_all01 (h0 : gI V m 5 ≠ 0) (hr : rg (gI V m 5)) : lp (fun (_ : Unit) V => B_X10_qTest_110 G m V) FU () V = some (V, 1, ()) := by
  refine lp_stop (q := (1, ())) ?_ Nat.one_ne_zero (by unfold FU; decide)
  show B_X10_qTest_110 G m V = _
  unfold B_X10_qTest_110
  exact E_gd hr (E_if (fun q => absurd q h0) (fun _ => rfl))
end

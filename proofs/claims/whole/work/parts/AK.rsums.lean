/-! a part told, the whole of it (reference) -/
theorem enp_len : ∀ (S cs : List Int) (o : Nat), (enp S o cs).1.length + (enp S o cs).2.2.length = S.length + cs.length
  | [], _, _ => rfl
  | a :: S, cs, o => by
    unfold enp
    by_cases c : 60 ≤ a
    · rw [if_pos c, enp_len S]
      simp only [List.length_append, List.length_cons, List.length_nil]
      omega
    · rw [if_neg c]
theorem enp_opn : ∀ (S cs : List Int) (o b : Nat), opn S + b ≤ o → opn (enp S o cs).1 + b ≤ (enp S o cs).2.1 ∧ (enp S o cs).2.1 ≤ o
  | [], _, o, b, h => ⟨h, Nat.le_refl _⟩
  | a :: S, cs, o, b, h => by
    unfold enp
    by_cases c : 60 ≤ a
    · rw [if_pos c]
      have e : opn (a :: S) = 1 + opn S := by
        show (if 12 ≤ a then 1 else 0) + opn S = _
        rw [if_pos (by omega)]
      have := enp_opn S (cs ++ [a]) (o - 1) b (by omega)
      exact ⟨this.1, by omega⟩
    · rw [if_neg c]; exact ⟨h, Nat.le_refl _⟩
theorem dp_len {d : Int → Bool} : ∀ (S cs : List Int), (dp d S cs).1.length + (dp d S cs).2.length = S.length + cs.length
  | [], _ => rfl
  | a :: S, cs => by
    unfold dp
    by_cases c : d a = true
    · rw [if_pos c, dp_len S]
      simp only [List.length_append, List.length_cons, List.length_nil]
      omega
    · rw [if_neg c]
theorem dp_opn {d : Int → Bool} : ∀ (S cs : List Int), opn (dp d S cs).1 ≤ opn S
  | [], _ => Nat.le_refl _
  | a :: S, cs => by
    unfold dp
    by_cases c : d a = true
    · rw [if_pos c]
      have := dp_opn (d := d) S (cs ++ [a])
      show _ ≤ (if 12 ≤ a then 1 else 0) + opn S
      omega
    · rw [if_neg c]; exact Nat.le_refl _
theorem brk_v : ∀ (S : List Int), brk S = -1 ∨ (20 ≤ brk S ∧ brk S ≤ 24)
  | [] => Or.inl rfl
  | a :: S => by
    unfold brk
    by_cases c : 20 ≤ a ∧ a ≤ 24
    · rw [if_pos c]; exact Or.inr c
    · rw [if_neg c]; exact brk_v S
theorem dtb_brk : ∀ (S cs : List Int), brk S ≠ -1 → ∃ S2, (dtb S cs).1 = brk S :: S2 ∧ S2.length + 1 + (dtb S cs).2.length = S.length + cs.length ∧ opn S2 + 1 ≤ opn S
  | [], _, h => absurd rfl h
  | a :: S, cs, h => by
    by_cases c : 20 ≤ a ∧ a ≤ 24
    · have e1 : brk (a :: S) = a := if_pos c
      have e2 : dtb (a :: S) cs = (a :: S, cs) := if_pos c
      rw [e1, e2]
      refine ⟨S, rfl, by rw [List.length_cons], ?_⟩
      show _ ≤ (if 12 ≤ a then 1 else 0) + opn S
      rw [if_pos (by omega)]; omega
    · have e1 : brk (a :: S) = brk S := if_neg c
      have e2 : dtb (a :: S) cs = dtb S (cs ++ [a]) := if_neg c
      rw [e1] at h ⊢
      rw [e2]
      obtain ⟨S2, x1, x2, x3⟩ := dtb_brk S (cs ++ [a]) h
      refine ⟨S2, x1, ?_, ?_⟩
      · rw [x2]
        simp only [List.length_append, List.length_cons, List.length_nil]
        omega
      · show _ ≤ (if 12 ≤ a then 1 else 0) + opn S
        omega
section
variable {G : mG} {V V' : mV} {m : Nat} {T : mT2} {md p o : Nat} {S B cs : List Int} {res : tR}
/-- a code told, then what ends with it -/
theorem r_j237 (h : rR V m T md B p S o cs) {q : Nat} (hq : (S ++ B).length + cs.length + 1 ≤ q) (hp : p ≤ q) (hT : tOk T) (hqn : q ≤ T.2) (ra : rA V m T q) {v : Int} : ∃ V', F_X10_qPartTold_J237 G m v V = some (V', 0) ∧ rB m V V' ∧ rR V' m T md B q (enp S o (cs ++ [v])).1 (enp S o (cs ++ [v])).2.1 (enp S o (cs ++ [v])).2.2 := by
  have hn := hT.1
  obtain ⟨a1, a2, a3, a4, a5, a6, a7⟩ := h
  have hl : (S ++ B).length = S.length + B.length := List.length_append
  have ho := opn_app (S := S) (B := B)
  obtain ⟨V1, e1, k1, q1⟩ := p_code (G := G) (v := v) a5 (by omega)
  obtain ⟨V2, e2, k2, q2⟩ := p_ends (G := G) (by rw [k1.i (by decide)]; exact a2) (by omega) q1
  have kk := k1.trans k2
  have el := enp_len S (cs ++ [v]) o
  have eo := enp_opn S (cs ++ [v]) o (opn B) (by omega)
  have ea := opn_app (S := (enp S o (cs ++ [v])).1) (B := B)
  refine ⟨V2, ?_, kk.B, ra.pq kk, by rw [kk.i (by decide)]; exact a2, by rw [kk.i (by decide)]; exact a3, a4.pq kk, q2, by omega, ?_⟩
  · unfold F_X10_qPartTold_J237
    exact E_bd e1 (E_bd e2 rfl)
  · rw [List.length_append]
    rw [List.length_append] at el
    have : ([v] : List Int).length = 1 := rfl
    omega
theorem r_part (hT : tOk T) (hG : is10 G m) (hmd : md ≤ 3) (h : rR V m T md B p S o cs) (g : Go (stG (kT md T)) (true, p, S, o, cs) res) :
    ∃ V', F_X10_qPartTold G m V = some (V', 0) ∧ rB m V V' ∧ ((∃ e, res = .inl e ∧ rX V' m e 1) ∨ ∃ p' S' o' cs', p < p' ∧ rR V' m T md B p' S' o' cs' ∧ Go (stG (kT md T)) (false, p', S', o', cs') res) := by
  have hn := hT.1
  have main : Wp (lp (fun (s : Int) V => B_X10_qPartTold_2 G m s V) FU 1 V) (fun U _ => rB m V U ∧ ((∃ e, res = .inl e ∧ rX U m e 0) ∨ ∃ p' S' o' cs', p ≤ p' ∧ rR U m T md B p' S' o' cs' ∧ Go (stG (kT md T)) (true, p', S', o', cs') res ∧ gI U m 2 = (p' : Int) ∧ (clT md T p' ≠ 2 ∧ clT md T p' ≠ 3 ∧ clT md T p' ≠ 4 ∧ clT md T p' ≠ 5))) := by
    refine W_lp (fun w (x : Int) U => rB m V U ∧ ((x = 1 ∧ w = 1 ∧ ∃ e, res = .inl e ∧ rX U m e 0) ∨ (x = 1 ∧ ∃ p' S' o' cs', p ≤ p' ∧ rR U m T md B p' S' o' cs' ∧ Go (stG (kT md T)) (true, p', S', o', cs') res ∧ w = T.2 - p' + 2) ∨ (x = 0 ∧ w = 1 ∧ ∃ p' S' o' cs', p ≤ p' ∧ rR U m T md B p' S' o' cs' ∧ Go (stG (kT md T)) (true, p', S', o', cs') res ∧ gI U m 2 = (p' : Int) ∧ (clT md T p' ≠ 2 ∧ clT md T p' ≠ 3 ∧ clT md T p' ≠ 4 ∧ clT md T p' ≠ 5)))) ?_ FU (T.2 - p + 2) 1 V ⟨rB_refl, Or.inr (Or.inl ⟨rfl, p, S, o, cs, Nat.le_refl _, h, g, rfl⟩)⟩ (by unfold FU; omega)
    rintro w x U ⟨kU, hU⟩
    rcases hU with ⟨rfl, rfl, e, he, hx⟩ | ⟨rfl, p', S', o', cs', hp, hr, hg, hw⟩ | ⟨rfl, rfl, hh⟩
    · refine W_of (V := U) (v := (1, 1)) ?_ (Or.inr ⟨Nat.one_ne_zero, kU, Or.inl ⟨e, he, hx⟩⟩)
      show B_X10_qPartTold_2 G m 1 U = _
      unfold B_X10_qPartTold_2
      exact E_gd (by decide) (E_if (fun q => absurd q (by decide)) (fun _ => E_gd hx.bad.2 (E_if (fun q => absurd q hx.bad.1) (fun _ => rfl))))
    · obtain ⟨U', x, e, kk, hh⟩ := r_open1 hT hG hmd hr hg
      have pn := rA_le hr.1
      refine W_of (V := U') (v := (0, x)) e (Or.inl ⟨rfl, ?_⟩)
      rcases hh with ⟨rfl, e2, he, hx⟩ | ⟨rfl, p2, S2, o2, cs2, hp2, hr2, hg2⟩ | ⟨rfl, hr2, h2, hc⟩
      · exact ⟨1, by omega, kU.trans kk, Or.inl ⟨rfl, rfl, e2, he, hx⟩⟩
      · have pn2 := rA_le hr2.1
        exact ⟨T.2 - p2 + 2, by omega, kU.trans kk, Or.inr (Or.inl ⟨rfl, p2, S2, o2, cs2, by omega, hr2, hg2, rfl⟩)⟩
      · exact ⟨1, by omega, kU.trans kk, Or.inr (Or.inr ⟨rfl, rfl, p', S', o', cs', hp, hr2, hg, h2, hc⟩)⟩
    · refine W_of (V := U) (v := (1, 0)) ?_ (Or.inr ⟨Nat.one_ne_zero, kU, Or.inr hh⟩)
      show B_X10_qPartTold_2 G m 0 U = _
      unfold B_X10_qPartTold_2
      exact E_gd (by decide) (E_if (fun _ => rfl) (fun q => absurd rfl q))
  obtain ⟨U, q, e1, kU, hU⟩ := main
  have go : ∀ V', F_X10_qPartTold_J186 G m U = some (V', 0) → F_X10_qPartTold G m V = some (V', 0) := by
    intro V' e
    unfold F_X10_qPartTold
    exact E_bd e1 e
  rcases hU with ⟨e, he, hx⟩ | ⟨p', S', o', cs', hp, hr, hg, h2, hc⟩
  · refine ⟨U, go U ?_, kU, Or.inl ⟨e, he, hx.up (by decide)⟩⟩
    unfold F_X10_qPartTold_J186
    exact E_gd hx.bad.2 (E_if (fun q => absurd q hx.bad.1) (fun _ => rfl))
  · have h5 := hr.2.1
    have w2 := r_wo2 (G := G) hT hG hr.2.2.2.1 hr.1 h5 h2 hr.2.2.1 hmd
    have ge : stG (kT md T) (true, p', S', o', cs') = stE (kT md T) p' S' o' cs' := rfl
    have kc : kcl (kT md T) p' = clT md T p' := rfl
    by_cases k6 : clT md T p' = 6
    · rw [if_pos k6] at w2
      have d1 : kdT T p' ≠ 1 := fun z => by have := cl_d1 (md := md) z; omega
      have ev : kvl (kT md T) p' = wfa (nmT T p') := by show vaT T p' = _; unfold vaT; rw [if_neg d1]
      have ww : 0 ≤ wfa (nmT T p') ∧ wfa (nmT T p') ≤ 9 := by
        rcases wfa_rg (w := nmT T p') with z | z
        · have := (cl_6.mp k6).1
          rw [z] at this; exact absurd this al_ne
        · exact z
      obtain ⟨V2, e2, k2, r2⟩ := r_askw (G := G) hT hG hr.2.2.2.1 hr.1 h5 ww rfl
      have gt := nxT_gt (clT_lt (show clT md T p' ≠ 0 by omega))
      have hr2 := hr.lk k2 r2 (by omega)
      have hl := hr.2.2.2.2.2.2
      obtain ⟨V3, e3, k3, r3⟩ := r_j237 (G := G) (v := 40 + wfa (nmT T p')) hr2 (q := nxT T p') (by omega) (Nat.le_refl _) hT gt.2 hr2.1
      have st : stE (kT md T) p' S' o' cs' = .inr (false, nxT T p', enp S' o' (cs' ++ [40 + wfa (nmT T p')])) := by
        unfold stE
        rw [if_neg (by omega), if_neg (by omega), if_neg (by omega), if_neg (by omega), if_pos (kc.trans k6), ev]
        rfl
      refine ⟨V3, go V3 ?_, (kU.trans k2.B).trans k3, Or.inr ⟨nxT T p', _, _, _, by omega, r3, Go_s (ge.trans st) hg⟩⟩
      unfold F_X10_qPartTold_J186
      refine E_gd (by rw [h5]; decide) (E_if (fun _ => E_bd w2 (E_gd ⟨by omega, by omega⟩ (E_if (fun q => by omega) (fun _ => E_bd e2 ?_)))) (fun q => absurd h5 q))
      unfold F_X10_qPartTold_J212
      exact E_gd ⟨by omega, by omega⟩ (E_if (fun q => by omega) (fun _ => e3))
    · rw [if_neg k6] at w2
      obtain ⟨V2, v, e2, k2, r2, vr, hv⟩ := r_num (G := G) hT hr.1 h5 (mx := 9999) (by decide)
      have j : ∀ V', F_X10_qPartTold_J237 G m (1000 + v) V2 = some (V', 0) → F_X10_qPartTold G m V = some (V', 0) := by
        intro V' e
        refine go V' ?_
        unfold F_X10_qPartTold_J186
        refine E_gd (by rw [h5]; decide) (E_if (fun _ => E_bd w2 (E_gd (by decide) (E_if (fun _ => ?_) (fun q => absurd rfl q)))) (fun q => absurd h5 q))
        unfold F_X10_qPartTold_J212
        exact E_gd (by decide) (E_if (fun _ => E_bd e2 e) (fun q => absurd rfl q))
      have bad : ∀ er : Int × Int, nNu T 9999 p' = .inl er → stE (kT md T) p' S' o' cs' = .inl (.inl er) → ∃ V', F_X10_qPartTold G m V = some (V', 0) ∧ rB m V V' ∧ ((∃ e, res = .inl e ∧ rX V' m e 1) ∨ ∃ p' S' o' cs', p < p' ∧ rR V' m T md B p' S' o' cs' ∧ Go (stG (kT md T)) (false, p', S', o', cs') res) := by
        intro er hn st
        rw [hn] at r2
        have x2 := hr.x k2 r2
        obtain ⟨V3, e3, k3, x3⟩ := x2.code (G := G) (v := 1000 + v) (by decide)
        refine ⟨V3, j V3 ?_, (kU.trans k2.B).trans k3.B, Or.inl ⟨er, Go_r (ge.trans st) hg, x3⟩⟩
        unfold F_X10_qPartTold_J237
        exact E_bd e3 (E_bd x3.ends rfl)
      by_cases k1 : clT md T p' = 1
      · have d1 : kdT T p' = 1 := cl_1.mp k1
        have vl := vl_1r d1
        by_cases l4 : 4 < lnT T p'
        · refine bad (1, (p' : Int) + 4) ?_ ?_
          · unfold nNu; rw [if_neg (fun z => z d1), if_pos l4]
          · unfold stE; rw [if_pos (kc.trans k1), if_pos (show 4 < kln (kT md T) p' from l4)]
        · have nn : nNu T 9999 p' = .inr (nxT T p') := by
            unfold nNu; rw [if_neg (fun z => z d1), if_neg l4, if_neg (by omega)]
          rw [nn] at r2
          have ev : kvl (kT md T) p' = vlT T p' := by show vaT T p' = _; unfold vaT; rw [if_pos d1]
          have hvv := (hv d1 (by omega)).1
          have gt := nxT_gt (clT_lt (show clT md T p' ≠ 0 by omega))
          have hr2 := hr.lk k2 r2 (by omega)
          have hl := hr.2.2.2.2.2.2
          obtain ⟨V3, e3, k3, r3⟩ := r_j237 (G := G) (v := 1000 + v) hr2 (q := nxT T p') (by omega) (Nat.le_refl _) hT gt.2 hr2.1
          have st : stE (kT md T) p' S' o' cs' = .inr (false, nxT T p', enp S' o' (cs' ++ [1000 + v])) := by
            unfold stE
            rw [if_pos (kc.trans k1), if_neg (show ¬ 4 < kln (kT md T) p' from l4), ev, hvv]
            rfl
          exact ⟨V3, j V3 e3, (kU.trans k2.B).trans k3, Or.inr ⟨nxT T p', _, _, _, by omega, r3, Go_s (ge.trans st) hg⟩⟩
      · refine bad (1, (p' : Int)) ?_ ?_
        · unfold nNu; rw [if_pos (fun z => k1 (cl_1.mpr z))]
        · unfold stE; rw [if_neg (by omega), if_neg (by omega), if_neg (by omega), if_neg (by omega), if_neg (by omega)]
end

/-! a sum (reference) -/
/-- at p, W waits above nothing or more, o are open -/
def rW0 (V : mV) (m : Nat) (T : mT2) (md : Nat) (W : List Int) (bs p o : Nat) (cs : List Int) : Prop := rA V m T p ∧ gI V m 5 = 0 ∧ gI V m 48 = (md : Int) ∧ rWd V m ∧ pq V m W bs (o : Int) cs ∧ (opn W ≤ o ∧ o ≤ 6) ∧ W.length + cs.length ≤ p
section
variable {G : mG} {V V' : mV} {m : Nat} {T : mT2} {md p o bs : Nat} {W cs : List Int}
theorem p_bs {x : Nat} {oi : Int} (h : pq V m W bs oi cs) : pq (sI V m 102 (x : Int)) m W x oi cs := by
  obtain ⟨a1, a2, a3, a4, a5, a6, a7, a8⟩ := h
  exact ⟨by rw [gI_sI, if_neg (by omega)]; exact a1, a2, by rw [gI_sI, if_pos ⟨rfl, rfl⟩], by rw [gI_sI, if_neg (by omega)]; exact a4, by rw [gI_sI, if_neg (by omega)]; exact a5, a6, a7, a8⟩
theorem r_sums (hT : tOk T) (hG : is10 G m) (hmd : md ≤ 3) (hW : hd W (fun a => ¬ (1 ≤ a ∧ a ≤ 4))) (h : rW0 V m T md W bs p o cs) :
    ∃ V', F_X10_qSums G m V = some (V', 0) ∧ rB m V V' ∧ ((∃ e, rd (kT md T) 64 3 o p = .inl e ∧ rX V' m e 1) ∨ ∃ c q, rd (kT md T) 64 3 o p = .inr (c, q) ∧ p < q ∧ rW0 V' m T md W bs q o (cs ++ c)) := by
  have hn := hT.1
  obtain ⟨a1, a2, a3, a4, a5, a6, a7⟩ := h
  have pn := rA_le a1
  obtain ⟨g1, g2⟩ := go_sum (K := kT md T) (cs := cs) okK_T hT.1 pn a6.2
  obtain ⟨res, hres, gres⟩ : ∃ res : tR, Go (stG (kT md T)) (true, p, [], o, cs) res ∧ ((∃ e, rd (kT md T) 64 3 o p = .inl e ∧ res = .inl e) ∨ ∃ c q, rd (kT md T) 64 3 o p = .inr (c, q) ∧ res = .inr (cs ++ c ++ [(o : Int)], q)) := by
    cases hR : rd (kT md T) 64 3 o p with
    | inl e => exact ⟨_, g1 e hR, Or.inl ⟨e, rfl, rfl⟩⟩
    | inr y => exact ⟨_, g2 y.1 y.2 hR, Or.inr ⟨y.1, y.2, rfl, rfl⟩⟩
  have h100 : gI V m 100 = (W.length : Int) := a5.1
  have h102 : gI V m 102 = (bs : Int) := a5.2.2.1
  have k0 : rqF m V (sI V m 102 (gI V m 100)) := rqF_sI (by omega)
  have q0 : pq (sI V m 102 (gI V m 100)) m W W.length (o : Int) cs := by rw [h100]; exact p_bs a5
  have r0 : rR (sI V m 102 (gI V m 100)) m T md W p [] o cs := ⟨a1.pq k0, by rw [k0.i (by decide)]; exact a2, by rw [k0.i (by decide)]; exact a3, a4.pq k0, q0, a6, a7⟩
  have main : Wp (lp (fun (s : Int) V => B_X10_qSums_15 G m (bs : Int) s V) FU 1 (sI V m 102 (gI V m 100))) (fun U _ => rB m V U ∧ ((∃ e, res = .inl e ∧ rX U m e 1) ∨ ∃ p' S' o' cs', rR U m T md W p' S' o' cs' ∧ res = .inr (cs' ++ S' ++ [(o' : Int)], p'))) := by
    refine W_lp (fun w (x : Int) U => rB m V U ∧ ((x = 0 ∧ w = 1 ∧ ((∃ e, res = .inl e ∧ rX U m e 1) ∨ ∃ p' S' o' cs', rR U m T md W p' S' o' cs' ∧ res = .inr (cs' ++ S' ++ [(o' : Int)], p'))) ∨ (x = 1 ∧ ∃ p' S' o' cs', rR U m T md W p' S' o' cs' ∧ Go (stG (kT md T)) (true, p', S', o', cs') res ∧ w = T.2 - p' + 2))) ?_ FU (T.2 - p + 2) 1 _ ⟨k0.B, Or.inr ⟨rfl, p, [], o, cs, r0, hres, rfl⟩⟩ (by unfold FU; omega)
    rintro w x U ⟨kU, hU⟩
    show Wp (B_X10_qSums_15 G m (bs : Int) x U) _
    unfold B_X10_qSums_15
    rcases hU with ⟨rfl, rfl, hh⟩ | ⟨rfl, p', S', o', cs', hr, hg, hw⟩
    · exact W_gd (by decide) (W_if (fun _ => W_so (Or.inr ⟨Nat.one_ne_zero, kU, hh⟩)) (fun q => absurd rfl q))
    · have pn' := rA_le hr.1
      obtain ⟨U1, e1, k1, hh⟩ := r_part (G := G) hT hG hmd hr hg
      refine W_gd (by decide) (W_if (fun q => absurd q (by decide)) (fun _ => W_gd (by rw [hr.2.1]; decide) (W_if (fun _ => W_be e1 ?_) (fun q => absurd hr.2.1 q))))
      rcases hh with ⟨e, he, hx⟩ | ⟨p2, S2, o2, cs2, hp2, hr2, hg2⟩
      · exact W_gd hx.bad.2 (W_if (fun q => absurd q hx.bad.1) (fun _ => W_so (Or.inl ⟨rfl, 1, by omega, kU.trans k1, Or.inl ⟨rfl, rfl, Or.inl ⟨e, he, hx⟩⟩⟩)))
      · have pn2 := rA_le hr2.1
        obtain ⟨U2, b, e2, k2, rs⟩ := r_goes (G := G) hT hmd hW hr2 hg2
        refine W_gd (by rw [hr2.2.1]; decide) (W_if (fun _ => W_be e2 ?_) (fun q => absurd hr2.2.1 q))
        rcases rs with ⟨rfl, e, he, hx⟩ | ⟨rfl, p3, S3, o3, cs3, hp3, hr3, hg3⟩ | ⟨rfl, p3, S3, o3, cs3, hp3, hr3, he⟩
        · exact W_gd (by decide) (W_if (fun _ => W_so (Or.inl ⟨rfl, 1, by omega, (kU.trans k1).trans k2, Or.inl ⟨rfl, rfl, Or.inl ⟨e, he, hx.up (by decide)⟩⟩⟩)) (fun q => absurd rfl q))
        · have pn3 := rA_le hr3.1
          exact W_gd (by decide) (W_if (fun q => absurd q (by decide)) (fun _ => W_so (Or.inl ⟨rfl, T.2 - p3 + 2, by omega, (kU.trans k1).trans k2, Or.inr ⟨rfl, p3, S3, o3, cs3, hr3, hg3, rfl⟩⟩)))
        · exact W_gd (by decide) (W_if (fun _ => W_so (Or.inl ⟨rfl, 1, by omega, (kU.trans k1).trans k2, Or.inl ⟨rfl, rfl, Or.inr ⟨p3, S3, o3, cs3, hr3, he⟩⟩⟩)) (fun q => absurd rfl q))
  obtain ⟨U, q, e1, kU, hU⟩ := main
  have top : ∀ U', lp (fun (_ : Unit) V => B_X10_qSums_53 G m (bs : Int) V) FU () U = some (U', 1, ()) → F_X10_qSums G m V = some (sI U' m 102 (bs : Int), 0) := by
    intro U' e
    unfold F_X10_qSums
    refine E_lt (E_lt ?_)
    rw [h102]
    exact E_bd e1 (E_bd e (E_lt rfl))
  rcases hU with ⟨e, he, hx⟩ | ⟨p', S', o', cs', hr, he⟩
  · have kf : rqF m U (sI U m 102 (bs : Int)) := rqF_sI (by omega)
    refine ⟨_, top U (p_all1 hx.bad.1 hx.bad.2), kU.trans kf.B, Or.inl ?_⟩
    rcases gres with ⟨e2, x1, x2⟩ | ⟨c, q2, x1, x2⟩
    · rw [he] at x2
      have : e = e2 := Sum.inl.inj x2
      rw [← this] at x1
      exact ⟨e, x1, hx.pq kf (by rw [gI_sI, if_neg (by omega)])⟩
    · rw [he] at x2; cases x2
  · obtain ⟨U', e2, k2, q2⟩ := p_all (G := G) (x := (bs : Int)) hr.2.1 hr.2.2.2.2.1
    have kf : rqF m U' (sI U' m 102 (bs : Int)) := rqF_sI (by omega)
    have k3 := k2.trans kf
    refine ⟨_, top U' e2, kU.trans k3.B, Or.inr ?_⟩
    rcases gres with ⟨e3, x1, x2⟩ | ⟨c, q3, x1, x2⟩
    · rw [he] at x2; cases x2
    · rw [he] at x2
      have y := Sum.inr.inj x2
      have y1 : cs' ++ S' ++ [(o' : Int)] = cs ++ c ++ [(o : Int)] := congrArg Prod.fst y
      have y2 : p' = q3 := congrArg Prod.snd y
      obtain ⟨y3, y4⟩ := List.append_inj' y1 rfl
      have y5 : (o' : Int) = (o : Int) := by injection y4
      have y6 : o' = o := by omega
      have pr := pr64 hT pn x1
      subst y2
      refine ⟨c, p', x1, pr.1, hr.1.pq k3, by rw [k3.i (by decide)]; exact hr.2.1, by rw [k3.i (by decide)]; exact hr.2.2.1, hr.2.2.2.1.pq k3, ?_, ⟨a6.1, a6.2⟩, ?_⟩
      · have := p_bs (x := bs) q2
        rw [y3, y6] at this
        exact this
      · rw [List.length_append]
        omega
end

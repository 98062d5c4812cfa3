/-! behind a part (reference); a sum -/
section
variable {G : mG} {V V' : mV} {m : Nat} {T : mT2} {md p o bs : Nat} {W S B cs : List Int} {res : tR} {oi : Int} {a : Int}
/-- the last one that waits, changed -/
theorem p_set (h : pq V m (a :: W) bs oi cs) {v : Int} (hv : 1 ≤ v ∧ v ≤ 60) : pq (sA V (m + 69) ((gI V m 100) - 1).toNat v) m (v :: W) bs oi cs ∧ rqF m V (sA V (m + 69) ((gI V m 100) - 1).toNat v) := by
  obtain ⟨t1, t2, t3, t4⟩ := p_top h
  obtain ⟨a1, a2, a3, a4, a5, a6, a7, a8⟩ := h
  have hn : ((gI V m 100) - 1).toNat = W.length := by omega
  have hA : gA (sA V (m + 69) W.length v) (m + 69) = uN (gA V (m + 69)) W.length v := gA_sAe
  refine ⟨⟨a1, ?_, a3, a4, a5, ?_, fun b hb => ?_, a8⟩, rqF_sA (Or.inr rfl)⟩
  · rw [hn, hA]; exact skp_push a2.2
  · rw [gA_sAo (by omega)]; exact a6
  · rcases List.mem_cons.mp hb with q | q
    · rw [q]; exact hv
    · exact a7 b (List.mem_cons_of_mem _ q)
/-- a closed bracket told -/
theorem r_j43 (hT : tOk T) (hmd : md ≤ 3) (h : rR V m T md B p S o cs) (h2 : gI V m 2 = (p : Int)) (k7 : clT md T p = 7) (hb : brk S = 20 ∨ brk S = 23 ∨ brk S = 24) :
    ∃ V', F_X10_qGoesOn_J43_0 G m V = some (V', 0, ()) ∧ rB m V V' ∧ rR V' m T md B (nxT T p) (enp (dtb S cs).1.tail (o - 1) (if brk S = 20 then (dtb S cs).2 else (dtb S cs).2 ++ [if brk S = 23 then 5 else 6])).1 (enp (dtb S cs).1.tail (o - 1) (if brk S = 20 then (dtb S cs).2 else (dtb S cs).2 ++ [if brk S = 23 then 5 else 6])).2.1 (enp (dtb S cs).1.tail (o - 1) (if brk S = 20 then (dtb S cs).2 else (dtb S cs).2 ++ [if brk S = 23 then 5 else 6])).2.2 := by
  have hn := hT.1
  obtain ⟨a1, a2, a3, a4, a5, a6, a7⟩ := h
  have kd := (cl_7 (md := md)).mp k7
  obtain ⟨pl, nL, nD⟩ := kd_2.mp kd.1
  have gt := nxT_gt pl
  have hl : (S ++ B).length = S.length + B.length := List.length_append
  have ho := opn_app (S := S) (B := B)
  obtain ⟨S2, d1, d2, d3⟩ := dtb_brk S cs (by omega)
  have kl : rLk m V (sI V m 2 (gI V m 2 + 1)) := rLk_sI (Or.inl rfl)
  have ra := rA_at (hp := pl) a1 h2 nL nD
  have q1 := a5.lk kl
  have h51 : gI (sI V m 2 (gI V m 2 + 1)) m 5 = 0 := by rw [gI_sI, if_neg (by omega)]; exact a2
  obtain ⟨V2, e2, k2, q2⟩ := p_dtb (G := G) h51 q1
  rw [d1] at q2 ⊢
  rw [List.tail_cons]
  have q2' : pq V2 m (brk S :: (S2 ++ B)) B.length (o : Int) (dtb S cs).2 := q2
  obtain ⟨t1, t2, t3, t4⟩ := p_top q2'
  have q3 := p_pop q2'
  have g101 : gI (sI V2 m 100 (gI V2 m 100 - 1)) m 101 = (o : Int) := q3.2.2.2.1
  have q4 : pq (sI (sI V2 m 100 (gI V2 m 100 - 1)) m 101 (gI (sI V2 m 100 (gI V2 m 100 - 1)) m 101 - 1)) m (S2 ++ B) B.length ((o - 1 : Nat) : Int) (dtb S cs).2 := by
    rw [g101, show (o : Int) - 1 = ((o - 1 : Nat) : Int) by omega]
    exact p_oi q3
  obtain ⟨U, hU⟩ : ∃ U, U = sI (sI V2 m 100 (gI V2 m 100 - 1)) m 101 (gI (sI V2 m 100 (gI V2 m 100 - 1)) m 101 - 1) := ⟨_, rfl⟩
  rw [← hU] at q4
  have kU : rqF m V2 U := by rw [hU]; exact (rqF_sI (by omega)).trans (rqF_sI (by omega))
  have k3 : rqF m (sI V m 2 (gI V m 2 + 1)) U := k2.trans kU
  have u100 : gI U m 100 = ((S2 ++ B).length : Int) := q4.1
  have ucell : gA U (m + 69) (gI U m 100).toNat = brk S := by
    rw [u100, Int.toNat_natCast, hU]; exact t2
  have h5U : gI U m 5 = 0 := by rw [k3.i (by decide)]; exact h51
  have hl2 : (S2 ++ B).length = S2.length + B.length := List.length_append
  have ho2 := opn_app (S := S2) (B := B)
  have bv := brk_v S
  have fin : ∀ (U' : mV) (cs2 : List Int), rqF m U U' → pq U' m (S2 ++ B) B.length ((o - 1 : Nat) : Int) cs2 → S2.length + cs2.length ≤ S.length + cs.length → ∃ V', F_X10_qEndsPart G m U' = some (V', 0) ∧ rB m V V' ∧ rR V' m T md B (nxT T p) (enp S2 (o - 1) cs2).1 (enp S2 (o - 1) cs2).2.1 (enp S2 (o - 1) cs2).2.2 := by
    intro U' cs2 kU' q5 hlen
    obtain ⟨V4, e4, k4, q6⟩ := p_ends (G := G) (by rw [kU'.i (by decide)]; exact h5U) (by omega) q5
    have kk := (k3.trans kU').trans k4
    have el := enp_len S2 cs2 (o - 1)
    have eo := enp_opn S2 cs2 (o - 1) (opn B) (by omega)
    have ea := opn_app (S := (enp S2 (o - 1) cs2).1) (B := B)
    refine ⟨V4, e4, kl.B.trans kk.B, ra.pq kk, by rw [kk.i (by decide)]; exact h51, by rw [kk.i (by decide), gI_sI, if_neg (by omega)]; exact a3, (a4.lk kl).pq kk, q6, by omega, ?_⟩
    rw [List.length_append]; omega
  have J : ∀ (r : mV × Nat × Unit), (if brk S = 20 then (bd (F_X10_qEndsPart G m U) fun V22 v23 =>
      some (V22, 0, ())) else (if brk S = 23 then (F_X10_qGoesOn_J112_0 G m 5 U) else (F_X10_qGoesOn_J112_0 G m 6 U))) = some r → F_X10_qGoesOn_J43_0 G m V = some r := by
    intro r e
    unfold F_X10_qGoesOn_J43_0
    refine E_lt (E_bd e2 (E_lt (E_lt ?_)))
    rw [← hU]
    refine E_gd (by rw [u100]; omega) ?_
    rw [ucell]
    exact E_gd ⟨by omega, by omega⟩ e
  by_cases b20 : brk S = 20
  · rw [if_pos b20]
    obtain ⟨V', e, k, r⟩ := fin U _ rqF_refl q4 (by omega)
    exact ⟨V', J _ (by rw [if_pos b20]; exact E_bd e rfl), k, r⟩
  · rw [if_neg b20]
    have cd : ∀ v : Int, ∃ V', F_X10_qGoesOn_J112_0 G m v U = some (V', 0, ()) ∧ rB m V V' ∧ rR V' m T md B (nxT T p) (enp S2 (o - 1) ((dtb S cs).2 ++ [v])).1 (enp S2 (o - 1) ((dtb S cs).2 ++ [v])).2.1 (enp S2 (o - 1) ((dtb S cs).2 ++ [v])).2.2 := by
      intro v
      obtain ⟨U', e5, k5, q5⟩ := p_code (G := G) (v := v) q4 (by omega)
      obtain ⟨V', e, k, r⟩ := fin U' _ k5 q5 (by rw [List.length_append]; show S2.length + ((dtb S cs).2.length + 1) ≤ _; omega)
      refine ⟨V', ?_, k, r⟩
      unfold F_X10_qGoesOn_J112_0
      exact E_bd e5 (E_bd e rfl)
    by_cases b23 : brk S = 23
    · rw [if_pos b23]
      obtain ⟨V', e, k, r⟩ := cd 5
      exact ⟨V', J _ (by rw [if_neg b20, if_pos b23]; exact e), k, r⟩
    · rw [if_neg b23]
      obtain ⟨V', e, k, r⟩ := cd 6
      exact ⟨V', J _ (by rw [if_neg b20, if_neg b23]; exact e), k, r⟩
/-- an operator put in -/
theorem r_psh (h : rR V m T md B p S o cs) {q : Nat} {S2 cs2 : List Int} {U : mV} (ra : rA U m T q) (h5 : gI U m 5 = 0) (h48 : gI U m 48 = (md : Int)) (hw : rWd U m) (hq : pq U m (S2 ++ B) B.length (o : Int) cs2) (hl : S2.length + cs2.length ≤ S.length + cs.length) (ho : opn S2 ≤ opn S) (hpq : p < q) (hT : tOk T) {v : Int} (hv : 1 ≤ v ∧ v < 12) :
    (0 ≤ gI U m 100 ∧ gI U m 100 < 1700 ∧ gI U m 100 ≤ 2147483647) ∧ rB m U (sI (sA U (m + 69) (gI U m 100).toNat v) m 100 (gI (sA U (m + 69) (gI U m 100).toNat v) m 100 + 1)) ∧ rR (sI (sA U (m + 69) (gI U m 100).toNat v) m 100 (gI (sA U (m + 69) (gI U m 100).toNat v) m 100 + 1)) m T md B q (v :: S2) o cs2 := by
  have hn := hT.1
  have hqn := rA_le ra
  obtain ⟨a1, a2, a3, a4, a5, a6, a7⟩ := h
  have e1 : (S ++ B).length = S.length + B.length := List.length_append
  have e2 : (S2 ++ B).length = S2.length + B.length := List.length_append
  have o1 := opn_app (S := S) (B := B)
  have o2 := opn_app (S := S2) (B := B)
  obtain ⟨q1, k1⟩ := p_push hq (v := v) ⟨hv.1, by omega⟩ (by omega)
  have u100 : gI U m 100 = ((S2 ++ B).length : Int) := hq.1
  refine ⟨by rw [u100]; omega, k1.B, ra.pq k1, by rw [k1.i (by decide)]; exact h5, by rw [k1.i (by decide)]; exact h48, hw.pq k1, q1, ⟨?_, a6.2⟩, ?_⟩
  · show (if 12 ≤ v then 1 else 0) + opn (S2 ++ B) ≤ o
    rw [if_neg (by omega)]; omega
  · rw [List.cons_append, List.length_cons]; omega
/-- what a sum's going on ends in -/
def rEs (V : mV) (m : Nat) (T : mT2) (md : Nat) (B : List Int) (p : Nat) (b : Int) (res : tR) : Prop := (b = 0 ∧ ∃ e, res = .inl e ∧ rX V m e 0) ∨ (b = 1 ∧ ∃ p' S' o' cs', p < p' ∧ rR V m T md B p' S' o' cs' ∧ Go (stG (kT md T)) (true, p', S', o', cs') res) ∨ (b = 0 ∧ ∃ p' S' o' cs', p ≤ p' ∧ rR V m T md B p' S' o' cs' ∧ res = .inr (cs' ++ S' ++ [(o' : Int)], p'))
theorem r_j122 (hT : tOk T) (hmd : md ≤ 3) (hB : hd B (fun a => ¬ (1 ≤ a ∧ a ≤ 4))) (h : rR V m T md B p S o cs) (g : Go (stG (kT md T)) (false, p, S, o, cs) res) (n7 : ¬ (clT md T p = 7 ∧ (brk S = 20 ∨ brk S = 23 ∨ brk S = 24))) :
    ∃ V' b, F_X10_qGoesOn_J122 G m V = some (V', b) ∧ rB m V V' ∧ rEs V' m T md B p b res := by
  have hn := hT.1
  have ge : stG (kT md T) (false, p, S, o, cs) = stB (kT md T) p S o cs := rfl
  have n7' : ¬ (kcl (kT md T) p = 7 ∧ (brk S = 20 ∨ brk S = 23 ∨ brk S = 24)) := n7
  have c9 : kcl (kT md T) p = 9 ↔ kdT T p = 2 ∧ T.1 p = 42 := cl_9
  have c10 : kcl (kT md T) p = 10 ↔ kdT T p = 2 ∧ T.1 p = 47 := cl_10
  have c11 : kcl (kT md T) p = 11 ↔ kdT T p = 2 ∧ T.1 p = 43 := cl_11
  have c12 : kcl (kT md T) p = 12 ↔ kdT T p = 2 ∧ T.1 p = 45 := cl_12
  have hBm : hd B (fun a => a ≠ 3 ∧ a ≠ 4) := hd_m hB (fun a q => ⟨by omega, by omega⟩)
  -- multiplied
  have mul : ∀ (U : mV) (v : Int), rLk m V U → rs10 U m T (.inr (nxT T p)) → gI U m 2 = ((p + 1 : Nat) : Int) → p < T.2 → (v = if T.1 p = 42 then 3 else 4) → mulc (kT md T) p = v → ∃ V', F_X10_qGoesOn_J140 G m U = some (V', 1) ∧ rB m V V' ∧ rEs V' m T md B p 1 res := by
    intro U v kU rU u2 pl hv hm
    have gt := nxT_gt pl
    have rr := h.lk kU rU (by omega)
    have hb := hT.2 p pl
    have hc : gA U (m + 1) p = T.1 p := rr.1.1 p pl
    have v34 : v = 3 ∨ v = 4 := by rw [hv]; split <;> simp
    have st : stB (kT md T) p S o cs = .inr (true, nxT T p, v :: (dpm S cs).1, o, (dpm S cs).2) := by
      unfold stB
      rw [if_neg n7', if_pos (by rw [hm]; omega), hm]
      rfl
    obtain ⟨V2, e2, k2, q2⟩ := p_dm (G := G) (x := v) hBm rr.2.1 rr.2.2.2.2.1
    have dl := dp_len (d := fun a => decide (a = 3 ∨ a = 4)) S cs
    have dq := dp_opn (d := fun a => decide (a = 3 ∨ a = 4)) S cs
    rw [← dpm_dp] at dl dq
    obtain ⟨g1, g2, g3⟩ := r_psh h (q := nxT T p) (rr.1.pq k2) (by rw [k2.i (by decide)]; exact rr.2.1) (by rw [k2.i (by decide)]; exact rr.2.2.1) (rr.2.2.2.1.pq k2) q2 (by omega) (by omega) gt.1 hT (v := v) (by omega)
    refine ⟨_, ?_, (kU.B.trans k2.B).trans g2, Or.inr (Or.inl ⟨rfl, nxT T p, _, _, _, gt.1, g3, Go_s (ge.trans st) g⟩)⟩
    have j161 : F_X10_qGoesOn_J161 G m v U = some (sI (sA V2 (m + 69) (gI V2 m 100).toNat v) m 100 (gI (sA V2 (m + 69) (gI V2 m 100).toNat v) m 100 + 1), 1) := by
      unfold F_X10_qGoesOn_J161
      exact E_bd e2 (E_gd g1 (E_lt (E_lt rfl)))
    unfold F_X10_qGoesOn_J140
    rw [u2, show (((p + 1 : Nat) : Int) - 1).toNat = p by omega, hc]
    refine E_gd ⟨by omega, by omega, by omega⟩ (E_gd ⟨by omega, by omega⟩ (E_if (fun q => ?_) (fun q => ?_)))
    · rw [if_pos q] at hv; rw [hv] at j161; rw [hv]; exact j161
    · rw [if_neg q] at hv; rw [hv] at j161; rw [hv]; exact j161
  -- added
  have add : ∀ (U : mV) (v : Int), rLk m V U → rs10 U m T (.inr (nxT T p)) → gI U m 2 = ((p + 1 : Nat) : Int) → p < T.2 → (v = if T.1 p = 43 then 1 else 2) → mulc (kT md T) p = 0 → addc (kT md T) p = v → ∃ V', F_X10_qGoesOn_J225 G m U = some (V', 1) ∧ rB m V V' ∧ rEs V' m T md B p 1 res := by
    intro U v kU rU u2 pl hv hm0 hm
    have gt := nxT_gt pl
    have rr := h.lk kU rU (by omega)
    have hb := hT.2 p pl
    have hc : gA U (m + 1) p = T.1 p := rr.1.1 p pl
    have v34 : v = 1 ∨ v = 2 := by rw [hv]; split <;> simp
    have st : stB (kT md T) p S o cs = .inr (true, nxT T p, v :: (dpa S cs).1, o, (dpa S cs).2) := by
      unfold stB
      rw [if_neg n7', if_neg (by omega), if_pos (by rw [hm]; omega), hm]
      rfl
    obtain ⟨V2, e2, k2, q2⟩ := p_da (G := G) (x := v) hB rr.2.1 rr.2.2.2.2.1
    have dl := dp_len (d := fun a => decide (1 ≤ a ∧ a ≤ 4)) S cs
    have dq := dp_opn (d := fun a => decide (1 ≤ a ∧ a ≤ 4)) S cs
    rw [← dpa_dp] at dl dq
    obtain ⟨g1, g2, g3⟩ := r_psh h (q := nxT T p) (rr.1.pq k2) (by rw [k2.i (by decide)]; exact rr.2.1) (by rw [k2.i (by decide)]; exact rr.2.2.1) (rr.2.2.2.1.pq k2) q2 (by omega) (by omega) gt.1 hT (v := v) (by omega)
    refine ⟨_, ?_, (kU.B.trans k2.B).trans g2, Or.inr (Or.inl ⟨rfl, nxT T p, _, _, _, gt.1, g3, Go_s (ge.trans st) g⟩)⟩
    have j246 : F_X10_qGoesOn_J246 G m v U = some (sI (sA V2 (m + 69) (gI V2 m 100).toNat v) m 100 (gI (sA V2 (m + 69) (gI V2 m 100).toNat v) m 100 + 1), 1) := by
      unfold F_X10_qGoesOn_J246
      exact E_bd e2 (E_gd g1 (E_lt (E_lt rfl)))
    unfold F_X10_qGoesOn_J225
    rw [u2, show (((p + 1 : Nat) : Int) - 1).toNat = p by omega, hc]
    refine E_gd ⟨by omega, by omega, by omega⟩ (E_gd ⟨by omega, by omega⟩ (E_if (fun q => ?_) (fun q => ?_)))
    · rw [if_pos q] at hv; rw [hv] at j246; rw [hv]; exact j246
    · rw [if_neg q] at hv; rw [hv] at j246; rw [hv]; exact j246
  obtain ⟨V1, e1, k1, r1, a1, b1⟩ := r_tSg (G := G) hT h.1 h.2.1 (c := 42) (by decide) ⟨by decide, by decide, by decide⟩
  unfold F_X10_qGoesOn_J122
  by_cases z9 : kdT T p = 2 ∧ T.1 p = 42
  · rw [if_pos z9] at e1 r1
    obtain ⟨V', e, k, rs⟩ := mul V1 3 k1 r1 (b1 z9) (kd_2.mp z9.1).1 (by rw [if_pos z9.2]) (by unfold mulc; rw [if_pos (c9.mpr z9)])
    exact ⟨V', 1, E_bd e1 (E_gd (by decide) (E_if (fun q => absurd q (by decide)) (fun _ => e))), k, rs⟩
  rw [if_neg z9] at e1 r1
  have h1 := h.lk k1 r1 (Nat.le_refl _)
  obtain ⟨V2, e2, k2, r2, a2, b2⟩ := r_tSg (G := G) hT h1.1 h1.2.1 (c := 47) (by decide) ⟨by decide, by decide, by decide⟩
  by_cases z10 : kdT T p = 2 ∧ T.1 p = 47
  · rw [if_pos z10] at e2 r2
    obtain ⟨V', e, k, rs⟩ := mul V2 4 (k1.trans k2) r2 (b2 z10) (kd_2.mp z10.1).1 (by rw [if_neg (by rw [z10.2]; decide)]) (by unfold mulc; rw [if_neg (fun y => z9 (c9.mp y)), if_pos (c10.mpr z10)])
    exact ⟨V', 1, E_bd e1 (E_gd (by decide) (E_if (fun _ => E_bd e2 (E_gd (by decide) (E_if (fun q => absurd q (by decide)) (fun _ => e)))) (fun q => absurd rfl q))), k, rs⟩
  rw [if_neg z10] at e2 r2
  have m0 : mulc (kT md T) p = 0 := by unfold mulc; rw [if_neg (fun y => z9 (c9.mp y)), if_neg (fun y => z10 (c10.mp y))]
  have h2 := h1.lk k2 r2 (Nat.le_refl _)
  obtain ⟨V3, e3, k3, r3, a3, b3⟩ := r_tSg (G := G) hT h2.1 h2.2.1 (c := 43) (by decide) ⟨by decide, by decide, by decide⟩
  by_cases z11 : kdT T p = 2 ∧ T.1 p = 43
  · rw [if_pos z11] at e3 r3
    obtain ⟨V', e, k, rs⟩ := add V3 1 ((k1.trans k2).trans k3) r3 (b3 z11) (kd_2.mp z11.1).1 (by rw [if_pos z11.2]) m0 (by unfold addc; rw [if_pos (c11.mpr z11)])
    exact ⟨V', 1, E_bd e1 (E_gd (by decide) (E_if (fun _ => E_bd e2 (E_gd (by decide) (E_if (fun _ => E_bd e3 (E_gd (by decide) (E_if (fun q => absurd q (by decide)) (fun _ => e)))) (fun q => absurd rfl q)))) (fun q => absurd rfl q))), k, rs⟩
  rw [if_neg z11] at e3 r3
  have h3 := h2.lk k3 r3 (Nat.le_refl _)
  obtain ⟨V4, e4, k4, r4, a4, b4⟩ := r_tSg (G := G) hT h3.1 h3.2.1 (c := 45) (by decide) ⟨by decide, by decide, by decide⟩
  by_cases z12 : kdT T p = 2 ∧ T.1 p = 45
  · rw [if_pos z12] at e4 r4
    obtain ⟨V', e, k, rs⟩ := add V4 2 (((k1.trans k2).trans k3).trans k4) r4 (b4 z12) (kd_2.mp z12.1).1 (by rw [if_neg (by rw [z12.2]; decide)]) m0 (by unfold addc; rw [if_neg (fun y => z11 (c11.mp y)), if_pos (c12.mpr z12)])
    exact ⟨V', 1, E_bd e1 (E_gd (by decide) (E_if (fun _ => E_bd e2 (E_gd (by decide) (E_if (fun _ => E_bd e3 (E_gd (by decide) (E_if (fun _ => E_bd e4 (E_gd (by decide) (E_if (fun q => absurd q (by decide)) (fun _ => e)))) (fun q => absurd rfl q)))) (fun q => absurd rfl q)))) (fun q => absurd rfl q))), k, rs⟩
  rw [if_neg z12] at e4 r4
  have ad0 : addc (kT md T) p = 0 := by unfold addc; rw [if_neg (fun y => z11 (c11.mp y)), if_neg (fun y => z12 (c12.mp y))]
  have h4 := h3.lk k4 r4 (Nat.le_refl _)
  have kk := ((k1.trans k2).trans k3).trans k4
  have b4 := p_brk (G := G) h4.2.2.2.2.1
  have bv := brk_v S
  have br : rg (brk S) := ⟨by omega, by omega⟩
  have top : ∀ (V' : mV) (b : Int), (gd (rg (brk S)) <| if brk S = 21 then (F_X10_qGoesOn_J326 G m V4) else (bd (F_X10_qBracket G m V4) fun V149 v150 =>
      gd (rg v150) <|
      if v150 = 22 then (F_X10_qGoesOn_J326 G m V149) else (bd (F_X10_qBracket G m V149) fun V154 v155 =>
      gd (rg v155) <|
      if v155 = (-1) then (some (V154, 0)) else (gd (rg (gI V154 m 5)) <|
      if (gI V154 m 5) = 0 then (bd (F_X10_fail G m 1 (gI V154 m 2) V154) fun V161 v162 =>
      some (V161, 0)) else (some (V154, 0)))))) = some (V', b) → F_X10_qGoesOn_J122 G m V = some (V', b) := by
    intro V' b e
    unfold F_X10_qGoesOn_J122
    exact E_bd e1 (E_gd (by decide) (E_if (fun _ => E_bd e2 (E_gd (by decide) (E_if (fun _ => E_bd e3 (E_gd (by decide) (E_if (fun _ => E_bd e4 (E_gd (by decide) (E_if (fun _ => E_bd b4 e) (fun q => absurd rfl q)))) (fun q => absurd rfl q)))) (fun q => absurd rfl q)))) (fun q => absurd rfl q)))
  have comma : (brk S = 21 ∨ brk S = 22) → ∃ V' b, F_X10_qGoesOn_J326 G m V4 = some (V', b) ∧ rB m V V' ∧ rEs V' m T md B p b res := by
    intro hb
    have c8 : kcl (kT md T) p = 8 ↔ kdT T p = 2 ∧ T.1 p = 44 := cl_8
    obtain ⟨V5, e5, k5, r5⟩ := r_aSg (G := G) hT h4.1 h4.2.1 (c := 44) (by decide) ⟨by decide, by decide, by decide⟩
    unfold nSg at r5
    by_cases z8 : kdT T p = 2 ∧ T.1 p = 44
    · rw [if_pos z8] at r5
      have pl := (kd_2.mp z8.1).1
      have gt := nxT_gt pl
      have h5 := h4.lk k5 r5 (by omega)
      have st : stB (kT md T) p S o cs = .inr (true, nxT T p, (brk S + 2) :: (dtb S cs).1.tail, o, (dtb S cs).2) := by
        unfold stB
        rw [if_neg n7', if_neg (by omega), if_neg (by omega), if_pos hb, if_neg (by rw [c8.mpr z8]; decide)]
        rfl
      obtain ⟨S2, d1, d2, d3⟩ := dtb_brk S cs (by omega)
      obtain ⟨V6, e6, k6, q6⟩ := p_dtb (G := G) h5.2.1 h5.2.2.2.2.1
      rw [d1] at q6 st
      rw [List.tail_cons] at st
      have q6' : pq V6 m (brk S :: (S2 ++ B)) B.length (o : Int) (dtb S cs).2 := q6
      obtain ⟨t1, t2, t3, t4⟩ := p_top q6'
      obtain ⟨q7, k7⟩ := p_set q6' (v := brk S + 2) (by omega)
      have k67 := k6.trans k7
      have hl : (S ++ B).length = S.length + B.length := List.length_append
      have hl2 : ((brk S + 2) :: S2 ++ B).length = S2.length + B.length + 1 := by rw [List.cons_append, List.length_cons, List.length_append]
      have ho := opn_app (S := S) (B := B)
      have ho2 : opn ((brk S + 2) :: S2 ++ B) = 1 + (opn S2 + opn B) := by
        rw [List.cons_append, ← opn_app]
        show (if 12 ≤ brk S + 2 then 1 else 0) + opn (S2 ++ B) = _
        rw [if_pos (by omega)]
      have h46 := h4.2.2.2.2.2.1
      have h47 := h4.2.2.2.2.2.2
      refine ⟨_, 1, ?_, (kk.B.trans k5.B).trans k67.B, Or.inr (Or.inl ⟨rfl, nxT T p, (brk S + 2) :: S2, o, (dtb S cs).2, gt.1, ⟨h5.1.pq k67, by rw [k67.i (by decide)]; exact h5.2.1, by rw [k67.i (by decide)]; exact h5.2.2.1, h5.2.2.2.1.pq k67, q7, ⟨by omega, h46.2⟩, by omega⟩, Go_s (ge.trans st) g⟩)⟩
      unfold F_X10_qGoesOn_J326
      refine E_bd e5 (E_gd (by rw [h5.2.1]; decide) (E_if (fun _ => E_bd e6 (E_gd ⟨by omega, by omega, by omega⟩ ?_)) (fun q => absurd h5.2.1 q)))
      rw [show ((gI V6 m 100) - 1).toNat = (S2 ++ B).length by omega, t2]
      exact E_lt rfl
    · rw [if_neg z8] at r5
      have x5 := h4.x k5 r5
      have st : stB (kT md T) p S o cs = .inl (.inl (1, (p : Int))) := by
        unfold stB
        rw [if_neg n7', if_neg (by omega), if_neg (by omega), if_pos hb, if_pos (fun y => z8 (c8.mp y))]
      refine ⟨V5, 0, ?_, kk.B.trans k5.B, Or.inl ⟨rfl, (1, (p : Int)), Go_r (ge.trans st) g, x5⟩⟩
      unfold F_X10_qGoesOn_J326
      exact E_bd e5 (E_gd x5.bad.2 (E_if (fun q => absurd q x5.bad.1) (fun _ => rfl)))
  by_cases b21 : brk S = 21
  · obtain ⟨V', b, e, k, rs⟩ := comma (Or.inl b21)
    exact ⟨V', b, top V' b (E_gd br (E_if (fun _ => e) (fun q => absurd b21 q))), k, rs⟩
  by_cases b22 : brk S = 22
  · obtain ⟨V', b, e, k, rs⟩ := comma (Or.inr b22)
    exact ⟨V', b, top V' b (E_gd br (E_if (fun q => absurd q b21) (fun _ => E_bd b4 (E_gd br (E_if (fun _ => e) (fun q => absurd b22 q)))))), k, rs⟩
  by_cases b1' : brk S = -1
  · have st : stB (kT md T) p S o cs = .inl (.inr (cs ++ S ++ [(o : Int)], p)) := by
      unfold stB
      rw [if_neg n7', if_neg (by omega), if_neg (by omega), if_neg (by omega), if_neg (by omega)]
    exact ⟨V4, 0, top V4 0 (E_gd br (E_if (fun q => absurd q b21) (fun _ => E_bd b4 (E_gd br (E_if (fun q => absurd q b22) (fun _ => E_bd b4 (E_gd br (E_if (fun _ => rfl) (fun q => absurd b1' q))))))))), kk.B, Or.inr (Or.inr ⟨rfl, p, S, o, cs, Nat.le_refl _, h4, Go_r (ge.trans st) g⟩)⟩
  · have st : stB (kT md T) p S o cs = .inl (.inl (1, (p : Int))) := by
      unfold stB
      rw [if_neg n7', if_neg (by omega), if_neg (by omega), if_neg (by omega), if_pos b1']
    obtain ⟨V5, e5, k5, r5⟩ := r_fail (G := G) (T := T) h4.2.1 (k := 1) (w := (p : Int)) ⟨by decide, by decide⟩
    have x5 := h4.x k5 r5
    refine ⟨V5, 0, top V5 0 (E_gd br (E_if (fun q => absurd q b21) (fun _ => E_bd b4 (E_gd br (E_if (fun q => absurd q b22) (fun _ => E_bd b4 (E_gd br (E_if (fun q => absurd q b1') (fun _ => E_gd (by rw [h4.2.1]; decide) (E_if (fun _ => ?_) (fun q => absurd h4.2.1 q))))))))))), kk.B.trans k5.B, Or.inl ⟨rfl, (1, (p : Int)), Go_r (ge.trans st) g, x5⟩⟩
    rw [a4 z12]
    exact E_bd e5 rfl
theorem r_goes (hT : tOk T) (hmd : md ≤ 3) (hB : hd B (fun a => ¬ (1 ≤ a ∧ a ≤ 4))) (h : rR V m T md B p S o cs) (g : Go (stG (kT md T)) (false, p, S, o, cs) res) : ∃ V' b, F_X10_qGoesOn G m V = some (V', b) ∧ rB m V V' ∧ rEs V' m T md B p b res := by
  have hn := hT.1
  have main : Wp (lp (fun (_ : Unit) V => B_X10_qGoesOn_0 G m V) FU () V) (fun U _ => rB m V U ∧ ∃ p' S' o' cs', p ≤ p' ∧ rR U m T md B p' S' o' cs' ∧ Go (stG (kT md T)) (false, p', S', o', cs') res ∧ ¬ (clT md T p' = 7 ∧ (brk S' = 20 ∨ brk S' = 23 ∨ brk S' = 24))) := by
    refine W_lp (fun w (_ : Unit) U => rB m V U ∧ ∃ p' S' o' cs', p ≤ p' ∧ rR U m T md B p' S' o' cs' ∧ Go (stG (kT md T)) (false, p', S', o', cs') res ∧ w = T.2 - p') ?_ FU (T.2 - p) () V ⟨rB_refl, p, S, o, cs, Nat.le_refl _, h, g, rfl⟩ (by unfold FU; omega)
    rintro w x U ⟨kU, p', S', o', cs', hp, hr, hg, hw⟩
    obtain ⟨U1, e1, k1, r1, a2⟩ := hr.look (G := G) hT
    have lr := (lkc_rg (p := p') hT).1
    have b1 := p_brk (G := G) r1.2.2.2.2.1
    have bv := brk_v S'
    have br : rg (brk S') := ⟨by omega, by omega⟩
    have c7 : lkc T p' = 41 ↔ clT md T p' = 7 := (lk_sg ⟨by decide, by decide, by decide⟩).trans cl_7.symm
    have pn := rA_le hr.1
    show Wp (B_X10_qGoesOn_0 G m U) _
    unfold B_X10_qGoesOn_0
    refine W_gd (by rw [hr.2.1]; decide) (W_if (fun _ => W_be e1 (W_gd lr (W_if (fun q => ?_) (fun q => ?_)))) (fun q => absurd hr.2.1 q))
    · have k7 := c7.mp q
      have gt := nxT_gt (clT_lt (show clT md T p' ≠ 0 by omega))
      have yes : (brk S' = 20 ∨ brk S' = 23 ∨ brk S' = 24) → Wp (F_X10_qGoesOn_J43_0 G m U1) (fun V' q => (q.1 = 0 ∧ ∃ w', w' < w ∧ (rB m V V' ∧ ∃ p' S' o' cs', p ≤ p' ∧ rR V' m T md B p' S' o' cs' ∧ Go (stG (kT md T)) (false, p', S', o', cs') res ∧ w' = T.2 - p')) ∨ (q.1 ≠ 0 ∧ (rB m V V' ∧ ∃ p' S' o' cs', p ≤ p' ∧ rR V' m T md B p' S' o' cs' ∧ Go (stG (kT md T)) (false, p', S', o', cs') res ∧ ¬ (clT md T p' = 7 ∧ (brk S' = 20 ∨ brk S' = 23 ∨ brk S' = 24))))) := by
        intro hb
        obtain ⟨U2, e2, k2, r2⟩ := r_j43 (G := G) hT hmd r1 a2 k7 hb
        have st : stG (kT md T) (false, p', S', o', cs') = .inr (false, nxT T p', enp (dtb S' cs').1.tail (o' - 1) (if brk S' = 20 then (dtb S' cs').2 else (dtb S' cs').2 ++ [if brk S' = 23 then 5 else 6])) := by
          show stB (kT md T) p' S' o' cs' = _
          unfold stB
          rw [if_pos ⟨k7, hb⟩]
          rfl
        exact W_of (v := (0, ())) e2 (Or.inl ⟨rfl, T.2 - nxT T p', by omega, (kU.trans k1.B).trans k2, nxT T p', _, _, _, by omega, r2, Go_s st hg, rfl⟩)
      refine W_be b1 (W_gd br (W_if (fun y => yes (Or.inl y)) (fun y => W_be b1 (W_gd br (W_if (fun y2 => yes (Or.inr (Or.inl y2))) (fun y2 => W_be b1 (W_gd br (W_if (fun y3 => yes (Or.inr (Or.inr y3))) (fun y3 => W_so (Or.inr ⟨Nat.one_ne_zero, kU.trans k1.B, p', S', o', cs', hp, r1, hg, ?_⟩))))))))))
      rintro ⟨-, z⟩
      omega
    · exact W_so (Or.inr ⟨Nat.one_ne_zero, kU.trans k1.B, p', S', o', cs', hp, r1, hg, fun z => q (c7.mpr z.1)⟩)
  obtain ⟨U, q, e1, kU, p', S', o', cs', hp, hr, hg, hnn⟩ := main
  obtain ⟨V', b, e2, k2, rs⟩ := r_j122 (G := G) hT hmd hB hr hg hnn
  refine ⟨V', b, ?_, kU.trans k2, ?_⟩
  · unfold F_X10_qGoesOn
    exact E_bd e1 e2
  · rcases rs with ⟨b0, e, x1, x2⟩ | ⟨b1, p2, S2, o2, cs2, x1, x2, x3⟩ | ⟨b0, p2, S2, o2, cs2, x1, x2, x3⟩
    · exact Or.inl ⟨b0, e, x1, x2⟩
    · exact Or.inr (Or.inl ⟨b1, p2, S2, o2, cs2, by omega, x2, x3⟩)
    · exact Or.inr (Or.inr ⟨b0, p2, S2, o2, cs2, by omega, x2, x3⟩)
end

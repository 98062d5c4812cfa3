/-! the reference's pile in its cells -/
def rqF (m : Nat) (V V' : mV) : Prop := gJ V' = gJ V ∧ gL V' = gL V ∧ (∀ i, i ≠ m + 68 → i ≠ m + 69 → gA V' i = gA V i) ∧ (∀ i k, (i ≠ m ∨ (k ≠ 98 ∧ k ≠ 100 ∧ k ≠ 101 ∧ k ≠ 102)) → gI V' i k = gI V i k)
theorem rqF_refl {m : Nat} {V : mV} : rqF m V V := ⟨rfl, rfl, fun _ _ _ => rfl, fun _ _ _ => rfl⟩
theorem rqF.trans {m : Nat} {V V1 V2 : mV} (h : rqF m V V1) (k : rqF m V1 V2) : rqF m V V2 := ⟨k.1.trans h.1, k.2.1.trans h.2.1, fun i a b => (k.2.2.1 i a b).trans (h.2.2.1 i a b), fun i j q => (k.2.2.2 i j q).trans (h.2.2.2 i j q)⟩
theorem rqF_sI {m k : Nat} {V : mV} {x : Int} (hk : k = 98 ∨ k = 100 ∨ k = 101 ∨ k = 102) : rqF m V (sI V m k x) := ⟨rfl, rfl, fun _ _ _ => rfl, fun i j q => by rw [gI_sI, if_neg (by omega)]⟩
theorem rqF_sA {m a k : Nat} {V : mV} {x : Int} (ha : a = m + 68 ∨ a = m + 69) : rqF m V (sA V a k x) := ⟨rfl, rfl, fun i h1 h2 => gA_sAo (by omega), fun _ _ _ => rfl⟩
/-- the pile W, its base, how many are open, codes -/
def pq (V : mV) (m : Nat) (W : List Int) (bs : Nat) (oi : Int) (cs : List Int) : Prop := gI V m 100 = (W.length : Int) ∧ skp (gA V (m + 69)) W ∧ gI V m 102 = (bs : Int) ∧ gI V m 101 = oi ∧ gI V m 98 = (cs.length : Int) ∧ clr (gA V (m + 68)) 0 cs ∧ (∀ a ∈ W, 1 ≤ a ∧ a ≤ 60) ∧ W.length + cs.length ≤ 1600
theorem clr_snoc {c c' : Nat → Int} {v : Int} : ∀ {cs : List Int} {k : Nat}, clr c k cs → (∀ j, k ≤ j → j < k + cs.length → c' j = c j) → c' (k + cs.length) = v → clr c' k (cs ++ [v])
  | [], k, _, _, h => ⟨h, trivial⟩
  | w :: cs, k, p, e, h => by
    rw [List.length_cons] at e h
    refine ⟨by rw [e k (by omega) (by omega)]; exact p.1, clr_snoc p.2 (fun j a b => e j (by omega) (by omega)) ?_⟩
    rw [show k + 1 + cs.length = k + (cs.length + 1) by omega]; exact h
section
variable {G : mG} {V V' : mV} {m : Nat} {W S B cs : List Int} {bs : Nat} {oi : Int} {a v : Int} {T : mT2} {p : Nat}
theorem pq.lk (h : pq V m W bs oi cs) (k : rLk m V V') : pq V' m W bs oi cs := by
  obtain ⟨a1, a2, a3, a4, a5, a6, a7, a8⟩ := h
  have q := fun j hj => k.2.2.2 m j hj
  exact ⟨by rw [q 100 (by omega)]; exact a1, by rw [k.1]; exact a2, by rw [q 102 (by omega)]; exact a3, by rw [q 101 (by omega)]; exact a4, by rw [q 98 (by omega)]; exact a5, by rw [k.1]; exact a6, a7, a8⟩
theorem rA.pq (h : rA V m T p) (k : rqF m V V') : rA V' m T p := by
  obtain ⟨x1, x2, ⟨a, xa, xl, xb⟩, x4, x5, x6⟩ := h
  have q := fun j hj => k.2.2.2 m j hj
  exact ⟨fun j hj => by rw [k.2.2.1 _ (by omega) (by omega)]; exact x1 j hj, by rw [q 3 (by omega)]; exact x2, ⟨a, by rw [q 2 (by omega)]; exact xa, xl, xb⟩, by rw [q 4 (by omega)]; exact x4, by rw [q 4 (by omega)]; exact x5, x6⟩
theorem rqF.i (k : rqF m V V') {j : Nat} (hj : j ≠ 98 ∧ j ≠ 100 ∧ j ≠ 101 ∧ j ≠ 102) : gI V' m j = gI V m j := k.2.2.2 m j (Or.inr hj)
theorem p_oi {x : Int} (h : pq V m W bs oi cs) : pq (sI V m 101 x) m W bs x cs := by
  obtain ⟨a1, a2, a3, a4, a5, a6, a7, a8⟩ := h
  exact ⟨by rw [gI_sI, if_neg (by omega)]; exact a1, a2, by rw [gI_sI, if_neg (by omega)]; exact a3, by rw [gI_sI, if_pos ⟨rfl, rfl⟩], by rw [gI_sI, if_neg (by omega)]; exact a5, a6, a7, a8⟩
theorem p_pop (h : pq V m (a :: W) bs oi cs) : pq (sI V m 100 (gI V m 100 - 1)) m W bs oi cs := by
  obtain ⟨a1, a2, a3, a4, a5, a6, a7, a8⟩ := h
  rw [List.length_cons] at a1 a8
  exact ⟨by rw [gI_sI, if_pos ⟨rfl, rfl⟩, a1]; omega, a2.2, by rw [gI_sI, if_neg (by omega)]; exact a3, by rw [gI_sI, if_neg (by omega)]; exact a4, by rw [gI_sI, if_neg (by omega)]; exact a5, a6, fun b hb => a7 b (List.mem_cons_of_mem _ hb), by omega⟩
theorem p_top (h : pq V m (a :: W) bs oi cs) : gI V m 100 = (W.length : Int) + 1 ∧ gA V (m + 69) W.length = a ∧ (1 ≤ a ∧ a ≤ 60) ∧ W.length < 1600 := by
  obtain ⟨a1, a2, a3, a4, a5, a6, a7, a8⟩ := h
  rw [List.length_cons] at a1 a8
  exact ⟨by omega, a2.1, a7 a List.mem_cons_self, by omega⟩
theorem p_push (h : pq V m W bs oi cs) (hv : 1 ≤ v ∧ v ≤ 60) (hr : W.length + cs.length < 1600) : pq (sI (sA V (m + 69) (gI V m 100).toNat v) m 100 (gI (sA V (m + 69) (gI V m 100).toNat v) m 100 + 1)) m (v :: W) bs oi cs ∧ rqF m V (sI (sA V (m + 69) (gI V m 100).toNat v) m 100 (gI (sA V (m + 69) (gI V m 100).toNat v) m 100 + 1)) := by
  obtain ⟨a1, a2, a3, a4, a5, a6, a7, a8⟩ := h
  have hn : (gI V m 100).toNat = W.length := by omega
  have hA : gA (sA V (m + 69) W.length v) (m + 69) = uN (gA V (m + 69)) W.length v := gA_sAe
  refine ⟨⟨?_, ?_, by rw [gI_sI, if_neg (by omega)]; exact a3, by rw [gI_sI, if_neg (by omega)]; exact a4, by rw [gI_sI, if_neg (by omega)]; exact a5, ?_, fun b hb => ?_, by rw [List.length_cons]; omega⟩, (rqF_sA (Or.inr rfl)).trans (rqF_sI (by omega))⟩
  · rw [gI_sI, if_pos ⟨rfl, rfl⟩, List.length_cons]
    show gI V m 100 + 1 = _
    omega
  · rw [hn]
    show skp (gA (sA V (m + 69) W.length v) (m + 69)) (v :: W)
    rw [hA]
    exact skp_push a2
  · show clr (gA (sA V (m + 69) (gI V m 100).toNat v) (m + 68)) 0 cs
    rw [gA_sAo (by omega)]; exact a6
  · rcases List.mem_cons.mp hb with q | q
    · rw [q]; exact hv
    · exact a7 b q
theorem p_code (h : pq V m W bs oi cs) (hr : W.length + cs.length < 1600) : ∃ V', F_X10_qCode G m v V = some (V', 0) ∧ rqF m V V' ∧ pq V' m W bs oi (cs ++ [v]) := by
  obtain ⟨a1, a2, a3, a4, a5, a6, a7, a8⟩ := h
  refine ⟨sI (sA V (m + 68) cs.length v) m 98 ((cs.length : Int) + 1), ?_, (rqF_sA (Or.inl rfl)).trans (rqF_sI (by omega)), by rw [gI_sI, if_neg (by omega)]; exact a1, ?_, by rw [gI_sI, if_neg (by omega)]; exact a3, by rw [gI_sI, if_neg (by omega)]; exact a4, ?_, ?_, a7, ?_⟩
  · unfold F_X10_qCode
    refine E_gd ⟨by omega, by omega, by omega⟩ (E_lt (E_lt (E_so ?_ rfl)))
    show sI (sA V (m + 68) (gI V m 98).toNat v) m 98 (gI V m 98 + 1) = _
    rw [a5, Int.toNat_natCast]
  · show skp (gA (sA V (m + 68) cs.length v) (m + 69)) W
    rw [gA_sAo (by omega)]; exact a2
  · rw [gI_sI, if_pos ⟨rfl, rfl⟩, List.length_append]
    show (cs.length : Int) + 1 = ((cs.length + 1 : Nat) : Int)
    omega
  · show clr (gA (sA V (m + 68) cs.length v) (m + 68)) 0 (cs ++ [v])
    refine clr_snoc a6 (fun j _ b => ?_) ?_
    · rw [gA_sA, if_neg (by omega)]
    · rw [gA_sA, if_pos ⟨rfl, by omega⟩]
  · rw [List.length_append]
    show W.length + (cs.length + 1) ≤ 1600
    omega
theorem p_drops (h : pq V m (a :: W) bs oi cs) : ∃ V', F_X10_qDrops G m V = some (V', 0) ∧ rqF m V V' ∧ pq V' m W bs oi (cs ++ [a]) := by
  obtain ⟨t1, t2, t3, t4⟩ := p_top h
  have h1 := p_pop h
  have h8 := h.2.2.2.2.2.2.2
  rw [List.length_cons] at h8
  obtain ⟨V', e, k, q⟩ := p_code (G := G) (v := a) h1 (by omega)
  refine ⟨V', ?_, (rqF_sI (by omega)).trans k, q⟩
  have g1 : gI (sI V m 100 (gI V m 100 - 1)) m 100 = (W.length : Int) := h1.1
  unfold F_X10_qDrops
  refine E_lt (E_gd (by rw [g1]; omega) ?_)
  rw [g1, Int.toNat_natCast]
  show bd (F_X10_qCode G m (gA V (m + 69) W.length) (sI V m 100 (gI V m 100 - 1))) _ = _
  rw [t2]
  exact E_bd e rfl
def hdI : List Int → Int
  | [] => 0
  | a :: _ => a
theorem p_isOn {x : Int} (hx : 1 ≤ x ∧ x ≤ 60) (h : pq V m W bs oi cs) : F_X10_qIsOn G m x V = some (V, if hdI W = x then 1 else 0) := by
  unfold F_X10_qIsOn
  cases W with
  | nil =>
    have a1 : gI V m 100 = 0 := h.1
    rw [show (if hdI [] = x then (1 : Int) else 0) = 0 from if_neg (by show ¬ (0 : Int) = x; omega)]
    exact E_gd (by rw [a1]; decide) (E_if (fun _ => rfl) (fun q => by omega))
  | cons a W =>
    obtain ⟨t1, t2, t3, t4⟩ := p_top h
    refine E_gd ⟨by omega, by omega⟩ (E_if (fun q => by omega) (fun _ => E_gd ⟨by omega, by omega, by omega⟩ ?_))
    rw [show (gI V m 100 - 1).toNat = W.length by omega, t2]
    refine E_gd ⟨by omega, by omega⟩ (E_gd ⟨by omega, by omega⟩ (E_if (fun q => E_so rfl ?_) (fun q => E_so rfl ?_)))
    · exact (if_pos q).symm
    · exact (if_neg q).symm
theorem p_isB {x : Int} (hx : rg x) : F_X10_qIsBracket G x V = some (V, if 20 ≤ x ∧ x ≤ 24 then 1 else 0) := by
  unfold F_X10_qIsBracket
  refine E_gd hx (E_if (fun q => E_so rfl ?_) (fun q => E_if (fun q2 => E_so rfl ?_) (fun q2 => E_so rfl ?_)))
  · rw [if_neg (by omega)]
  · rw [if_neg (by omega)]
  · rw [if_pos (by omega)]
theorem p_brk (h : pq V m (S ++ B) B.length oi cs) : F_X10_qBracket G m V = some (V, brk S) := by
  obtain ⟨a1, a2, a3, a4, a5, a6, a7, a8⟩ := h
  have h100 : gI V m 100 = ((S ++ B).length : Int) := a1
  have key : ∀ (S : List Int) (fu : Nat), skp (gA V (m + 69)) (S ++ B) → (∀ a ∈ S ++ B, 1 ≤ a ∧ a ≤ 60) → (S ++ B).length ≤ 1600 → S.length < fu → ∃ k : Int, lp (fun (s : Int) V => B_X10_qBracket_7 G m s V) fu (((S ++ B).length : Int) - 1) V = some (V, 1, k) ∧ rg k ∧ ((k < (B.length : Int) ∧ brk S = -1) ∨ ((B.length : Int) ≤ k ∧ 0 ≤ k ∧ k < 1700 ∧ gA V (m + 69) k.toNat = brk S)) := by
    intro S
    induction S with
    | nil =>
      intro fu _ _ hl hf
      refine ⟨(B.length : Int) - 1, lp_stop (q := (1, (B.length : Int) - 1)) ?_ Nat.one_ne_zero hf, ⟨by omega, by rw [List.nil_append] at hl; omega⟩, Or.inl ⟨by omega, rfl⟩⟩
      show B_X10_qBracket_7 G m ((B.length : Int) - 1) V = _
      rw [List.nil_append] at hl
      unfold B_X10_qBracket_7
      rw [a3]
      exact E_gd ⟨by omega, by omega⟩ (E_gd ⟨by omega, by omega⟩ (E_if (fun _ => rfl) (fun q => by omega)))
    | cons a S ih =>
      intro fu hs hm hl hf
      have ha := hm a (by simp)
      rw [List.cons_append, List.length_cons] at hl ⊢
      have hn : (S ++ B).length = S.length + B.length := List.length_append
      rw [show (((S ++ B).length + 1 : Nat) : Int) - 1 = ((S ++ B).length : Int) by omega]
      have hc : gA V (m + 69) (S ++ B).length = a := hs.1
      obtain ⟨fu, rfl⟩ : ∃ j, fu = j + 1 := ⟨fu - 1, by omega⟩
      have eb := p_isB (G := G) (V := V) (x := a) ⟨by omega, by omega⟩
      by_cases b : 20 ≤ a ∧ a ≤ 24
      · rw [if_pos b] at eb
        refine ⟨((S ++ B).length : Int), lp_stop (q := (1, ((S ++ B).length : Int))) ?_ Nat.one_ne_zero (by omega), ⟨by omega, by omega⟩, Or.inr ⟨by omega, by omega, by omega, ?_⟩⟩
        · show B_X10_qBracket_7 G m ((S ++ B).length : Int) V = _
          unfold B_X10_qBracket_7
          rw [a3, Int.toNat_natCast, hc]
          exact E_gd ⟨by omega, by omega⟩ (E_gd ⟨by omega, by omega⟩ (E_if (fun q => by omega) (fun _ => E_gd ⟨by omega, by omega, by omega⟩ (E_bd eb (E_gd (by decide) (E_if (fun q => absurd q (by decide)) (fun _ => rfl)))))))
        · rw [Int.toNat_natCast, hc]
          exact (if_pos b).symm
      · rw [if_neg b] at eb
        rw [List.length_cons] at hf
        obtain ⟨k, e, kr, hk⟩ := ih fu hs.2 (fun b hb => hm b (List.mem_cons_of_mem _ hb)) (by omega) (by omega)
        refine ⟨k, ?_, kr, ?_⟩
        · rw [← e]
          refine lp_more ?_
          show B_X10_qBracket_7 G m ((S ++ B).length : Int) V = _
          unfold B_X10_qBracket_7
          rw [a3, Int.toNat_natCast, hc]
          refine E_gd ⟨by omega, by omega⟩ (E_gd ⟨by omega, by omega⟩ (E_if (fun q => by omega) (fun _ => E_gd ⟨by omega, by omega, by omega⟩ (E_bd eb (E_gd (by decide) (E_if (fun _ => E_lt (E_so rfl (Prod.ext rfl ?_))) (fun q => absurd rfl q)))))))
          show ((S ++ B).length : Int) + -1 = ((S ++ B).length : Int) - 1
          omega
        · rw [show brk (a :: S) = brk S from if_neg b]
          exact hk
  obtain ⟨k, e, kr, hk⟩ := key S FU a2 a7 (by omega) (by
    have hn : (S ++ B).length = S.length + B.length := List.length_append
    unfold FU; omega)
  unfold F_X10_qBracket
  refine E_lt ?_
  rw [h100]
  refine E_bd e ?_
  show F_X10_qBracket_J33 G m k V = _
  unfold F_X10_qBracket_J33
  rw [a3]
  have hn : (S ++ B).length = S.length + B.length := List.length_append
  rcases hk with ⟨k1, k2⟩ | ⟨k1, k2, k3, k4⟩
  · exact E_gd kr (E_gd ⟨by omega, by omega⟩ (E_if (fun _ => E_so rfl k2.symm) (fun q => by omega)))
  · exact E_gd kr (E_gd ⟨by omega, by omega⟩ (E_if (fun q => by omega) (fun _ => E_gd ⟨by omega, by omega, by omega⟩ (E_so rfl k4))))
/-- dropped while d -/
def dp (d : Int → Bool) : List Int → List Int → List Int × List Int
  | [], cs => ([], cs)
  | a :: S, cs => if d a = true then dp d S (cs ++ [a]) else (a :: S, cs)
theorem p_loop {d : Int → Bool} {Bd : Unit → mV → Option (mV × Nat × Unit)}
    (hs : ∀ V cs S, pq V m (S ++ B) bs oi cs → gI V m 5 = 0 → (S = [] ∨ ∃ a S', S = a :: S' ∧ d a = false) → Bd () V = some (V, 1, ()))
    (hd : ∀ V cs a S', pq V m (a :: (S' ++ B)) bs oi cs → gI V m 5 = 0 → d a = true → ∃ V', Bd () V = some (V', 0, ()) ∧ rqF m V V' ∧ pq V' m (S' ++ B) bs oi (cs ++ [a])) :
    ∀ (S cs : List Int) (V : mV) (fu : Nat), S.length < fu → gI V m 5 = 0 → pq V m (S ++ B) bs oi cs → ∃ V', lp Bd fu () V = some (V', 1, ()) ∧ rqF m V V' ∧ pq V' m ((dp d S cs).1 ++ B) bs oi (dp d S cs).2 := by
  intro S
  induction S with
  | nil =>
    intro cs V fu hf h5 h
    exact ⟨V, lp_stop (q := (1, ())) (hs V cs [] h h5 (Or.inl rfl)) Nat.one_ne_zero hf, rqF_refl, h⟩
  | cons a S ih =>
    intro cs V fu hf h5 h
    by_cases c : d a = true
    · obtain ⟨fu, rfl⟩ : ∃ j, fu = j + 1 := ⟨fu - 1, by omega⟩
      obtain ⟨V1, e1, k1, q1⟩ := hd V cs a S h h5 c
      rw [List.length_cons] at hf
      obtain ⟨V2, e2, k2, q2⟩ := ih (cs ++ [a]) V1 fu (by omega) (by rw [k1.i (by decide)]; exact h5) q1
      rw [show dp d (a :: S) cs = dp d S (cs ++ [a]) from if_pos c]
      exact ⟨V2, by rw [lp_more e1]; exact e2, k1.trans k2, q2⟩
    · rw [show dp d (a :: S) cs = (a :: S, cs) from if_neg c]
      exact ⟨V, lp_stop (q := (1, ())) (hs V cs (a :: S) h h5 (Or.inr ⟨a, S, rfl, by simpa using c⟩)) Nat.one_ne_zero (by omega), rqF_refl, h⟩
theorem dtb_dp : ∀ (S cs : List Int), dtb S cs = dp (fun a => decide (¬ (20 ≤ a ∧ a ≤ 24))) S cs
  | [], _ => rfl
  | a :: S, cs => by
    unfold dtb dp
    rw [dtb_dp S]
    by_cases c : 20 ≤ a ∧ a ≤ 24
    · rw [if_pos c, if_neg (show ¬ decide (¬ (20 ≤ a ∧ a ≤ 24)) = true from fun q => of_decide_eq_true q c)]
    · rw [if_neg c, if_pos (show decide (¬ (20 ≤ a ∧ a ≤ 24)) = true from decide_eq_true c)]
theorem dpm_dp : ∀ (S cs : List Int), dpm S cs = dp (fun a => decide (a = 3 ∨ a = 4)) S cs
  | [], _ => rfl
  | a :: S, cs => by
    unfold dpm dp
    rw [dpm_dp S]
    by_cases c : a = 3 ∨ a = 4
    · rw [if_pos c, if_pos (by simpa using c)]
    · rw [if_neg c, if_neg (by simpa using c)]
theorem dpa_dp : ∀ (S cs : List Int), dpa S cs = dp (fun a => decide (1 ≤ a ∧ a ≤ 4)) S cs
  | [], _ => rfl
  | a :: S, cs => by
    unfold dpa dp
    rw [dpa_dp S]
    by_cases c : 1 ≤ a ∧ a ≤ 4
    · rw [if_pos c, if_pos (by simpa using c)]
    · rw [if_neg c, if_neg (by simpa using c)]
theorem dsq_dp : ∀ (S cs : List Int), dsq S cs = dp (fun a => decide (a ≠ 25)) S cs
  | [], _ => rfl
  | a :: S, cs => by
    unfold dsq dp
    rw [dsq_dp S]
    by_cases c : a = 25
    · rw [if_pos c, if_neg (by simpa using c)]
    · rw [if_neg c, if_pos (by simpa using c)]
theorem dan_dp : ∀ (S cs : List Int), dan S cs = dp (fun a => decide (a = 10)) S cs
  | [], _ => rfl
  | a :: S, cs => by
    unfold dan dp
    rw [dan_dp S]
    by_cases c : a = 10
    · rw [if_pos c, if_pos (by simpa using c)]
    · rw [if_neg c, if_neg (by simpa using c)]
theorem dor_dp : ∀ (S cs : List Int), dor S cs = dp (fun a => decide (a = 10 ∨ a = 11)) S cs
  | [], _ => rfl
  | a :: S, cs => by
    unfold dor dp
    rw [dor_dp S]
    by_cases c : a = 10 ∨ a = 11
    · rw [if_pos c, if_pos (by simpa using c)]
    · rw [if_neg c, if_neg (by simpa using c)]
theorem all_dp : ∀ (S cs : List Int), ([], cs ++ S) = dp (fun _ => true) S cs
  | [], cs => by rw [List.append_nil]; rfl
  | a :: S, cs => by
    unfold dp
    rw [if_pos rfl, ← all_dp S, ap1]
end

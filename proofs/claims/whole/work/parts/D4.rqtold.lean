/-! codes of a question told by the reference: what they may ask alone is in bounds -/
section
variable {G : mG} {V : mV} {m : Nat} {g : Nat → Int} {L : Int}
theorem rq_step {N : Nat} {w : Int} (hE : gI V m 98 = (N : Int)) {kn : Int → Int} (hkn : ∀ (a : Int) (U : mV), -1000000 ≤ a ∧ a ≤ 1000000 → gA U = gA V → gI U m 58 = gI V m 58 → F_X10_qOf G m (60 - 60) a w U = some (U, kn a)) (hknb : ∀ a, rl (kn a) ∧ hld (kn a) = kn a) (hfb : ∀ k, k ∈ alS 3 → rl (rfa V m k) ∧ hld (rfa V m k) = rfa V m k) {k : Nat} (hk : k < N) (hN : N ≤ 1600) {v : Int} (hcell : gA V (m + 68) k = v) {s s' : List Int} (hp : skp g s) (he : est (rfa V m) kn v s = some s') (hl : s.length ≤ 64) (h58 : (40 ≤ v ∧ v ≤ 49 → 7 ≤ v - 40 → h7c V m) ∧ (40 ≤ v ∧ v ≤ 49 → v - 40 ∈ alS 3)) :
    ∃ g' : Nat → Int, skp g' s' ∧ s'.length ≤ 64 ∧ B_X10_qTold_7 G m w (k : Int) (pU V m g (s.length : Int)) = some (pU V m g' (s'.length : Int), 0, ((k + 1 : Nat) : Int)) := by
  have hv := est_rg he
  have hkk : ((k : Int) + 1) = ((k + 1 : Nat) : Int) := by omega
  have puts : ∀ x, F_X10_qPuts G m x (pU V m g (s.length : Int)) = some (pU V m (uN g s.length x) ((s.length : Int) + 1), 0) := by
    intro x
    rw [rp_puts ⟨by omega, by omega⟩]; rfl
  have pushed : ∀ x, s' = x :: s → skp (uN g s.length x) s' ∧ ((s.length : Int) + 1) = (s'.length : Int) := by
    intro x e; subst e; exact ⟨skp_push hp, by rw [List.length_cons]; omega⟩
  unfold est at he
  by_cases c1 : 1000 ≤ v ∧ v ≤ 10999
  · rw [if_pos c1] at he
    by_cases c2 : s.length < 64
    · rw [if_pos c2] at he
      have e := (Option.some.inj he).symm
      obtain ⟨a, b⟩ := pushed _ e
      refine ⟨_, a, by rw [e, List.length_cons]; omega, ?_⟩
      unfold B_X10_qTold_7
      refine E_gd ⟨by omega, by omega⟩ (E_gd (by rw [pU_I (Or.inr (by decide)), hE]; exact ⟨by omega, by omega⟩) (E_if (fun q => by rw [pU_I (Or.inr (by decide)), hE] at q; omega) (fun _ => ?_)))
      refine E_gd ⟨by omega, by omega, by omega⟩ (E_lt ?_)
      rw [pU_A, show ((k : Int)).toNat = k by omega, hcell]
      refine E_gd ⟨by omega, by omega⟩ ?_
      refine E_if (fun q => by omega) (fun q => ?_)
      exact E_gd ⟨by omega, by omega⟩ (E_bd (puts _) (E_lt (by rw [b, hkk])))
    · rw [if_neg c2] at he; cases he
  rw [if_neg c1] at he
  by_cases c3 : v = 60
  · rw [if_pos c3] at he
    subst c3
    cases s with
    | nil => cases he
    | cons a r =>
      simp only at he
      by_cases c4 : -1000000 ≤ a ∧ a ≤ 1000000
      · rw [if_pos c4] at he
        cases he
        rw [List.length_cons] at hl
        refine ⟨uN g r.length (kn a), ⟨by unfold uN; rw [if_pos rfl], skp_cg (fun j hj => by unfold uN; rw [if_neg (by omega)]) hp.2⟩, by rw [List.length_cons]; omega, ?_⟩
        unfold B_X10_qTold_7
        refine E_gd ⟨by omega, by omega⟩ (E_gd (by rw [pU_I (Or.inr (by decide)), hE]; exact ⟨by omega, by omega⟩) (E_if (fun q => by rw [pU_I (Or.inr (by decide)), hE] at q; omega) (fun _ => ?_)))
        refine E_gd ⟨by omega, by omega, by omega⟩ (E_lt ?_)
        rw [pU_A, show ((k : Int)).toNat = k by omega, hcell]
        refine E_gd ⟨by omega, by omega⟩ ?_
        refine E_if (fun _ => E_if (fun q => by omega) (fun _ => ?_)) (fun q => by omega)
        have e1 : (((a :: r).length : Int) - 1).toNat = r.length := by rw [List.length_cons]; omega
        refine E_gd (by rw [pU_L, List.length_cons]; exact ⟨by omega, by omega, by omega⟩) ?_
        rw [pU_L, e1, pU_G, hp.1]
        refine E_bd (hkn a (pU V m g (((a :: r).length : Nat) : Int)) c4 rfl (pU_I (Or.inr (by decide)))) (E_bd (rp_clip (hknb a).1) (E_lt (E_lt ?_)))
        rw [pU_put1, (hknb a).2, hkk, List.length_cons, List.length_cons]
      · rw [if_neg c4] at he; cases he
  rw [if_neg c3] at he
  by_cases c5 : 40 ≤ v ∧ v ≤ 49
  · rw [if_pos c5] at he
    by_cases c2 : s.length < 64
    · rw [if_pos c2] at he
      have e := (Option.some.inj he).symm
      obtain ⟨a, b⟩ := pushed _ e
      refine ⟨_, a, by rw [e, List.length_cons]; omega, ?_⟩
      unfold B_X10_qTold_7
      refine E_gd ⟨by omega, by omega⟩ (E_gd (by rw [pU_I (Or.inr (by decide)), hE]; exact ⟨by omega, by omega⟩) (E_if (fun q => by rw [pU_I (Or.inr (by decide)), hE] at q; omega) (fun _ => ?_)))
      refine E_gd ⟨by omega, by omega, by omega⟩ (E_lt ?_)
      rw [pU_A, show ((k : Int)).toNat = k by omega, hcell]
      refine E_gd ⟨by omega, by omega⟩ ?_
      refine E_if (fun _ => E_if (fun _ => E_if (fun q => by omega) (fun _ => ?_)) (fun q => by omega)) (fun q => by omega)
      refine E_bd (rp_part ⟨by omega, by omega⟩ (h7c_pU (h58.1 c5))) ?_
      exact (by rw [rfa_pU]; exact E_bd (rp_clip (hfb _ (h58.2 c5)).1) (by rw [(hfb _ (h58.2 c5)).2]; exact E_bd (puts _) (E_lt (by rw [b, hkk]))))
    · rw [if_neg c2] at he; cases he
  rw [if_neg c5] at he
  by_cases c6 : v = 13
  · rw [if_pos c6] at he
    by_cases c2 : s.length < 64
    · rw [if_pos c2] at he
      have e := (Option.some.inj he).symm
      obtain ⟨a, b⟩ := pushed _ e
      refine ⟨_, a, by rw [e, List.length_cons]; omega, ?_⟩
      unfold B_X10_qTold_7
      refine E_gd ⟨by omega, by omega⟩ (E_gd (by rw [pU_I (Or.inr (by decide)), hE]; exact ⟨by omega, by omega⟩) (E_if (fun q => by rw [pU_I (Or.inr (by decide)), hE] at q; omega) (fun _ => ?_)))
      refine E_gd ⟨by omega, by omega, by omega⟩ (E_lt ?_)
      rw [pU_A, show ((k : Int)).toNat = k by omega, hcell]
      refine E_gd ⟨by omega, by omega⟩ ?_
      refine E_if (fun _ => E_if (fun _ => E_if (fun _ => ?_) (fun q => by omega)) (fun q => by omega)) (fun q => by omega)
      exact E_if (fun _ => E_bd (puts _) (E_lt (by rw [b, hkk]))) (fun q => absurd c6 q)
    · rw [if_neg c2] at he; cases he
  rw [if_neg c6] at he
  by_cases c7 : v = 12
  · rw [if_pos c7] at he
    cases s with
    | nil => cases he
    | cons a r =>
      simp only at he
      by_cases c4 : a = 0 ∨ a = 1
      · rw [if_pos c4] at he
        cases he
        rw [List.length_cons] at hl
        refine ⟨uN g r.length (1 - a), ⟨by unfold uN; rw [if_pos rfl], skp_cg (fun j hj => by unfold uN; rw [if_neg (by omega)]) hp.2⟩, by rw [List.length_cons]; omega, ?_⟩
        unfold B_X10_qTold_7
        refine E_gd ⟨by omega, by omega⟩ (E_gd (by rw [pU_I (Or.inr (by decide)), hE]; exact ⟨by omega, by omega⟩) (E_if (fun q => by rw [pU_I (Or.inr (by decide)), hE] at q; omega) (fun _ => ?_)))
        refine E_gd ⟨by omega, by omega, by omega⟩ (E_lt ?_)
        rw [pU_A, show ((k : Int)).toNat = k by omega, hcell]
        refine E_gd ⟨by omega, by omega⟩ ?_
        refine E_if (fun _ => E_if (fun _ => E_if (fun _ => ?_) (fun q => by omega)) (fun q => by omega)) (fun q => by omega)
        refine E_if (fun q => absurd q c6) (fun _ => E_if (fun _ => ?_) (fun q => absurd c7 q))
        have e1 : (((a :: r).length : Int) - 1).toNat = r.length := by rw [List.length_cons]; omega
        refine E_gd (by rw [pU_L, List.length_cons]; exact ⟨by omega, by omega, by omega⟩) (E_lt (E_lt ?_))
        rw [pU_L, e1, pU_G, hp.1, pU_put1, hkk, List.length_cons, List.length_cons]
      · rw [if_neg c4] at he; cases he
  rw [if_neg c7] at he
  by_cases c8 : 1 ≤ v ∧ v ≤ 11
  · rw [if_pos c8] at he
    match s, hp, hl, he, puts, pushed with
    | [], _, _, he, _, _ => cases he
    | [_], _, _, he, _, _ => cases he
    | b :: a :: r, hp, hl, he, _, _ =>
      simp only at he
      by_cases c4 : (-1000000 ≤ a ∧ a ≤ 1000000) ∧ (-1000000 ≤ b ∧ b ≤ 1000000) ∧ (10 ≤ v → (a = 0 ∨ a = 1) ∧ (b = 0 ∨ b = 1))
      · rw [if_pos c4] at he
        cases he
        obtain ⟨ca, cb2, c01⟩ := c4
        rw [List.length_cons, List.length_cons] at hl
        refine ⟨uN g r.length (jn v a b), ⟨by unfold uN; rw [if_pos rfl], skp_cg (fun j hj => by unfold uN; rw [if_neg (by omega)]) hp.2.2⟩, by rw [List.length_cons]; omega, ?_⟩
        unfold B_X10_qTold_7
        refine E_gd ⟨by omega, by omega⟩ (E_gd (by rw [pU_I (Or.inr (by decide)), hE]; exact ⟨by omega, by omega⟩) (E_if (fun q => by rw [pU_I (Or.inr (by decide)), hE] at q; omega) (fun _ => ?_)))
        refine E_gd ⟨by omega, by omega, by omega⟩ (E_lt ?_)
        rw [pU_A, show ((k : Int)).toNat = k by omega, hcell]
        refine E_gd ⟨by omega, by omega⟩ ?_
        refine E_if (fun _ => E_if (fun _ => E_if (fun _ => ?_) (fun q => by omega)) (fun q => by omega)) (fun q => by omega)
        refine E_if (fun q => absurd q c6) (fun _ => E_if (fun q => absurd q c7) (fun _ => ?_))
        refine E_bd (rp_joins c8 ca cb2 c01 (by omega) (by rw [List.length_cons, List.length_cons]; omega) hp) (E_lt ?_)
        rw [hkk, List.length_cons]; rfl
      · rw [if_neg c4] at he; cases he
  · rw [if_neg c8] at he; cases he
theorem rq_loop {N : Nat} {w : Int} (hE : gI V m 98 = (N : Int)) {kn : Int → Int} (hkn : ∀ (a : Int) (U : mV), -1000000 ≤ a ∧ a ≤ 1000000 → gA U = gA V → gI U m 58 = gI V m 58 → F_X10_qOf G m (60 - 60) a w U = some (U, kn a)) (hknb : ∀ a, rl (kn a) ∧ hld (kn a) = kn a) (hfb : ∀ k, k ∈ alS 3 → rl (rfa V m k) ∧ hld (rfa V m k) = rfa V m k) (hN : N ≤ 1600) :
    ∀ (cs s : List Int) (k fu : Nat) (g : Nat → Int) (r : List Int), k + cs.length = N → clr (fun j => gA V (m + 68) j) k cs → (∀ v ∈ cs, (40 ≤ v ∧ v ≤ 49 → 7 ≤ v - 40 → h7c V m) ∧ (40 ≤ v ∧ v ≤ 49 → v - 40 ∈ alS 3)) → skp g s → s.length ≤ 64 → evs (rfa V m) kn cs s = some r → cs.length < fu →
    ∃ g' : Nat → Int, skp g' r ∧ r.length ≤ 64 ∧ lp (fun (s : Int) V => B_X10_qTold_7 G m w s V) fu (k : Int) (pU V m g (s.length : Int)) = some (pU V m g' (r.length : Int), 1, (N : Int)) := by
  intro cs
  induction cs with
  | nil =>
    intro s k fu g r hk hc hv hp hl he hf
    obtain ⟨fu, rfl⟩ : ∃ q, fu = q + 1 := ⟨fu - 1, by omega⟩
    have hkn : k = N := by simpa using hk
    subst hkn
    cases he
    refine ⟨g, hp, hl, ?_⟩
    unfold lp
    rw [show B_X10_qTold_7 G m w (k : Int) (pU V m g (s.length : Int)) = some (pU V m g (s.length : Int), 1, (k : Int)) by
      unfold B_X10_qTold_7
      exact E_gd ⟨by omega, by omega⟩ (E_gd (by rw [pU_I (Or.inr (by decide)), hE]; exact ⟨by omega, by omega⟩) (E_if (fun _ => rfl) (fun q => by rw [pU_I (Or.inr (by decide)), hE] at q; omega)))]
    rfl
  | cons v cs ih =>
    intro s k fu g r hk hc hv hp hl he hf
    obtain ⟨fu, rfl⟩ : ∃ q, fu = q + 1 := ⟨fu - 1, by omega⟩
    rw [List.length_cons] at hk hf
    unfold evs at he
    have hv0 := hv v List.mem_cons_self
    cases hs1 : est (rfa V m) kn v s with
    | none => rw [hs1] at he; cases he
    | some s1 =>
      rw [hs1] at he
      obtain ⟨g1, a2, a3, a4⟩ := rq_step (k := k) hE hkn hknb hfb (show k < N by omega) hN hc.1 hp hs1 hl hv0
      obtain ⟨g2, b2, b3, b4⟩ := ih s1 (k + 1) fu g1 r (by omega) hc.2 (fun w hw => hv w (List.mem_cons_of_mem _ hw)) a2 a3 he (by omega)
      refine ⟨g2, b2, b3, ?_⟩
      unfold lp
      rw [a4]
      exact b4
theorem rq_told {w : Int} {kn : Int → Int} {cs : List Int} {x : Int} (hE : gI V m 98 = (cs.length : Int)) (hN : cs.length ≤ 1600) (hc : clr (fun j => gA V (m + 68) j) 0 cs) (hkn : ∀ (a : Int) (U : mV), -1000000 ≤ a ∧ a ≤ 1000000 → gA U = gA V → gI U m 58 = gI V m 58 → F_X10_qOf G m (60 - 60) a w U = some (U, kn a)) (hknb : ∀ a, rl (kn a) ∧ hld (kn a) = kn a) (hfb : ∀ k, k ∈ alS 3 → rl (rfa V m k) ∧ hld (rfa V m k) = rfa V m k) (hv : ∀ v ∈ cs, (40 ≤ v ∧ v ≤ 49 → 7 ≤ v - 40 → h7c V m) ∧ (40 ≤ v ∧ v ≤ 49 → v - 40 ∈ alS 3)) (he : evs (rfa V m) kn cs [] = some [x]) :
    ∃ g : Nat → Int, F_X10_qTold G m w V = some (pU V m g 1, x) := by
  obtain ⟨g, a, b, e⟩ := rq_loop (G := G) (w := w) hE hkn hknb hfb hN cs [] 0 FU (gL V (m + 70)) [x] (by omega) hc hv trivial (by decide) he (by unfold FU; omega)
  refine ⟨g, ?_⟩
  unfold F_X10_qTold
  refine E_lt ?_
  rw [pU_own]
  refine E_bd e (E_so rfl ?_)
  exact pU_G.trans a.1
end

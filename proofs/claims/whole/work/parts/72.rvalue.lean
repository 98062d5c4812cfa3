/-! a formula's value: the reference's -/
def sG (V : mV) (i : Nat) (g : Nat → Int) : mV := (V.1, V.2.1, V.2.2.1, uF V.2.2.2 i g)
/-- the pile holds g, so many -/
def pU (V : mV) (m : Nat) (g : Nat → Int) (L : Int) : mV := sI (sG V (m + 70) g) m 104 L
theorem u2_u2 {α : Type} (f : Nat → Nat → α) (i k : Nat) (x y : α) : u2 (u2 f i k x) i k y = u2 f i k y := by
  funext a b; unfold u2; by_cases h : a = i ∧ b = k
  · rw [if_pos h, if_pos h]
  · rw [if_neg h, if_neg h, if_neg h]
theorem u2_uF {α : Type} (f : Nat → Nat → α) (i k : Nat) (g : Nat → α) (x : α) : u2 (uF f i g) i k x = uF f i (fun j => if j = k then x else g j) := by
  funext a b; unfold u2 uF; by_cases h : a = i
  · subst h; by_cases h2 : b = k <;> simp [h2]
  · simp [h]
section
variable {G : mG} {V : mV} {m : Nat} {g : Nat → Int} {L : Int}
theorem pU_len {L2 : Int} : sI (pU V m g L) m 104 L2 = pU V m g L2 := by
  show (u2 (u2 V.1 m 104 L) m 104 L2, (sG V (m + 70) g).2) = (u2 V.1 m 104 L2, (sG V (m + 70) g).2); rw [u2_u2]
theorem pU_put {k : Nat} {x L2 : Int} : sI (sL (pU V m g L) (m + 70) k x) m 104 L2 = pU V m (uN g k x) L2 := by
  show (u2 (u2 V.1 m 104 L) m 104 L2, V.2.1, V.2.2.1, u2 (uF V.2.2.2 (m + 70) g) (m + 70) k x) = (u2 V.1 m 104 L2, V.2.1, V.2.2.1, uF V.2.2.2 (m + 70) (uN g k x))
  rw [u2_u2, u2_uF]; rfl
theorem pU_put1 {k : Nat} {x : Int} : sL (pU V m g L) (m + 70) k x = pU V m (uN g k x) L := by
  show (u2 V.1 m 104 L, V.2.1, V.2.2.1, u2 (uF V.2.2.2 (m + 70) g) (m + 70) k x) = (u2 V.1 m 104 L, V.2.1, V.2.2.1, uF V.2.2.2 (m + 70) (uN g k x))
  rw [u2_uF]; rfl
theorem pU_L : gI (pU V m g L) m 104 = L := by unfold pU; rw [gI_sI, if_pos ⟨rfl, rfl⟩]
theorem pU_I {a b : Nat} (h : a ≠ m ∨ b ≠ 104) : gI (pU V m g L) a b = gI V a b := by unfold pU; rw [gI_sI, if_neg (by omega)]; rfl
theorem pU_A : gA (pU V m g L) = gA V := rfl
theorem pU_J : gJ (pU V m g L) = gJ V := rfl
theorem pU_G {k : Nat} : gL (pU V m g L) (m + 70) k = g k := by show uF V.2.2.2 (m + 70) g (m + 70) k = g k; unfold uF; rw [if_pos rfl]
theorem rp_puts {x : Int} (h : 0 ≤ L ∧ L < 1700) : F_X10_qPuts G m x (pU V m g L) = some (pU V m (uN g L.toNat x) (L + 1), 0) := by
  unfold F_X10_qPuts
  refine E_gd (by rw [pU_L]; omega) (E_lt (E_lt (E_so ?_ rfl)))
  rw [pU_L]
  show sI (sL (pU V m g L) (m + 70) L.toNat x) m 104 (gI (pU V m g L) m 104 + 1) = _
  rw [pU_L, pU_put]
theorem rp_clip {x : Int} (h : rl x) : F_X10_qClip G x V = some (V, hld x) := by
  unfold F_X10_qClip hld
  refine E_gd h (E_if (fun a => E_if (fun b => E_so rfl ?_) (fun b => E_so rfl ?_)) (fun a => E_so rfl ?_)) <;> omega
theorem rp_floor {a b : Int} (ha : rl a) (hb : rl b) (ha2 : -1000000000000 ≤ a ∧ a ≤ 1000000000000) : F_X10_qFloor G a b V = some (V, if b = 0 then 0 else a.fdiv b) := by
  unfold F_X10_qFloor
  refine E_gd hb (E_if (fun h => E_so rfl (by rw [if_pos h])) (fun h => E_gd ha (E_gd h (E_lt ?_))))
  have hm : rl (a.tmod b) := by
    have h1 : (a.tmod b).natAbs ≤ a.natAbs := by rw [Int.natAbs_tmod]; exact Nat.mod_le _ _
    omega
  have e := Int.mul_tdiv_add_tmod a b
  have e3 : b * a.tdiv b = a.tdiv b * b := Int.mul_comm _ _
  rw [fdv h]
  refine E_gd hm (E_if (fun c => E_so rfl ?_) (fun c => E_if (fun d => ?_) (fun d => ?_)))
  · rw [if_neg h, if_neg (by omega)]
  · unfold F_X10_qFloor_J32
    refine E_gd hb (E_if (fun q => ?_) (fun q => ?_))
    · unfold F_X10_qFloor_J43
      refine E_gd (by decide) (E_gd (by decide) (E_if (fun _ => E_so rfl ?_) (fun w => absurd rfl w)))
      rw [if_neg h, if_neg (by omega)]
    · unfold F_X10_qFloor_J43
      refine E_gd (by decide) (E_gd (by decide) (E_if (fun w => absurd w (by decide)) (fun w => E_so rfl ?_)))
      rw [if_neg h, if_pos ⟨by omega, by omega⟩]
  · unfold F_X10_qFloor_J32
    refine E_gd hb (E_if (fun q => ?_) (fun q => ?_))
    · unfold F_X10_qFloor_J43
      refine E_gd (by decide) (E_gd (by decide) (E_if (fun w => absurd w (by decide)) (fun w => E_so rfl ?_)))
      rw [if_neg h, if_pos ⟨by omega, by omega⟩]
    · unfold F_X10_qFloor_J43
      refine E_gd (by decide) (E_gd (by decide) (E_if (fun _ => E_so rfl ?_) (fun w => absurd rfl w)))
      rw [if_neg h, if_neg (by omega)]
theorem rp_joins {v a b : Int} {r : List Int} (hv : 1 ≤ v ∧ v ≤ 11) (ha : -1000000 ≤ a ∧ a ≤ 1000000) (hb : -1000000 ≤ b ∧ b ≤ 1000000) (h01 : 10 ≤ v → (a = 0 ∨ a = 1) ∧ (b = 0 ∨ b = 1)) (hl : r.length ≤ 1000) (hL : L = (r.length : Int) + 2) (hp : skp g (b :: a :: r)) :
    F_X10_qJoins G m v (pU V m g L) = some (pU V m (uN g r.length (jn v a b)) ((r.length : Int) + 1), 0) := by
  subst hL
  have hm := mul_bd ha hb
  have ra : rl a := ⟨by omega, by omega⟩
  have rb : rl b := ⟨by omega, by omega⟩
  have n1 : ((r.length : Int) + 2 - 1).toNat = (a :: r).length := by rw [List.length_cons]; omega
  have n2 : ((r.length : Int) + 2 - 2).toNat = r.length := by omega
  have put : ∀ x, F_X10_qPuts G m x (pU V m g ((r.length : Int) + 2 - 2)) = some (pU V m (uN g r.length x) ((r.length : Int) + 1), 0) := by
    intro x
    rw [rp_puts (by omega), n2, show (r.length : Int) + 2 - 2 + 1 = (r.length : Int) + 1 by omega]
  unfold F_X10_qJoins
  refine E_gd (by rw [pU_L]; omega) (E_lt (E_gd (by rw [pU_L]; omega) (E_lt (E_lt (E_gd ⟨by omega, by omega⟩ ?_)))))
  rw [pU_L, n1, n2, pU_G, pU_G, hp.1, hp.2.1, pU_len]
  unfold jn
  rcases (show v = 1 ∨ v = 2 ∨ v = 3 ∨ v = 4 ∨ v = 5 ∨ v = 6 ∨ v = 7 ∨ v = 8 ∨ v = 9 ∨ v = 10 ∨ v = 11 by omega) with rfl | rfl | rfl | rfl | rfl | rfl | rfl | rfl | rfl | rfl | rfl
  all_goals simp only [↓reduceIte, Int.reduceEq]
  · refine E_bd (rp_clip (x := a + b) ⟨by omega, by omega⟩) ?_
    exact E_bd (put _) rfl
  · refine E_bd (rp_clip (x := a - b) ⟨by omega, by omega⟩) ?_
    exact E_bd (put _) rfl
  · refine E_bd (rp_clip (x := a * b) ⟨by omega, by omega⟩) ?_
    exact E_bd (put _) rfl
  · refine E_bd (rp_floor ra rb ⟨by omega, by omega⟩) ?_
    exact E_bd (put _) rfl
  · refine E_gd ra (E_gd rb (E_if (fun h => E_bd (put _) (E_so ?_ rfl)) (fun h => E_bd (put _) (E_so ?_ rfl))))
    · rw [show min a b = b by omega]
    · rw [show min a b = a by omega]
  · refine E_gd ra (E_gd rb (E_if (fun h => E_bd (put _) (E_so ?_ rfl)) (fun h => E_bd (put _) (E_so ?_ rfl))))
    · rw [show max a b = b by omega]
    · rw [show max a b = a by omega]
  · refine E_gd ra (E_gd rb (E_if (fun h => E_bd (put _) (E_so ?_ rfl)) (fun h => E_bd (put _) (E_so ?_ rfl))))
    · show _ = pU V m (uN g r.length (if a < b then 1 else 0)) _; rw [if_neg (by omega)]
    · show _ = pU V m (uN g r.length (if a < b then 1 else 0)) _; rw [if_pos (by omega)]
  · refine E_gd ra (E_gd rb (E_if (fun h => E_bd (put _) (E_so ?_ rfl)) (fun h => E_bd (put _) (E_so ?_ rfl))))
    · show _ = pU V m (uN g r.length (if b < a then 1 else 0)) _; rw [if_neg (by omega)]
    · show _ = pU V m (uN g r.length (if b < a then 1 else 0)) _; rw [if_pos (by omega)]
  · refine E_gd ra (E_gd rb (E_if (fun h => E_bd (put _) (E_so ?_ rfl)) (fun h => E_bd (put _) (E_so ?_ rfl))))
    · show _ = pU V m (uN g r.length (if a = b then 1 else 0)) _; rw [if_pos h]
    · show _ = pU V m (uN g r.length (if a = b then 1 else 0)) _; rw [if_neg h]
  · refine E_bd (put _) (E_so ?_ rfl)
    obtain ⟨p | p, q | q⟩ := h01 (by omega) <;> subst p <;> subst q <;> rfl
  · refine E_gd ⟨by omega, by omega⟩ (E_if (fun h => E_bd (put _) (E_so ?_ rfl)) (fun h => E_bd (put _) (E_so ?_ rfl)))
    · obtain ⟨p | p, q | q⟩ := h01 (by omega) <;> subst p <;> subst q <;> first | rfl | (exfalso; omega)
    · obtain ⟨p | p, q | q⟩ := h01 (by omega) <;> subst p <;> subst q <;> first | rfl | (exfalso; omega)
end
/-- what a part tells, in the reference -/
def rfa (V : mV) (m : Nat) (k : Int) : Int := if k = 0 then gJ V m 51 else if k = 1 then gJ V m 52 else if k = 2 then gJ V m 53 else if k = 3 then gJ V m 54 else if k = 4 then gJ V m 55 else if k = 5 then gJ V m 56 else if k = 6 then gJ V m 57 else if k = 7 then gA V (m + 37) 0 else if k = 8 then (if gA V (m + 37) (1 + 12 * gI V m 58).toNat = -1 then 99 else gA V (m + 37) (1 + 12 * gI V m 58).toNat) else gA V (m + 40) (gI V m 58).toNat
/-- what the parts 7, 8, 9 want -/
def h7c (V : mV) (m : Nat) : Prop := rg (gA V (m + 37) 0) ∧ rg (gA V (m + 37) (1 + 12 * gI V m 58).toNat) ∧ rg (gA V (m + 40) (gI V m 58).toNat) ∧ 0 ≤ gI V m 58 ∧ gI V m 58 < 10
def clr (c : Nat → Int) : Nat → List Int → Prop
  | _, [] => True
  | k, v :: r => c k = v ∧ clr c (k + 1) r
section
variable {G : mG} {V : mV} {m : Nat} {g : Nat → Int} {L : Int}
theorem h7c_pU {k : Int} (h : 7 ≤ k → h7c V m) : 7 ≤ k → h7c (pU V m g L) m := by
  intro q
  have := h q
  unfold h7c at this ⊢
  rw [pU_A, pU_I (Or.inr (by decide))]
  exact this
theorem rp_part {k i : Int} (h : 0 ≤ k ∧ k ≤ 9) (h7 : 7 ≤ k → h7c V m) : F_X10_qPartOf G m k i V = some (V, rfa V m k) := by
  unfold F_X10_qPartOf rfa
  refine E_gd ⟨by omega, by omega⟩ ?_
  rcases (show k = 0 ∨ k = 1 ∨ k = 2 ∨ k = 3 ∨ k = 4 ∨ k = 5 ∨ k = 6 ∨ k = 7 ∨ k = 8 ∨ k = 9 by omega) with rfl | rfl | rfl | rfl | rfl | rfl | rfl | rfl | rfl | rfl
  · rfl
  · rfl
  · rfl
  · rfl
  · rfl
  · rfl
  · rfl
  · exact E_gd (h7 (by decide)).1 rfl
  · have hq := (h7 (by decide)).2.2.2
    have e : F_X10_livesNow G m (gI V m 58) V = some (V, gA V (m + 37) (1 + 12 * gI V m 58).toNat) := by
      unfold F_X10_livesNow
      exact E_gd ⟨by omega, by omega, by omega⟩ rfl
    have hwj := (h7 (by decide)).2.1
    simp only [↓reduceIte, Int.reduceEq]
    refine E_bd e ?_
    refine E_gd hwj ?_
    refine E_if (fun q => ?_) (fun q => ?_)
    · rw [if_pos q]
    · rw [if_neg q]
      refine E_bd e ?_
      exact E_gd hwj rfl
  · have hq := h7 (by decide)
    exact E_gd ⟨by have := hq.2.2.2; omega, by have := hq.2.2.2; omega, by have := hq.2.2.2; omega⟩ (E_gd hq.2.2.1 rfl)
theorem rfa_pU : rfa (pU V m g L) m = rfa V m := by
  funext k
  unfold rfa
  rw [pU_J, pU_A, pU_I (Or.inr (by decide))]
theorem rc_step {N : Nat} {w : Int} (hw4 : 0 ≤ w ∧ w ≤ 3) (hE : gA V (m + 35) (4 + w).toNat = (N : Int)) {kn : Int → Int} {k : Nat} (hk : k < N) (hN : N ≤ 1600) {v : Int} (hcell : gA V (m + 36) (1600 + k) = v) {s s' : List Int} (hp : skp g s) (he : est (rfa V m) kn v s = some s') (hl : s.length ≤ 64) (h60 : v ≠ 60) (h58 : 40 ≤ v ∧ v ≤ 49 → 7 ≤ v - 40 → h7c V m) :
    ∃ g' : Nat → Int, skp g' s' ∧ s'.length ≤ 64 ∧ B_X10_codesTell_14 G m w (k : Int) (pU V m g (s.length : Int)) = some (pU V m g' (s'.length : Int), 0, ((k + 1 : Nat) : Int)) := by
  have hv := est_rg he
  have hkk : ((k : Int) + 1) = ((k + 1 : Nat) : Int) := by omega
  have puts : ∀ x, F_X10_qPuts G m x (pU V m g (s.length : Int)) = some (pU V m (uN g s.length x) ((s.length : Int) + 1), 0) := by
    intro x
    rw [rp_puts ⟨by omega, by omega⟩]; rfl
  have pushed : ∀ x, s' = x :: s → skp (uN g s.length x) s' ∧ ((s.length : Int) + 1) = (s'.length : Int) := by
    intro x e; subst e; exact ⟨skp_push hp, by rw [List.length_cons]; omega⟩
  unfold est at he
  by_cases c1 : 1000 ≤ v ∧ v ≤ 10999
  · rw [if_pos c1] at he
    by_cases c2 : s.length < 64
    · rw [if_pos c2] at he
      have e := (Option.some.inj he).symm
      obtain ⟨a, b⟩ := pushed _ e
      refine ⟨_, a, by rw [e, List.length_cons]; omega, ?_⟩
      unfold B_X10_codesTell_14
      refine E_gd ⟨by omega, by omega, by omega⟩ (E_gd ⟨by omega, by omega⟩ (E_gd (by rw [pU_A, hE]; exact ⟨by omega, by omega⟩) (E_if (fun q => by rw [pU_A, hE] at q; omega) (fun _ => ?_))))
      refine E_gd ⟨by omega, by omega, by omega⟩ (E_lt ?_)
      rw [pU_A, show (1600 + (k : Int)).toNat = 1600 + k by omega, hcell]
      refine E_gd ⟨by omega, by omega⟩ ?_
      refine E_if (fun q => by omega) (fun q => ?_)
      exact E_gd ⟨by omega, by omega⟩ (E_bd (puts _) (E_lt (by rw [b, hkk])))
    · rw [if_neg c2] at he; cases he
  rw [if_neg c1] at he
  rw [if_neg h60] at he
  by_cases c5 : 40 ≤ v ∧ v ≤ 49
  · rw [if_pos c5] at he
    by_cases c2 : s.length < 64
    · rw [if_pos c2] at he
      have e := (Option.some.inj he).symm
      obtain ⟨a, b⟩ := pushed _ e
      refine ⟨_, a, by rw [e, List.length_cons]; omega, ?_⟩
      unfold B_X10_codesTell_14
      refine E_gd ⟨by omega, by omega, by omega⟩ (E_gd ⟨by omega, by omega⟩ (E_gd (by rw [pU_A, hE]; exact ⟨by omega, by omega⟩) (E_if (fun q => by rw [pU_A, hE] at q; omega) (fun _ => ?_))))
      refine E_gd ⟨by omega, by omega, by omega⟩ (E_lt ?_)
      rw [pU_A, show (1600 + (k : Int)).toNat = 1600 + k by omega, hcell]
      refine E_gd ⟨by omega, by omega⟩ ?_
      refine E_if (fun _ => E_if (fun q => by omega) (fun _ => ?_)) (fun q => by omega)
      refine E_bd (rp_part ⟨by omega, by omega⟩ (h7c_pU (h58 c5))) ?_
      exact (E_bd (puts _) (E_lt (by rw [rfa_pU, b, hkk])))
    · rw [if_neg c2] at he; cases he
  rw [if_neg c5] at he
  by_cases c6 : v = 13
  · rw [if_pos c6] at he
    by_cases c2 : s.length < 64
    · rw [if_pos c2] at he
      have e := (Option.some.inj he).symm
      obtain ⟨a, b⟩ := pushed _ e
      refine ⟨_, a, by rw [e, List.length_cons]; omega, ?_⟩
      unfold B_X10_codesTell_14
      refine E_gd ⟨by omega, by omega, by omega⟩ (E_gd ⟨by omega, by omega⟩ (E_gd (by rw [pU_A, hE]; exact ⟨by omega, by omega⟩) (E_if (fun q => by rw [pU_A, hE] at q; omega) (fun _ => ?_))))
      refine E_gd ⟨by omega, by omega, by omega⟩ (E_lt ?_)
      rw [pU_A, show (1600 + (k : Int)).toNat = 1600 + k by omega, hcell]
      refine E_gd ⟨by omega, by omega⟩ ?_
      refine E_if (fun _ => E_if (fun _ => ?_) (fun q => by omega)) (fun q => by omega)
      exact E_if (fun _ => E_bd (puts _) (E_lt (by rw [b, hkk]))) (fun q => absurd c6 q)
    · rw [if_neg c2] at he; cases he
  rw [if_neg c6] at he
  by_cases c7 : v = 12
  · rw [if_pos c7] at he
    cases s with
    | nil => cases he
    | cons a r =>
      simp only at he
      by_cases c4 : a = 0 ∨ a = 1
      · rw [if_pos c4] at he
        cases he
        rw [List.length_cons] at hl
        refine ⟨uN g r.length (1 - a), ⟨by unfold uN; rw [if_pos rfl], skp_cg (fun j hj => by unfold uN; rw [if_neg (by omega)]) hp.2⟩, by rw [List.length_cons]; omega, ?_⟩
        unfold B_X10_codesTell_14
        refine E_gd ⟨by omega, by omega, by omega⟩ (E_gd ⟨by omega, by omega⟩ (E_gd (by rw [pU_A, hE]; exact ⟨by omega, by omega⟩) (E_if (fun q => by rw [pU_A, hE] at q; omega) (fun _ => ?_))))
        refine E_gd ⟨by omega, by omega, by omega⟩ (E_lt ?_)
        rw [pU_A, show (1600 + (k : Int)).toNat = 1600 + k by omega, hcell]
        refine E_gd ⟨by omega, by omega⟩ ?_
        refine E_if (fun _ => E_if (fun _ => ?_) (fun q => by omega)) (fun q => by omega)
        refine E_if (fun q => absurd q c6) (fun _ => E_if (fun _ => ?_) (fun q => absurd c7 q))
        have e1 : (((a :: r).length : Int) - 1).toNat = r.length := by rw [List.length_cons]; omega
        refine E_gd (by rw [pU_L, List.length_cons]; exact ⟨by omega, by omega, by omega⟩) (E_lt (E_lt ?_))
        rw [pU_L, e1, pU_G, hp.1, pU_put1, hkk, List.length_cons, List.length_cons]
      · rw [if_neg c4] at he; cases he
  rw [if_neg c7] at he
  by_cases c8 : 1 ≤ v ∧ v ≤ 11
  · rw [if_pos c8] at he
    match s, hp, hl, he, puts, pushed with
    | [], _, _, he, _, _ => cases he
    | [_], _, _, he, _, _ => cases he
    | b :: a :: r, hp, hl, he, _, _ =>
      simp only at he
      by_cases c4 : (-1000000 ≤ a ∧ a ≤ 1000000) ∧ (-1000000 ≤ b ∧ b ≤ 1000000) ∧ (10 ≤ v → (a = 0 ∨ a = 1) ∧ (b = 0 ∨ b = 1))
      · rw [if_pos c4] at he
        cases he
        obtain ⟨ca, cb2, c01⟩ := c4
        rw [List.length_cons, List.length_cons] at hl
        refine ⟨uN g r.length (jn v a b), ⟨by unfold uN; rw [if_pos rfl], skp_cg (fun j hj => by unfold uN; rw [if_neg (by omega)]) hp.2.2⟩, by rw [List.length_cons]; omega, ?_⟩
        unfold B_X10_codesTell_14
        refine E_gd ⟨by omega, by omega, by omega⟩ (E_gd ⟨by omega, by omega⟩ (E_gd (by rw [pU_A, hE]; exact ⟨by omega, by omega⟩) (E_if (fun q => by rw [pU_A, hE] at q; omega) (fun _ => ?_))))
        refine E_gd ⟨by omega, by omega, by omega⟩ (E_lt ?_)
        rw [pU_A, show (1600 + (k : Int)).toNat = 1600 + k by omega, hcell]
        refine E_gd ⟨by omega, by omega⟩ ?_
        refine E_if (fun _ => E_if (fun _ => ?_) (fun q => by omega)) (fun q => by omega)
        refine E_if (fun q => absurd q c6) (fun _ => E_if (fun q => absurd q c7) (fun _ => ?_))
        refine E_bd (rp_joins c8 ca cb2 c01 (by omega) (by rw [List.length_cons, List.length_cons]; omega) hp) (E_lt ?_)
        rw [hkk, List.length_cons]; rfl
      · rw [if_neg c4] at he; cases he
  · rw [if_neg c8] at he; cases he
theorem rt_step {N : Nat} {w : Int} (hE : gI V m 98 = (N : Int)) {kn : Int → Int} (hkn : ∀ (a : Int) (U : mV), -1000000 ≤ a ∧ a ≤ 1000000 → gA U = gA V → gI U m 58 = gI V m 58 → F_X10_qOf G m (60 - 60) a w U = some (U, kn a)) (hknb : ∀ a, rl (kn a) ∧ hld (kn a) = kn a) (hfb : ∀ k, 0 ≤ k ∧ k ≤ 9 → rl (rfa V m k) ∧ hld (rfa V m k) = rfa V m k) {k : Nat} (hk : k < N) (hN : N ≤ 1600) {v : Int} (hcell : gA V (m + 68) k = v) {s s' : List Int} (hp : skp g s) (he : est (rfa V m) kn v s = some s') (hl : s.length ≤ 64) (h58 : 40 ≤ v ∧ v ≤ 49 → 7 ≤ v - 40 → h7c V m) :
    ∃ g' : Nat → Int, skp g' s' ∧ s'.length ≤ 64 ∧ B_X10_qTold_7 G m w (k : Int) (pU V m g (s.length : Int)) = some (pU V m g' (s'.length : Int), 0, ((k + 1 : Nat) : Int)) := by
  have hv := est_rg he
  have hkk : ((k : Int) + 1) = ((k + 1 : Nat) : Int) := by omega
  have puts : ∀ x, F_X10_qPuts G m x (pU V m g (s.length : Int)) = some (pU V m (uN g s.length x) ((s.length : Int) + 1), 0) := by
    intro x
    rw [rp_puts ⟨by omega, by omega⟩]; rfl
  have pushed : ∀ x, s' = x :: s → skp (uN g s.length x) s' ∧ ((s.length : Int) + 1) = (s'.length : Int) := by
    intro x e; subst e; exact ⟨skp_push hp, by rw [List.length_cons]; omega⟩
  unfold est at he
  by_cases c1 : 1000 ≤ v ∧ v ≤ 10999
  · rw [if_pos c1] at he
    by_cases c2 : s.length < 64
    · rw [if_pos c2] at he
      have e := (Option.some.inj he).symm
      obtain ⟨a, b⟩ := pushed _ e
      refine ⟨_, a, by rw [e, List.length_cons]; omega, ?_⟩
      unfold B_X10_qTold_7
      refine E_gd ⟨by omega, by omega⟩ (E_gd (by rw [pU_I (Or.inr (by decide)), hE]; exact ⟨by omega, by omega⟩) (E_if (fun q => by rw [pU_I (Or.inr (by decide)), hE] at q; omega) (fun _ => ?_)))
      refine E_gd ⟨by omega, by omega, by omega⟩ (E_lt ?_)
      rw [pU_A, show ((k : Int)).toNat = k by omega, hcell]
      refine E_gd ⟨by omega, by omega⟩ ?_
      refine E_if (fun q => by omega) (fun q => ?_)
      exact E_gd ⟨by omega, by omega⟩ (E_bd (puts _) (E_lt (by rw [b, hkk])))
    · rw [if_neg c2] at he; cases he
  rw [if_neg c1] at he
  by_cases c3 : v = 60
  · rw [if_pos c3] at he
    subst c3
    cases s with
    | nil => cases he
    | cons a r =>
      simp only at he
      by_cases c4 : -1000000 ≤ a ∧ a ≤ 1000000
      · rw [if_pos c4] at he
        cases he
        rw [List.length_cons] at hl
        refine ⟨uN g r.length (kn a), ⟨by unfold uN; rw [if_pos rfl], skp_cg (fun j hj => by unfold uN; rw [if_neg (by omega)]) hp.2⟩, by rw [List.length_cons]; omega, ?_⟩
        unfold B_X10_qTold_7
        refine E_gd ⟨by omega, by omega⟩ (E_gd (by rw [pU_I (Or.inr (by decide)), hE]; exact ⟨by omega, by omega⟩) (E_if (fun q => by rw [pU_I (Or.inr (by decide)), hE] at q; omega) (fun _ => ?_)))
        refine E_gd ⟨by omega, by omega, by omega⟩ (E_lt ?_)
        rw [pU_A, show ((k : Int)).toNat = k by omega, hcell]
        refine E_gd ⟨by omega, by omega⟩ ?_
        refine E_if (fun _ => E_if (fun q => by omega) (fun _ => ?_)) (fun q => by omega)
        have e1 : (((a :: r).length : Int) - 1).toNat = r.length := by rw [List.length_cons]; omega
        refine E_gd (by rw [pU_L, List.length_cons]; exact ⟨by omega, by omega, by omega⟩) ?_
        rw [pU_L, e1, pU_G, hp.1]
        refine E_bd (hkn a (pU V m g (((a :: r).length : Nat) : Int)) c4 rfl (pU_I (Or.inr (by decide)))) (E_bd (rp_clip (hknb a).1) (E_lt (E_lt ?_)))
        rw [pU_put1, (hknb a).2, hkk, List.length_cons, List.length_cons]
      · rw [if_neg c4] at he; cases he
  rw [if_neg c3] at he
  by_cases c5 : 40 ≤ v ∧ v ≤ 49
  · rw [if_pos c5] at he
    by_cases c2 : s.length < 64
    · rw [if_pos c2] at he
      have e := (Option.some.inj he).symm
      obtain ⟨a, b⟩ := pushed _ e
      refine ⟨_, a, by rw [e, List.length_cons]; omega, ?_⟩
      unfold B_X10_qTold_7
      refine E_gd ⟨by omega, by omega⟩ (E_gd (by rw [pU_I (Or.inr (by decide)), hE]; exact ⟨by omega, by omega⟩) (E_if (fun q => by rw [pU_I (Or.inr (by decide)), hE] at q; omega) (fun _ => ?_)))
      refine E_gd ⟨by omega, by omega, by omega⟩ (E_lt ?_)
      rw [pU_A, show ((k : Int)).toNat = k by omega, hcell]
      refine E_gd ⟨by omega, by omega⟩ ?_
      refine E_if (fun _ => E_if (fun _ => E_if (fun q => by omega) (fun _ => ?_)) (fun q => by omega)) (fun q => by omega)
      refine E_bd (rp_part ⟨by omega, by omega⟩ (h7c_pU (h58 c5))) ?_
      exact (by rw [rfa_pU]; exact E_bd (rp_clip (hfb _ (by omega)).1) (by rw [(hfb _ (by omega)).2]; exact E_bd (puts _) (E_lt (by rw [b, hkk]))))
    · rw [if_neg c2] at he; cases he
  rw [if_neg c5] at he
  by_cases c6 : v = 13
  · rw [if_pos c6] at he
    by_cases c2 : s.length < 64
    · rw [if_pos c2] at he
      have e := (Option.some.inj he).symm
      obtain ⟨a, b⟩ := pushed _ e
      refine ⟨_, a, by rw [e, List.length_cons]; omega, ?_⟩
      unfold B_X10_qTold_7
      refine E_gd ⟨by omega, by omega⟩ (E_gd (by rw [pU_I (Or.inr (by decide)), hE]; exact ⟨by omega, by omega⟩) (E_if (fun q => by rw [pU_I (Or.inr (by decide)), hE] at q; omega) (fun _ => ?_)))
      refine E_gd ⟨by omega, by omega, by omega⟩ (E_lt ?_)
      rw [pU_A, show ((k : Int)).toNat = k by omega, hcell]
      refine E_gd ⟨by omega, by omega⟩ ?_
      refine E_if (fun _ => E_if (fun _ => E_if (fun _ => ?_) (fun q => by omega)) (fun q => by omega)) (fun q => by omega)
      exact E_if (fun _ => E_bd (puts _) (E_lt (by rw [b, hkk]))) (fun q => absurd c6 q)
    · rw [if_neg c2] at he; cases he
  rw [if_neg c6] at he
  by_cases c7 : v = 12
  · rw [if_pos c7] at he
    cases s with
    | nil => cases he
    | cons a r =>
      simp only at he
      by_cases c4 : a = 0 ∨ a = 1
      · rw [if_pos c4] at he
        cases he
        rw [List.length_cons] at hl
        refine ⟨uN g r.length (1 - a), ⟨by unfold uN; rw [if_pos rfl], skp_cg (fun j hj => by unfold uN; rw [if_neg (by omega)]) hp.2⟩, by rw [List.length_cons]; omega, ?_⟩
        unfold B_X10_qTold_7
        refine E_gd ⟨by omega, by omega⟩ (E_gd (by rw [pU_I (Or.inr (by decide)), hE]; exact ⟨by omega, by omega⟩) (E_if (fun q => by rw [pU_I (Or.inr (by decide)), hE] at q; omega) (fun _ => ?_)))
        refine E_gd ⟨by omega, by omega, by omega⟩ (E_lt ?_)
        rw [pU_A, show ((k : Int)).toNat = k by omega, hcell]
        refine E_gd ⟨by omega, by omega⟩ ?_
        refine E_if (fun _ => E_if (fun _ => E_if (fun _ => ?_) (fun q => by omega)) (fun q => by omega)) (fun q => by omega)
        refine E_if (fun q => absurd q c6) (fun _ => E_if (fun _ => ?_) (fun q => absurd c7 q))
        have e1 : (((a :: r).length : Int) - 1).toNat = r.length := by rw [List.length_cons]; omega
        refine E_gd (by rw [pU_L, List.length_cons]; exact ⟨by omega, by omega, by omega⟩) (E_lt (E_lt ?_))
        rw [pU_L, e1, pU_G, hp.1, pU_put1, hkk, List.length_cons, List.length_cons]
      · rw [if_neg c4] at he; cases he
  rw [if_neg c7] at he
  by_cases c8 : 1 ≤ v ∧ v ≤ 11
  · rw [if_pos c8] at he
    match s, hp, hl, he, puts, pushed with
    | [], _, _, he, _, _ => cases he
    | [_], _, _, he, _, _ => cases he
    | b :: a :: r, hp, hl, he, _, _ =>
      simp only at he
      by_cases c4 : (-1000000 ≤ a ∧ a ≤ 1000000) ∧ (-1000000 ≤ b ∧ b ≤ 1000000) ∧ (10 ≤ v → (a = 0 ∨ a = 1) ∧ (b = 0 ∨ b = 1))
      · rw [if_pos c4] at he
        cases he
        obtain ⟨ca, cb2, c01⟩ := c4
        rw [List.length_cons, List.length_cons] at hl
        refine ⟨uN g r.length (jn v a b), ⟨by unfold uN; rw [if_pos rfl], skp_cg (fun j hj => by unfold uN; rw [if_neg (by omega)]) hp.2.2⟩, by rw [List.length_cons]; omega, ?_⟩
        unfold B_X10_qTold_7
        refine E_gd ⟨by omega, by omega⟩ (E_gd (by rw [pU_I (Or.inr (by decide)), hE]; exact ⟨by omega, by omega⟩) (E_if (fun q => by rw [pU_I (Or.inr (by decide)), hE] at q; omega) (fun _ => ?_)))
        refine E_gd ⟨by omega, by omega, by omega⟩ (E_lt ?_)
        rw [pU_A, show ((k : Int)).toNat = k by omega, hcell]
        refine E_gd ⟨by omega, by omega⟩ ?_
        refine E_if (fun _ => E_if (fun _ => E_if (fun _ => ?_) (fun q => by omega)) (fun q => by omega)) (fun q => by omega)
        refine E_if (fun q => absurd q c6) (fun _ => E_if (fun q => absurd q c7) (fun _ => ?_))
        refine E_bd (rp_joins c8 ca cb2 c01 (by omega) (by rw [List.length_cons, List.length_cons]; omega) hp) (E_lt ?_)
        rw [hkk, List.length_cons]; rfl
      · rw [if_neg c4] at he; cases he
  · rw [if_neg c8] at he; cases he
theorem rc_loop {N : Nat} {w : Int} (hw4 : 0 ≤ w ∧ w ≤ 3) (hE : gA V (m + 35) (4 + w).toNat = (N : Int)) {kn : Int → Int} (hN : N ≤ 1600) :
    ∀ (cs s : List Int) (k fu : Nat) (g : Nat → Int) (r : List Int), k + cs.length = N → clr (fun j => gA V (m + 36) (1600 + j)) k cs → (∀ v ∈ cs, v ≠ 60 ∧ (40 ≤ v ∧ v ≤ 49 → 7 ≤ v - 40 → h7c V m)) → skp g s → s.length ≤ 64 → evs (rfa V m) kn cs s = some r → cs.length < fu →
    ∃ g' : Nat → Int, skp g' r ∧ r.length ≤ 64 ∧ lp (fun (s : Int) V => B_X10_codesTell_14 G m w s V) fu (k : Int) (pU V m g (s.length : Int)) = some (pU V m g' (r.length : Int), 1, (N : Int)) := by
  intro cs
  induction cs with
  | nil =>
    intro s k fu g r hk hc hv hp hl he hf
    obtain ⟨fu, rfl⟩ : ∃ q, fu = q + 1 := ⟨fu - 1, by omega⟩
    have hkn : k = N := by simpa using hk
    subst hkn
    cases he
    refine ⟨g, hp, hl, ?_⟩
    unfold lp
    rw [show B_X10_codesTell_14 G m w (k : Int) (pU V m g (s.length : Int)) = some (pU V m g (s.length : Int), 1, (k : Int)) by
      unfold B_X10_codesTell_14
      exact E_gd ⟨by omega, by omega, by omega⟩ (E_gd ⟨by omega, by omega⟩ (E_gd (by rw [pU_A, hE]; exact ⟨by omega, by omega⟩) (E_if (fun _ => rfl) (fun q => by rw [pU_A, hE] at q; omega))))]
    rfl
  | cons v cs ih =>
    intro s k fu g r hk hc hv hp hl he hf
    obtain ⟨fu, rfl⟩ : ∃ q, fu = q + 1 := ⟨fu - 1, by omega⟩
    rw [List.length_cons] at hk hf
    unfold evs at he
    have hv0 := hv v List.mem_cons_self
    cases hs1 : est (rfa V m) kn v s with
    | none => rw [hs1] at he; cases he
    | some s1 =>
      rw [hs1] at he
      obtain ⟨g1, a2, a3, a4⟩ := rc_step (k := k) hw4 hE (show k < N by omega) hN hc.1 hp hs1 hl hv0.1 hv0.2
      obtain ⟨g2, b2, b3, b4⟩ := ih s1 (k + 1) fu g1 r (by omega) hc.2 (fun w hw => hv w (List.mem_cons_of_mem _ hw)) a2 a3 he (by omega)
      refine ⟨g2, b2, b3, ?_⟩
      unfold lp
      rw [a4]
      exact b4
theorem rt_loop {N : Nat} {w : Int} (hE : gI V m 98 = (N : Int)) {kn : Int → Int} (hkn : ∀ (a : Int) (U : mV), -1000000 ≤ a ∧ a ≤ 1000000 → gA U = gA V → gI U m 58 = gI V m 58 → F_X10_qOf G m (60 - 60) a w U = some (U, kn a)) (hknb : ∀ a, rl (kn a) ∧ hld (kn a) = kn a) (hfb : ∀ k, 0 ≤ k ∧ k ≤ 9 → rl (rfa V m k) ∧ hld (rfa V m k) = rfa V m k) (hN : N ≤ 1600) :
    ∀ (cs s : List Int) (k fu : Nat) (g : Nat → Int) (r : List Int), k + cs.length = N → clr (fun j => gA V (m + 68) j) k cs → (∀ v ∈ cs, (40 ≤ v ∧ v ≤ 49 → 7 ≤ v - 40 → h7c V m)) → skp g s → s.length ≤ 64 → evs (rfa V m) kn cs s = some r → cs.length < fu →
    ∃ g' : Nat → Int, skp g' r ∧ r.length ≤ 64 ∧ lp (fun (s : Int) V => B_X10_qTold_7 G m w s V) fu (k : Int) (pU V m g (s.length : Int)) = some (pU V m g' (r.length : Int), 1, (N : Int)) := by
  intro cs
  induction cs with
  | nil =>
    intro s k fu g r hk hc hv hp hl he hf
    obtain ⟨fu, rfl⟩ : ∃ q, fu = q + 1 := ⟨fu - 1, by omega⟩
    have hkn : k = N := by simpa using hk
    subst hkn
    cases he
    refine ⟨g, hp, hl, ?_⟩
    unfold lp
    rw [show B_X10_qTold_7 G m w (k : Int) (pU V m g (s.length : Int)) = some (pU V m g (s.length : Int), 1, (k : Int)) by
      unfold B_X10_qTold_7
      exact E_gd ⟨by omega, by omega⟩ (E_gd (by rw [pU_I (Or.inr (by decide)), hE]; exact ⟨by omega, by omega⟩) (E_if (fun _ => rfl) (fun q => by rw [pU_I (Or.inr (by decide)), hE] at q; omega)))]
    rfl
  | cons v cs ih =>
    intro s k fu g r hk hc hv hp hl he hf
    obtain ⟨fu, rfl⟩ : ∃ q, fu = q + 1 := ⟨fu - 1, by omega⟩
    rw [List.length_cons] at hk hf
    unfold evs at he
    have hv0 := hv v List.mem_cons_self
    cases hs1 : est (rfa V m) kn v s with
    | none => rw [hs1] at he; cases he
    | some s1 =>
      rw [hs1] at he
      obtain ⟨g1, a2, a3, a4⟩ := rt_step (k := k) hE hkn hknb hfb (show k < N by omega) hN hc.1 hp hs1 hl hv0
      obtain ⟨g2, b2, b3, b4⟩ := ih s1 (k + 1) fu g1 r (by omega) hc.2 (fun w hw => hv w (List.mem_cons_of_mem _ hw)) a2 a3 he (by omega)
      refine ⟨g2, b2, b3, ?_⟩
      unfold lp
      rw [a4]
      exact b4
theorem pU_own : sI V m 104 L = pU V m (gL V (m + 70)) L := by
  show (u2 V.1 m 104 L, V.2.1, V.2.2.1, V.2.2.2) = (u2 V.1 m 104 L, V.2.1, V.2.2.1, uF V.2.2.2 (m + 70) (gL V (m + 70)))
  have e : uF V.2.2.2 (m + 70) (gL V (m + 70)) = V.2.2.2 := by
    funext a
    unfold uF
    split
    · next h => subst h; rfl
    · rfl
  rw [e]
/-- a text's codes told -/
theorem r_tell {w : Int} {kn : Int → Int} {fr en : Nat} {cs : List Int} {x : Int} (hw4 : 0 ≤ w ∧ w ≤ 3) (hS : gA V (m + 34) (4 + w).toNat = (fr : Int)) (hE : gA V (m + 35) (4 + w).toNat = (en : Int)) (hen : fr + cs.length = en) (hN : en ≤ 1600) (hc : clr (fun j => gA V (m + 36) (1600 + j)) fr cs) (hv : ∀ v ∈ cs, v ≠ 60 ∧ (40 ≤ v ∧ v ≤ 49 → 7 ≤ v - 40 → h7c V m)) (he : evs (rfa V m) kn cs [] = some [x]) :
    ∃ g : Nat → Int, F_X10_codesTell G m w V = some (pU V m g 1, x) := by
  obtain ⟨g, a, b, e⟩ := rc_loop (G := G) hw4 hE hN cs [] fr FU (gL V (m + 70)) [x] hen hc hv trivial (by decide) he (by unfold FU; omega)
  refine ⟨g, ?_⟩
  unfold F_X10_codesTell
  refine E_lt (E_gd ⟨by omega, by omega, by omega⟩ (E_lt ?_))
  rw [pU_own, pU_A, hS]
  refine E_bd e (E_so rfl ?_)
  exact pU_G.trans a.1
theorem r_told {w : Int} {kn : Int → Int} {cs : List Int} {x : Int} (hE : gI V m 98 = (cs.length : Int)) (hN : cs.length ≤ 1600) (hc : clr (fun j => gA V (m + 68) j) 0 cs) (hkn : ∀ (a : Int) (U : mV), -1000000 ≤ a ∧ a ≤ 1000000 → gA U = gA V → gI U m 58 = gI V m 58 → F_X10_qOf G m (60 - 60) a w U = some (U, kn a)) (hknb : ∀ a, rl (kn a) ∧ hld (kn a) = kn a) (hfb : ∀ k, 0 ≤ k ∧ k ≤ 9 → rl (rfa V m k) ∧ hld (rfa V m k) = rfa V m k) (hv : ∀ v ∈ cs, (40 ≤ v ∧ v ≤ 49 → 7 ≤ v - 40 → h7c V m)) (he : evs (rfa V m) kn cs [] = some [x]) :
    ∃ g : Nat → Int, F_X10_qTold G m w V = some (pU V m g 1, x) := by
  obtain ⟨g, a, b, e⟩ := rt_loop (G := G) (w := w) hE hkn hknb hfb hN cs [] 0 FU (gL V (m + 70)) [x] (by omega) hc hv trivial (by decide) he (by unfold FU; omega)
  refine ⟨g, ?_⟩
  unfold F_X10_qTold
  refine E_lt ?_
  rw [pU_own]
  refine E_bd e (E_so rfl ?_)
  exact pU_G.trans a.1
end

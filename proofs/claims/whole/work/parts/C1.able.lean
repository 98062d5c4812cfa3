/-! what can be done now: both -/
theorem itr_snoc {α : Type} (f : Int → α → α) : ∀ (m : Nat) (k : Int) (a : α), itr f k (m + 1) a = f (k + m) (itr f k m a) := by
  intro m
  induction m with
  | zero =>
    intro k a
    show f k a = f (k + ((0 : Nat) : Int)) a
    rw [show k + ((0 : Nat) : Int) = k by omega]
  | succ m ih =>
    intro k a
    have e := ih (k + 1) (f k a)
    show itr f (k + 1) (m + 1) (f k a) = f (k + ((m + 1 : Nat) : Int)) (itr f (k + 1) m (f k a))
    rw [e, show k + 1 + (m : Int) = k + ((m + 1 : Nat) : Int) by omega]
theorem cP_take (q : Int × Int × Int → Bool) (D : List (Int × Int × Int)) (k : Nat) (h : k < D.length) : (((D.take (k + 1)).countP q : Nat) : Int) = ((D.take k).countP q : Nat) + if q D[k] = true then 1 else 0 := by
  rw [List.take_succ, List.getElem?_eq_getElem h, Option.toList_some, List.countP_append, List.countP_singleton]
  split <;> omega
theorem cP_srt {C : mCy} (ho : okC C) (q : Int × Int × Int → Bool) : (srt (cn C).toNat (cd C)).countP q = (cd C).countP q := by
  have hD : ∀ d ∈ cd C, 0 ≤ d.1 ∧ d.1 < cn C := fun d hd => (ho.2.2.1.2 d hd).1
  have hn := ho.1
  have e : ∀ (n : Nat) (d : Int × Int × Int), (if (decide (0 ≤ d.1 ∧ d.1 < (n : Int)) && q d) = true then 1 else 0) + (if (q d && decide (d.1 = (n : Int))) = true then 1 else 0) = (if (decide (0 ≤ d.1 ∧ d.1 < ((n + 1 : Nat) : Int)) && q d) = true then (1 : Nat) else 0) := by
    intro n d
    cases q d with
    | false => simp
    | true =>
      simp only [Bool.and_true, Bool.true_and, decide_eq_true_eq]
      by_cases h1 : 0 ≤ d.1 ∧ d.1 < (n : Int)
      · rw [if_pos h1, if_neg (by omega), if_pos (by omega)]
      · by_cases h2 : d.1 = (n : Int)
        · rw [if_neg h1, if_pos h2, if_pos (by omega)]
        · rw [if_neg h1, if_neg h2, if_neg (by omega)]
  have e2 : ∀ (n : Nat) (D : List (Int × Int × Int)), D.countP (fun d => decide (0 ≤ d.1 ∧ d.1 < (n : Int)) && q d) + D.countP (fun d => q d && decide (d.1 = (n : Int))) = D.countP (fun d => decide (0 ≤ d.1 ∧ d.1 < ((n + 1 : Nat) : Int)) && q d) := by
    intro n D
    induction D with
    | nil => rfl
    | cons d D ih =>
      rw [List.countP_cons, List.countP_cons, List.countP_cons, ← ih, ← e n d]
      omega
  have key : ∀ n : Nat, (srt n (cd C)).countP q = (cd C).countP (fun d => decide (0 ≤ d.1 ∧ d.1 < (n : Int)) && q d) := by
    intro n
    induction n with
    | zero =>
      symm
      show _ = 0
      rw [List.countP_eq_zero]
      intro d _ h
      rw [Bool.and_eq_true, decide_eq_true_eq] at h
      omega
    | succ n ih =>
      rw [srt_succ, List.countP_append, ih, List.countP_filter]
      exact e2 n _
  rw [key]
  refine List.countP_congr (fun d hd => ?_)
  have := hD d hd
  rw [decide_eq_true (show 0 ≤ d.1 ∧ d.1 < (((cn C).toNat : Nat) : Int) by omega), Bool.true_and]
/-- a duty of a life that one can do by so many points -/
def dobB (C : mCy) (p l pts day : Int) (d : Int × Int × Int) : Bool := decide (d.1 = l ∧ able C pts (if p = l then 1 else 0) d.2.1 d.2.2 day ≠ 0)
def dob (C : mCy) (p l pts day : Int) : Int := ((cd C).countP (dobB C p l pts day) : Nat)
abbrev zE (G : mG) (x : Nat) : Nat → Prop := fun i => i = x + 6 ∨ (x + 27 ≤ i ∧ i ≤ x + 37) ∨ (x + 45 ≤ i ∧ i < x + 245) ∨ (gR G x 10 ≤ i ∧ i ≤ gR G x 10 + 40)
section
variable {G : mG} {V V1 : mV} {cr c mo x m : Nat} {C : mCy} {M : mMo} {B : Int} {n : Int} {Z : mZ}
theorem vC_T (h : vC V c C) (k : fr (sT cr c) V V1) (hd : cr + 10 < c) : vC V1 c C := h.fr k (fun _ _ _ w s => Or.elim s (fun s => by omega) w)
theorem vM_T (h : vM V mo n M B) (k : fr (sT cr c) V V1) (hmo : cr + 10 < mo) (hd : mo + 8 < c) : vM V1 mo n M B := h.fr k (fun _ _ _ s => by simp only [sT, isSk] at s; omega)
theorem vZ_T (hv : vZ G V x Z) (k : fr (sT (x + 27) (gR G x 10)) V V1) (hk : kC V1 (x + 27)) : fr (zE G x) V V1 ∧ vZ G V1 x Z := by
  obtain ⟨a, b, c, d, ⟨e0, f⟩, g, i, j⟩ := hv
  refine ⟨k.mono (fun i q => by simp only [sT, isSk] at q; simp only [zE]; omega), a, vC_T b k (by omega), vM_T c k (by omega) (by omega), hk, ⟨e0, f.fr k (fun _ _ _ s => by simp only [sT, isSk] at s; omega)⟩, ?_, i.fr k (fun _ _ _ s => by simp only [sT, isSk] at s; omega), j.fr k (by simp only [sT, isSk]; omega) (by simp only [sT, isSk]; omega)⟩
  rw [k.I (by simp only [sT, isSk]; omega)]; exact g
theorem c_ableNow (hG : is2 G cr) (hc : is1 G c) (hm : is4 G mo) (ho : okC C) (hv : vC V c C) (hk : kC V cr) (hmo : cr + 10 < mo) (hd : mo + 8 < c) (hM : vM V mo (cn C) M B) (hoM : okM (cn C) M) {p l task clock : Int} (hp : 0 ≤ p ∧ p < cn C) (hl : 0 ≤ l ∧ l < cn C) (ht : 0 ≤ task ∧ task < ct C) (hck : 0 ≤ clock ∧ clock < 24) :
    ∃ V', F_X2_ableNow G cr c mo p l task clock V = some (V', canD C M p l task clock) ∧ kC V' cr ∧ fr (sT cr c) V V' ∧ (canD C M p l task clock = 0 ∨ canD C M p l task clock = 1) := by
  have hn := ho.1
  have hh := hoM.1
  have hpt := hoM.2.2.2.2.1 p l hp.1 hp.2 hl.1 hl.2
  obtain ⟨V1, e1, k1, f1, t1⟩ := c_time (V := V) hG hk (a := clock) (b := mh M / 24) ⟨by omega, by omega⟩ ⟨by omega, by omega⟩
  have f1' : fr (sT cr c) V V1 := f1.mono (fun i q => Or.inl q)
  obtain ⟨V2, e2, k2, f2, -, o2⟩ := c_able (V := V1) hG hc ho (vC_T hv f1' (by omega)) k1 (by omega) hp hl ht hpt t1
  refine ⟨V2, ?_, k2, f1'.trans f2, o2⟩
  unfold F_X2_ableNow
  rw [hM.1, (tm24 hh.1).2]
  exact E_gd ⟨by omega, by omega⟩ (E_bd e1 (E_bd (m_points hm hn.2 (vM_T hM f1' hmo hd) hp hl) (E_bd e2 (E_gd o2 rfl))))
theorem c_countAble (hG : is2 G cr) (hc : is1 G c) (hm : is4 G mo) (ho : okC C) (hv : vC V c C) (hk : kC V cr) (hmo : cr + 10 < mo) (hd : mo + 8 < c) (hM : vM V mo (cn C) M B) (hoM : okM (cn C) M) {p l : Int} (hp : 0 ≤ p ∧ p < cn C) (hl : 0 ≤ l ∧ l < cn C) :
    ∃ V', F_X2_countAble G cr c mo p l V = some (V', dob C p l (mp M p l) (mh M / 24)) ∧ kC V' cr ∧ fr (sT cr c) V V' := by
  have hn := ho.1
  have hD := ho.2.2.1
  have hlen := srt_len (cn C).toNat (cd C)
  have hsum := cP_srt ho (dobB C p l (mp M p l) (mh M / 24))
  generalize hDD : srt (cn C).toNat (cd C) = D at hlen hsum
  have hmem : ∀ d, d ∈ D → d ∈ cd C := fun d h => by rw [← hDD] at h; exact srt_mem h
  have vd : ∀ {U}, vC U c C → vD U c D := fun h => by rw [← hDD]; exact h.2.2.2.1
  have main : Wp (lp (fun (s : Int × Int) V => B_X2_countAble_6 G cr c mo p l s.1 s.2 V) FU (0, 0) V) (fun V' q => fr (sT cr c) V V' ∧ kC V' cr ∧ q.2.1 = ((D.countP (dobB C p l (mp M p l) (mh M / 24)) : Nat) : Int)) := by
    refine W_lp (fun w (y : Int × Int) U => fr (sT cr c) V U ∧ kC U cr ∧ ∃ k : Nat, y = ((((D.take k).countP (dobB C p l (mp M p l) (mh M / 24)) : Nat) : Int), (k : Int)) ∧ k + w = D.length) ?_ FU D.length _ V ⟨fr_refl, hk, 0, rfl, by omega⟩ (by unfold FU; omega)
    rintro w y U ⟨hf, hkU, k, rfl, hw⟩
    show Wp (B_X2_countAble_6 G cr c mo p l (((D.take k).countP (dobB C p l (mp M p l) (mh M / 24)) : Nat) : Int) (k : Int) U) _
    have hvU := vC_T hv hf (by omega)
    have hMU := vM_T hM hf hmo hd
    obtain ⟨d1, d2, d3⟩ := vd hvU
    unfold B_X2_countAble_6
    refine W_be p7_size ?_
    rw [d1.1]
    refine W_gd ⟨by omega, by omega⟩ (W_gd ⟨by omega, by omega⟩ (W_if (fun q => W_so (Or.inr ⟨Nat.one_ne_zero, hf, hkU, ?_⟩)) (fun q => ?_)))
    · have e : k = D.length := by omega
      show (((D.take k).countP (dobB C p l (mp M p l) (mh M / 24)) : Nat) : Int) = _
      rw [e, List.take_length]
    · have hkl : k < D.length := by omega
      have hdk : D.getD k d0 = D[k] := by rw [List.getD_eq_getElem?_getD, List.getElem?_eq_getElem hkl]; rfl
      obtain ⟨od1, od2, od3⟩ := hD.2 _ (hmem _ (List.getElem_mem hkl))
      have st := cP_take (dobB C p l (mp M p l) (mh M / 24)) D k hkl
      have r15 : F_X7_get G (c + 15) (k : Int) U = some (U, D[k].1) := by
        rw [rw_get (s1_7s hc) (s1_7c hc) d1 (by omega) ⟨by omega, by omega⟩]
        simp only [Int.toNat_natCast, hdk]
      have r17 : F_X7_get G (c + 17) (k : Int) U = some (U, D[k].2.1) := by
        rw [rw_get (s1_8s hc) (s1_8c hc) d2 (by omega) ⟨by omega, by omega⟩]
        simp only [Int.toNat_natCast, hdk]
      have r19 : F_X7_get G (c + 19) (k : Int) U = some (U, D[k].2.2) := by
        rw [rw_get (s1_9s hc) (s1_9c hc) d3 (by omega) ⟨by omega, by omega⟩]
        simp only [Int.toNat_natCast, hdk]
      refine W_be r15 (W_gd ⟨by omega, by omega⟩ (W_gd ⟨by omega, by omega⟩ (W_if (fun e => ?_) (fun e => ?_))))
      · obtain ⟨U1, g1, kk1, f1, o1⟩ := c_ableNow hG hc hm ho hvU hkU hmo hd hMU hoM hp hl od2 od3
        refine W_be r17 (W_be r19 (W_be g1 (W_gd ⟨by omega, by omega⟩ (W_if (fun z => ?_) (fun z => ?_)))))
        · have nq : ¬ dobB C p l (mp M p l) (mh M / 24) D[k] = true := fun q => (of_decide_eq_true q).2 z
          exact W_lt (W_so (Or.inl ⟨rfl, w - 1, by omega, hf.trans f1, kk1, k + 1, by rw [st, if_neg nq, Int.add_zero]; rfl, by omega⟩))
        · have yq : dobB C p l (mp M p l) (mh M / 24) D[k] = true := decide_eq_true ⟨e, z⟩
          exact W_lt (W_lt (W_so (Or.inl ⟨rfl, w - 1, by omega, hf.trans f1, kk1, k + 1, by rw [st, if_pos yq]; rfl, by omega⟩)))
      · have nq : ¬ dobB C p l (mp M p l) (mh M / 24) D[k] = true := fun q => e (of_decide_eq_true q).1
        exact W_lt (W_so (Or.inl ⟨rfl, w - 1, by omega, hf, hkU, k + 1, by rw [st, if_neg nq, Int.add_zero]; rfl, by omega⟩))
  obtain ⟨V', q, e1, e2, e3, e4⟩ := main
  refine ⟨V', ?_, e3, e2⟩
  unfold F_X2_countAble
  refine E_bd e1 (E_so rfl ?_)
  rw [e4, hsum]; rfl
theorem r_doable (ho : okC C) (hv : rC V m C) (hM : rM (gA V (m + 37)) (cn C) M) (hoM : okM (cn C) M) {p l pts : Int} (hp : rg p) (hl : rg l) (hpt : 0 ≤ pts ∧ pts ≤ 99) :
    ∃ V', F_X10_doable G m p l pts V = some (V', dob C p l pts (mh M / 24)) ∧ rT m V V' := by
  have hD := ho.2.2.1
  have hn := ho.1
  have hh := hoM.1
  have main : Wp (lp (fun (s : Int × Int) V => B_X10_doable_6 G m p l pts s.1 s.2 V) FU (0, 0) V) (fun V' q => rT m V V' ∧ q.2.1 = dob C p l pts (mh M / 24)) := by
    refine W_lp (fun w (y : Int × Int) U => rT m V U ∧ ∃ k : Nat, y = (((((cd C).take k).countP (dobB C p l pts (mh M / 24)) : Nat) : Int), (k : Int)) ∧ k + w = (cd C).length) ?_ FU (cd C).length _ V ⟨rT_refl, 0, rfl, by omega⟩ (by unfold FU; omega)
    rintro w y U ⟨hf, k, rfl, hw⟩
    show Wp (B_X10_doable_6 G m p l pts ((((cd C).take k).countP (dobB C p l pts (mh M / 24)) : Nat) : Int) (k : Int) U) _
    have hvU := hv.fr hf.cs
    have h0 : gA U (m + 37) 0 = mh M := by rw [hf.1]; exact hM.1
    unfold B_X10_doable_6
    refine W_be (r_dmany hvU) (W_gd ⟨by omega, by omega⟩ (W_gd ⟨by omega, by omega⟩ (W_if (fun q => W_so (Or.inr ⟨Nat.one_ne_zero, hf, ?_⟩)) (fun q => ?_))))
    · have e : k = (cd C).length := by omega
      show ((((cd C).take k).countP (dobB C p l pts (mh M / 24)) : Nat) : Int) = _
      rw [e, List.take_length]; rfl
    · have hkl : k < (cd C).length := by omega
      obtain ⟨r0, r1, r2⟩ := r_duty (G := G) ho hvU hkl
      have hdk : (cd C).getD k d0 = (cd C)[k] := by rw [List.getD_eq_getElem?_getD, List.getElem?_eq_getElem hkl]; rfl
      obtain ⟨o1, o2, o3⟩ := hD.2 _ (List.getElem_mem hkl)
      rw [hdk] at r0 r1 r2
      have st := cP_take (dobB C p l pts (mh M / 24)) (cd C) k hkl
      refine W_be r0 (W_gd ⟨by omega, by omega⟩ (W_gd hl (W_if (fun e => ?_) (fun e => ?_))))
      · have fin : ∀ own : Int, own = (if p = l then (1 : Int) else 0) → Wp (F_X10_doable_J38_6 G m p l pts ((((cd C).take k).countP (dobB C p l pts (mh M / 24)) : Nat) : Int) (k : Int) pts own U) (fun V' q => (q.1 = 0 ∧ ∃ w', w' < w ∧ (rT m V V' ∧ ∃ k : Nat, q.2 = (((((cd C).take k).countP (dobB C p l pts (mh M / 24)) : Nat) : Int), (k : Int)) ∧ k + w' = (cd C).length)) ∨ (q.1 ≠ 0 ∧ (rT m V V' ∧ q.2.1 = dob C p l pts (mh M / 24)))) := by
          intro own hown
          obtain ⟨U1, g1, f1, b1⟩ := r_able (G := G) ho hvU (pts := pts) (own := own) (task := (cd C)[k].2.1) (clock := (cd C)[k].2.2) (day := mh M / 24) (by rw [hown]; split <;> simp) o2 hpt ⟨by omega, by omega⟩ ⟨by omega, by omega⟩
          unfold F_X10_doable_J38_6
          refine W_be r1 (W_be r2 ?_)
          rw [h0, (tm24 hh.1).2]
          refine W_gd ⟨by omega, by omega⟩ (W_be g1 (W_gd ⟨by omega, by omega⟩ (W_if (fun z => ?_) (fun z => ?_))))
          · have nq : ¬ dobB C p l pts (mh M / 24) (cd C)[k] = true := fun q => (of_decide_eq_true q).2 (by rw [← hown]; exact z)
            exact W_lt (W_so (Or.inl ⟨rfl, w - 1, by omega, hf.trans f1, k + 1, by rw [st, if_neg nq, Int.add_zero]; rfl, by omega⟩))
          · have yq : dobB C p l pts (mh M / 24) (cd C)[k] = true := decide_eq_true ⟨e, by rw [← hown]; exact z⟩
            exact W_lt (W_lt (W_so (Or.inl ⟨rfl, w - 1, by omega, hf.trans f1, k + 1, by rw [st, if_pos yq]; rfl, by omega⟩)))
        exact W_gd hp (W_if (fun q => fin 1 (by rw [if_pos q])) (fun q => fin 0 (by rw [if_neg q])))
      · have nq : ¬ dobB C p l pts (mh M / 24) (cd C)[k] = true := fun q => e (of_decide_eq_true q).1
        exact W_lt (W_so (Or.inl ⟨rfl, w - 1, by omega, hf, k + 1, by rw [st, if_neg nq, Int.add_zero]; rfl, by omega⟩))
  obtain ⟨V', q, e1, e2, e3⟩ := main
  refine ⟨V', ?_, e2⟩
  unfold F_X10_doable
  exact E_bd e1 (E_so rfl e3)
end

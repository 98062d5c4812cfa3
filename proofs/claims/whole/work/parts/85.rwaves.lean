/-! waves (reference): it stops by itself -/
theorem ci_dec {f g : Int → Int} {v k0 : Int} (hf : f k0 = v) (hg : g k0 ≠ v) (h : ∀ j, j ≠ k0 → g j = f j) : ∀ (m : Nat) (k : Int), (k0 < k ∨ k + m ≤ k0 → ci g v k m = ci f v k m) ∧ (k ≤ k0 → k0 < k + m → ci g v k m + 1 = ci f v k m) := by
  intro m
  induction m with
  | zero => intro k; exact ⟨fun _ => rfl, fun a b => by omega⟩
  | succ m ih =>
    intro k
    refine ⟨fun a => ?_, fun a b => ?_⟩
    · unfold ci
      rw [h k (by omega), (ih (k + 1)).1 (by omega)]
    · unfold ci
      by_cases e : k = k0
      · subst e
        rw [if_neg hg, if_pos hf, (ih (k + 1)).1 (Or.inl (by omega))]; omega
      · have := (ih (k + 1)).2 (by omega) (by omega)
        rw [h k e]
        split <;> omega
theorem ci_pos {f : Int → Int} {v k0 : Int} (hf : f k0 = v) : ∀ (m : Nat) (k : Int), k ≤ k0 → k0 < k + m → 1 ≤ ci f v k m := by
  intro m
  induction m with
  | zero => intro k a b; omega
  | succ m ih =>
    intro k a b
    have r := ci_rg f v m (k + 1)
    unfold ci
    by_cases e : k = k0
    · rw [if_pos (by rw [e]; exact hf)]; omega
    · have := ih (k + 1) (by omega) (by omega)
      split <;> omega
/-- how many are at home -/
def hom (n : Int) (lv : Int → Int) : Int := ci (fun q => lv q - q) 0 0 n.toNat
theorem hom_dec {n k left : Int} {lv : Int → Int} (hk : 0 ≤ k ∧ k < n) (h : lv k = k) (hl : left ≠ k) : hom n (uf lv k left) + 1 = hom n lv := by
  refine (ci_dec (f := fun q => lv q - q) (g := fun q => uf lv k left q - q) (v := 0) (k0 := k) (by show lv k - k = 0; omega) ?_ (fun j hj => ?_) n.toNat 0).2 hk.1 (by omega)
  · show uf lv k left k - k ≠ 0
    unfold uf; rw [if_pos rfl]; omega
  · show uf lv k left j - j = lv j - j
    unfold uf; rw [if_neg hj]
section
variable {G : mG} {V : mV} {m : Nat} {C : mCy} {M : mMo}
theorem r_called (ho : okC C) (hv : rC V m C) (hM : rM (gA V (m + 37)) (cn C) M) (hoM : okM (cn C) M) {p : Int} (hp : 0 ≤ p ∧ p < cn C) (hh : ml M p ≠ -1) :
    Wp (F_X10_isCalled G m p V) (fun V' _ => rH m V V' ∧ rM (gA V' (m + 37)) (cn C) (calM C M p) ∧ gI V' m 65 = (sendA C (ml M) p).2.1 ∧ gI V' m 64 = ((sendA C (ml M) p).2.2.length : Int) ∧ (∀ i : Nat, i < (sendA C (ml M) p).2.2.length → gA V' (m + 41) i = (sendA C (ml M) p).2.2.getD i 0) ∧ gI V' m 61 = gI V m 61) := by
  have hn := ho.1
  have hr := hoM.2.1 p hp.1 hp.2
  have hM1 : rM (gA (sI (sA V (m + 37) (1 + 12 * p).toNat (-1)) m 64 0) (m + 37)) (cn C) (mh M, uf (ml M) p (-1), mw M, mp M, me M) := by
    show rM (gA (sA V (m + 37) (1 + 12 * p).toNat (-1)) (m + 37)) _ _
    rw [gA_sAe]; exact rM_setL hM hn.2 hp
  have k1 : rH m V (sI (sA V (m + 37) (1 + 12 * p).toNat (-1)) m 64 0) := (rH_sA (Or.inl rfl)).trans (rH_sI (by omega))
  have hcb : ∀ {U : mV}, rH m V U → ∀ q, 0 ≤ q → q < cn C → gA U (m + 32) (10 + q).toNat = cb C q := fun hf q a b => ((hv.fr hf.cs).2.2.2.2.1 q a b).2
  unfold F_X10_isCalled
  refine W_be (r_lives hM hn.2 hp) (W_be (r_live hn.2 hp) (W_lt (W_gd ⟨by omega, by omega, by omega⟩ (W_lt ?_))))
  rw [hcb k1 (ml M p) (by omega) (by omega)]
  refine W_bd (R := fun (V' : mV) (q : Nat × Int × Int) => rH m V V' ∧ rM (gA V' (m + 37)) (cn C) (calM C M p) ∧ q.2.1 = (sendA C (ml M) p).2.1 ∧ gI V' m 64 = ((sendA C (ml M) p).2.2.length : Int) ∧ (∀ i : Nat, i < (sendA C (ml M) p).2.2.length → gA V' (m + 41) i = (sendA C (ml M) p).2.2.getD i 0) ∧ gI V' m 61 = gI V m 61) ?_ (fun U u q => W_lt (W_so ⟨q.1.trans (rH_sI (by omega)), q.2.1, ?_, ?_, q.2.2.2.2.1, ?_⟩))
  · refine W_lp (fun w (x : Int × Int) U => ∃ (lv : Int → Int) (left : Int) (mv : List Int), x = (left, cb C left) ∧ mv.length + w = 10 ∧ rH m V U ∧ rM (gA U (m + 37)) (cn C) (mh M, lv, mw M, mp M, me M) ∧ (0 ≤ left ∧ left < cn C) ∧ okL (cn C) lv ∧ nob (cn C) lv left ∧ hom (cn C) lv ≤ w ∧ gI U m 64 = (mv.length : Int) ∧ (∀ i : Nat, i < mv.length → gA U (m + 41) i = mv.getD i 0) ∧ wav C w lv left mv = sendA C (ml M) p ∧ gI U m 61 = gI V m 61) ?_ FU 10 _ _ ⟨uf (ml M) p (-1), ml M p, [], rfl, rfl, k1, hM1, ⟨by omega, by omega⟩, okL_uf hoM.L hp (Or.inl rfl), nob_first hoM.L hp hh, ?_, ?_, fun i hi => absurd hi (Nat.not_lt_zero _), rfl, ?_⟩ (by unfold FU; omega)
    · rintro w x U ⟨lv, left, mv, rfl, hw, hf, hU, hl, hL, hN, hhm, h64, h41, hwv, h61⟩
      have fin : ((lv, left, mv) = sendA C (ml M) p) → rH m V U ∧ rM (gA U (m + 37)) (cn C) (calM C M p) ∧ left = (sendA C (ml M) p).2.1 ∧ gI U m 64 = ((sendA C (ml M) p).2.2.length : Int) ∧ (∀ i : Nat, i < (sendA C (ml M) p).2.2.length → gA U (m + 41) i = (sendA C (ml M) p).2.2.getD i 0) ∧ gI U m 61 = gI V m 61 := by
        intro e
        refine ⟨hf, ?_, ?_, ?_, ?_, h61⟩
        · show rM (gA U (m + 37)) (cn C) (mh M, (sendA C (ml M) p).1, mw M, mp M, me M)
          rw [← e]; exact hU
        · rw [← e]
        · rw [← e]; exact h64
        · rw [← e]; exact h41
      have hb := (ho.2.2.2.2.2.1 left hl.1 hl.2).2
      have stop : (cb C left = -1 ∨ lv (cb C left) ≠ cb C left) → (lv, left, mv) = sendA C (ml M) p := by
        intro e
        rw [← hwv]
        cases w with
        | zero => rfl
        | succ w => unfold wav; rw [if_pos e]
      show Wp (B_X10_isCalled_27 G m p left (cb C left) U) _
      unfold B_X10_isCalled_27
      refine W_gd ⟨by omega, by omega⟩ (W_if (fun q1 => W_so (Or.inr ⟨Nat.one_ne_zero, fin (stop (Or.inl q1))⟩)) (fun q1 => ?_))
      have hlv := hL.1 (cb C left) (by omega) (by omega)
      refine W_be (r_lives hU hn.2 ⟨by omega, by omega⟩) ?_
      show Wp (gd (rg (lv (cb C left))) (if lv (cb C left) = cb C left then _ else _)) _
      refine W_gd ⟨by omega, by omega⟩ (W_if (fun q2 => ?_) (fun q2 => W_so (Or.inr ⟨Nat.one_ne_zero, fin (stop (Or.inr q2))⟩)))
      have hne : left ≠ cb C left := fun e => hN (cb C left) (by omega) (by omega) (by rw [q2]; exact e.symm)
      have hd := hom_dec (n := cn C) (lv := lv) (k := cb C left) (left := left) ⟨by omega, by omega⟩ q2 hne
      have hpos : 1 ≤ hom (cn C) lv := ci_pos (f := fun q => lv q - q) (v := 0) (k0 := cb C left) (by show lv (cb C left) - cb C left = 0; omega) (cn C).toNat 0 (by omega) (by omega)
      obtain ⟨w, rfl⟩ : ∃ v, w = v + 1 := ⟨w - 1, by omega⟩
      refine W_be (r_live hn.2 ⟨by omega, by omega⟩) ?_
      have h64' : gI (sA U (m + 37) (1 + 12 * cb C left).toNat left) m 64 = (mv.length : Int) := h64
      rw [h64']
      refine W_gd ⟨by omega, by omega, by omega⟩ (W_lt (W_lt (W_gd ⟨by omega, by omega, by omega⟩ (W_lt (W_so (Or.inl ⟨rfl, w, by omega, uf lv (cb C left) left, cb C left, mv ++ [cb C left], ?_, ?_, ?_, ?_, ⟨by omega, by omega⟩, okL_uf hL ⟨by omega, by omega⟩ (Or.inr ⟨hl.1, hl.2, hN⟩), nob_next hL ⟨by omega, by omega⟩ hN q2, by omega, ?_, fun i hi => ?_, ?_, ?_⟩))))))
      · show (cb C left, gA (sA (sA U (m + 37) (1 + 12 * cb C left).toNat left) (m + 41) ((mv.length : Int)).toNat (cb C left)) (m + 32) (10 + cb C left).toNat) = _
        rw [gA_sAo (show m + 32 ≠ m + 41 by omega), gA_sAo (show m + 32 ≠ m + 37 by omega), hcb hf _ (by omega) (by omega)]
      · rw [List.length_append]; show mv.length + 1 + w = 10; omega
      · exact ((hf.trans (rH_sA (Or.inl rfl))).trans (rH_sA (by omega))).trans (rH_sI (by omega))
      · show rM (gA (sA (sA U (m + 37) (1 + 12 * cb C left).toNat left) (m + 41) ((mv.length : Int)).toNat (cb C left)) (m + 37)) _ _
        rw [gA_sAo (show m + 37 ≠ m + 41 by omega), gA_sAe]
        exact rM_setL hU hn.2 ⟨by omega, by omega⟩
      · rw [gI_sI, if_pos ⟨rfl, rfl⟩, List.length_append]
        show gI (sA U (m + 37) (1 + 12 * cb C left).toNat left) m 64 + 1 = _
        rw [h64']; rfl
      · rw [List.length_append] at hi
        show gA (sA (sA U (m + 37) (1 + 12 * cb C left).toNat left) (m + 41) ((mv.length : Int)).toNat (cb C left)) (m + 41) i = _
        rw [gA_sA, Int.toNat_natCast]
        by_cases e : i = mv.length
        · rw [if_pos ⟨rfl, e⟩, gD_r _ _ _ _ (by omega), e, Nat.sub_self]; rfl
        · have hi' : i < mv.length := by have : i < mv.length + 1 := hi; omega
          rw [if_neg (fun q => e q.2), gD_l _ _ _ _ hi', gA_sAo (show m + 41 ≠ m + 37 by omega)]
          exact h41 i hi'
      · rw [← hwv]
        show _ = wav C (w + 1) lv left mv
        rw [wav, if_neg (by rintro (q | q); exact q1 q; exact q q2)]
      · rw [gI_sI, if_neg (by rintro ⟨-, e⟩; cases e)]; exact h61
    · have := (ci_rg (fun q => uf (ml M) p (-1) q - q) 0 (cn C).toNat 0).2
      show hom (cn C) (uf (ml M) p (-1)) ≤ ((10 : Nat) : Int)
      unfold hom; omega
    · rw [gI_sI, if_pos ⟨rfl, rfl⟩]; rfl
    · rw [gI_sI, if_neg (by rintro ⟨-, e⟩; cases e)]; rfl
  · rw [gI_sI, if_pos ⟨rfl, rfl⟩]; exact q.2.2.1
  · rw [gI_sI, if_neg (by rintro ⟨-, e⟩; cases e)]; exact q.2.2.2.1
  · rw [gI_sI, if_neg (by rintro ⟨-, e⟩; cases e)]; exact q.2.2.2.2.2
end

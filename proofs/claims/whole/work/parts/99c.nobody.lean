/-! as many lives nobody has as people are away -/
theorem fi_snoc (f : Int → Int) (v : Int) : ∀ (m : Nat) (k : Int), 0 ≤ k → fi f v k (m + 1) = if fi f v k m = -1 then (if f (k + m) = v then k + m else -1) else fi f v k m := by
  intro m
  induction m with
  | zero =>
    intro k hk
    show (if f k = v then k else -1) = if (-1 : Int) = -1 then (if f (k + ((0 : Nat) : Int)) = v then k + ((0 : Nat) : Int) else -1) else -1
    rw [if_pos rfl, show k + ((0 : Nat) : Int) = k by omega]
  | succ m ih =>
    intro k hk
    have e := ih (k + 1) (by omega)
    show (if f k = v then k else fi f v (k + 1) (m + 1)) = if (if f k = v then k else fi f v (k + 1) m) = -1 then (if f (k + ((m + 1 : Nat) : Int)) = v then k + ((m + 1 : Nat) : Int) else -1) else (if f k = v then k else fi f v (k + 1) m)
    by_cases h : f k = v
    · rw [if_pos h, if_pos h, if_neg (by omega)]
    · rw [if_neg h, if_neg h, e, show k + 1 + (m : Int) = k + ((m + 1 : Nat) : Int) by omega]
theorem ci_snoc (f : Int → Int) (v : Int) : ∀ (m : Nat) (k : Int), ci f v k (m + 1) = ci f v k m + if f (k + m) = v then 1 else 0 := by
  intro m
  induction m with
  | zero =>
    intro k
    show (if f k = v then (1 : Int) else 0) + 0 = 0 + if f (k + ((0 : Nat) : Int)) = v then 1 else 0
    rw [show k + ((0 : Nat) : Int) = k by omega]; omega
  | succ m ih =>
    intro k
    have e := ih (k + 1)
    show (if f k = v then (1 : Int) else 0) + ci f v (k + 1) (m + 1) = ((if f k = v then (1 : Int) else 0) + ci f v (k + 1) m) + if f (k + ((m + 1 : Nat) : Int)) = v then 1 else 0
    rw [e, show k + 1 + (m : Int) = k + ((m + 1 : Nat) : Int) by omega]; omega
theorem ci_full (f : Int → Int) (v : Int) : ∀ (m : Nat) (k : Int), (∀ j, k ≤ j → j < k + m → f j = v) → ci f v k m = m := by
  intro m
  induction m with
  | zero => intro k _; rfl
  | succ m ih =>
    intro k h
    have e := ih (k + 1) (fun j a b => h j (by omega) (by omega))
    show (if f k = v then (1 : Int) else 0) + ci f v (k + 1) m = _
    rw [e, if_pos (h k (by omega) (by omega))]; omega
theorem nobody {n : Int} {lv : Int → Int} (hn : 0 ≤ n) (h : okL n lv) : ∀ m : Nat, (m : Int) ≤ n → ci (fun l => fi lv l 0 m) (-1) 0 n.toNat + m = n + ci lv (-1) 0 m := by
  intro m
  induction m with
  | zero =>
    intro _
    have := ci_full (fun l => fi lv l 0 0) (-1) n.toNat 0 (fun j _ _ => rfl)
    rw [this]
    show ((n.toNat : Nat) : Int) + 0 = n + 0
    omega
  | succ m ih =>
    intro hm
    have e := ih (by omega)
    have c := ci_snoc lv (-1) m 0
    have hr := h.1 (m : Int) (by omega) (by omega)
    have sn : ∀ l, fi lv l 0 (m + 1) = if fi lv l 0 m = -1 then (if lv (m : Int) = l then (m : Int) else -1) else fi lv l 0 m := by
      intro l
      have := fi_snoc lv l m 0 (by omega)
      rw [show (0 : Int) + (m : Int) = (m : Int) by omega] at this
      exact this
    rw [show (0 : Int) + (m : Int) = (m : Int) by omega] at c
    by_cases a : lv (m : Int) = -1
    · rw [if_pos a] at c
      have same := ci_cg (f := fun l => fi lv l 0 (m + 1)) (g := fun l => fi lv l 0 m) (v := -1) (m := n.toNat) (k := 0) (fun j j0 _ => by
        show fi lv j 0 (m + 1) = fi lv j 0 m
        rw [sn j]
        by_cases q : fi lv j 0 m = -1
        · rw [if_pos q, if_neg (by omega), q]
        · rw [if_neg q])
      rw [same, c]; omega
    · rw [if_neg a] at c
      have d := (ci_dec (f := fun l => fi lv l 0 m) (g := fun l => fi lv l 0 (m + 1)) (v := -1) (k0 := lv (m : Int)) ?_ ?_ ?_ n.toNat 0).2 (by omega) (by omega)
      · rw [c]; omega
      · show fi lv (lv (m : Int)) 0 m = -1
        rcases fi_rg lv (lv (m : Int)) m 0 with ⟨q, -⟩ | ⟨q1, q2, q3⟩
        · exact q
        · exfalso
          have := h.2 _ (m : Int) q1 (by omega) (by omega) (by omega) q3 (by rw [q3]; exact a)
          omega
      · show fi lv (lv (m : Int)) 0 (m + 1) ≠ -1
        rw [sn, if_pos rfl]
        split
        · omega
        · next q => exact q
      · intro j hj
        show fi lv j 0 (m + 1) = fi lv j 0 m
        rw [sn j]
        by_cases q : fi lv j 0 m = -1
        · rw [if_pos q, if_neg (fun w => hj w.symm), q]
        · rw [if_neg q]
/-- the count of lives nobody has is the count of people away -/
theorem nobody_n {n : Int} {lv : Int → Int} (hn : 0 ≤ n) (h : okL n lv) : ci (fun l => fi lv l 0 n.toNat) (-1) 0 n.toNat = ci lv (-1) 0 n.toNat := by
  have := nobody hn h n.toNat (by omega)
  omega

/-! THE SECOND FLOOR: the small machine's memory as tables of whole numbers; a rule an instruction -/
abbrev mG : Type := (Nat → Nat ⊕ (Nat × Nat)) × (Nat → Nat → Value) × (Nat → Nat → Option Nat)
abbrev mV : Type := (Nat → Nat → Int) × (Nat → Nat → Int) × (Nat → Nat → Int) × (Nat → Nat → Int)
abbrev iI (z : Int) : Int32 := Int32.ofInt z
abbrev lI (z : Int) : Int64 := Int64.ofInt z
def u2 {α : Type} (f : Nat → Nat → α) (i k : Nat) (x : α) : Nat → Nat → α := fun a b => if a = i ∧ b = k then x else f a b
def uF {α : Type} (f : Nat → Nat → α) (i : Nat) (g : Nat → α) : Nat → Nat → α := fun a => if a = i then g else f a
def gI (V : mV) (i k : Nat) : Int := V.1 i k
def gJ (V : mV) (i k : Nat) : Int := V.2.1 i k
def gA (V : mV) (i k : Nat) : Int := V.2.2.1 i k
def gL (V : mV) (i k : Nat) : Int := V.2.2.2 i k
def sI (V : mV) (i k : Nat) (x : Int) : mV := (u2 V.1 i k x, V.2)
def sJ (V : mV) (i k : Nat) (x : Int) : mV := (V.1, u2 V.2.1 i k x, V.2.2)
def sA (V : mV) (i k : Nat) (x : Int) : mV := (V.1, V.2.1, u2 V.2.2.1 i k x, V.2.2.2)
def sL (V : mV) (i k : Nat) (x : Int) : mV := (V.1, V.2.1, V.2.2.1, u2 V.2.2.2 i k x)
def sF (V : mV) (i : Nat) (g : Nat → Int) : mV := (V.1, V.2.1, uF V.2.2.1 i g, V.2.2.2)
/-- what a field holds: 0 a number, 1 a long one, 2 a reference -/
def a_kd : FieldType → Nat
  | .int => 0
  | .boolean => 0
  | .long => 1
  | _ => 2
def m_fd (G : mG) (V : mV) (c i : Nat) (k : Nat) : Value :=
  match a_kd (a_ty.getD c (fun _ => .int) k) with
  | 0 => .int (iI (gI V i k))
  | 1 => .long (lI (gJ V i k))
  | _ => G.2.1 i k
def a_nf (c : Nat) : Nat := match a_cl[c]? with
  | some r => r.2.2
  | none => 0
def mk (G : mG) (V : mV) : mM := fun i => match G.1 i with
  | .inl c => .inr (c, (List.range (a_nf c)).map (m_fd G V c i))
  | .inr (0, n) => .inl (0, n, .inl (fun j => iI (gA V i j)))
  | .inr (1, n) => .inl (1, n, .inl (fun j => iI (gA V i j)))
  | .inr (2, n) => .inl (2, n, .inr (.inl (fun j => lI (gL V i j))))
  | .inr (k, n) => .inl (k, n, .inr (.inr (.inr (.inr (G.2.2 i)))))
/-- the run from here on comes to an end with Q -/
def T (X : mX) (d y pc : Nat) (L : mL) (st : List Value) (n z : Nat) (G : mG) (V : mV) (Q : Nat → Nat → mG → mV → Option Value → Prop) : Prop :=
  ∃ f n' z' G' V' v, a_run X f d y pc L st n z (mk G V) = some (n', z', mk G' V', v) ∧ Q n' z' G' V' v
/-- a whole method -/
def Rn (X : mX) (d y : Nat) (as : List Value) (n z : Nat) (G : mG) (V : mV) (n' z' : Nat) (G' : mG) (V' : mV) (v : Option Value) : Prop :=
  ∃ f, a_run X f d y 0 (a_ent (a_mx y) as) [] n z (mk G V) = some (n', z', mk G' V', v)
theorem a_mono (X : mX) : ∀ (f d y pc : Nat) (L : mL) (st : List Value) (n z : Nat) (M : mM) (r : mR), a_run X f d y pc L st n z M = some r → ∀ f' d', f ≤ f' → d ≤ d' → a_run X f' d' y pc L st n z M = some r := by
  intro f
  induction f with
  | zero => intro d y pc L st n z M r h; exact (a_no h).elim
  | succ f ih =>
    intro d y pc L st n z M r h f' d' hf hd
    match f', hf with
    | f' + 1, hf =>
      have hf2 : f ≤ f' := by omega
      unfold a_run at h ⊢
      cases hq : a_fetch y pc with
      | none => rw [hq] at h; exact (a_no h).elim
      | some q =>
        rw [hq] at h
        simp only at h ⊢
        cases hv : a_ret y q.1 st with
        | some v => rw [hv] at h; exact h
        | none =>
          rw [hv] at h
          simp only at h ⊢
          cases hcl : a_call q.1 st M with
          | some cl =>
            rw [hcl] at h
            simp only at h ⊢
            match d, d', h, hd with
            | 0, _, h, _ => exact (a_no h).elim
            | d + 1, 0, h, hd => omega
            | d + 1, d' + 1, h, hd =>
              simp only at h ⊢
              by_cases hlay : (a_lay cl.2.1).length ≤ a_mx cl.1
              · rw [if_pos hlay] at h ⊢
                cases hr1 : a_run X f d cl.1 0 (a_ent (a_mx cl.1) cl.2.1) [] n z M with
                | none => rw [hr1] at h; exact (a_no h).elim
                | some r1 =>
                  rw [hr1] at h
                  rw [ih _ _ _ _ _ _ _ _ _ hr1 f' d' hf2 (by omega)]
                  exact ih _ _ _ _ _ _ _ _ _ h f' (d' + 1) hf2 (by omega)
              · rw [if_neg hlay] at h; exact (a_no h).elim
          | none =>
            rw [hcl] at h
            simp only at h ⊢
            cases ht : a_stp X q.1 q.2 L st n z M with
            | none => rw [ht] at h; exact (a_no h).elim
            | some t =>
              rw [ht] at h
              exact ih _ _ _ _ _ _ _ _ _ h f' d' hf2 hd
theorem Rn.up {X : mX} {d d' y : Nat} {as : List Value} {n z n' z' : Nat} {G G' : mG} {V V' : mV} {v : Option Value} (h : Rn X d y as n z G V n' z' G' V' v) (hd : d ≤ d') : Rn X d' y as n z G V n' z' G' V' v := by
  obtain ⟨f, h⟩ := h
  exact ⟨f, a_mono X _ _ _ _ _ _ _ _ _ _ h _ _ (Nat.le_refl _) hd⟩
theorem T.toR {X : mX} {d y : Nat} {as : List Value} {n z n' z' : Nat} {G G' : mG} {V V' : mV} {v : Option Value} {L : mL} (hL : a_ent (a_mx y) as = L) (h : T X d y 0 L [] n z G V (fun a b g w u => a = n' ∧ b = z' ∧ g = G' ∧ w = V' ∧ u = v)) : Rn X d y as n z G V n' z' G' V' v := by
  obtain ⟨f, a, b, g, w, u, h1, rfl, rfl, rfl, rfl, rfl⟩ := h
  exact ⟨f, by rw [hL]; exact h1⟩
/-- out of any post: the end of a method as some state -/
theorem T.toE {X : mX} {d y : Nat} {as : List Value} {n z : Nat} {G : mG} {V : mV} {L : mL} {Q : Nat → Nat → mG → mV → Option Value → Prop} (hL : a_ent (a_mx y) as = L) (h : T X d y 0 L [] n z G V Q) : ∃ n' z' G' V' v, Rn X d y as n z G V n' z' G' V' v ∧ Q n' z' G' V' v := by
  obtain ⟨f, a, b, g, w, u, h1, h2⟩ := h
  exact ⟨a, b, g, w, u, ⟨f, by rw [hL]; exact h1⟩, h2⟩
section
variable {X : mX} {d y pc nx : Nat} {L L' : mL} {st st' rest : List Value} {n z n' z' : Nat} {G G' : mG} {V V' : mV} {Q : Nat → Nat → mG → mV → Option Value → Prop}
theorem T.step {i : mI} {pc' : Nat} (hf : a_fetch y pc = some (i, nx)) (h1 : a_ret y i st = none) (h2 : a_call i st (mk G V) = none) (h3 : a_stp X i nx L st n z (mk G V) = some (pc', L', st', n', z', mk G' V')) (k : T X d y pc' L' st' n' z' G' V' Q) : T X d y pc L st n z G V Q := by
  obtain ⟨f, a, b, g, w, u, h, q⟩ := k
  refine ⟨f + 1, a, b, g, w, u, ?_, q⟩
  unfold a_run
  rw [hf]
  simp only
  rw [h1]
  simp only
  rw [h2]
  simp only
  rw [h3]
  exact h
/-- an instruction of stack and locals alone -/
theorem t_s {i : mI} (hf : a_fetch y pc = some (i, nx)) (h1 : a_ret y i st = none) (h2 : a_call i st (mk G V) = none) (h3 : a_stk i st = some st') (k : T X d y nx L st' n z G V Q) : T X d y pc L st n z G V Q :=
  T.step hf h1 h2 (by unfold a_stp; rw [h3]) k
theorem t_l {i : mI} (hf : a_fetch y pc = some (i, nx)) (h1 : a_ret y i st = none) (h2 : a_call i st (mk G V) = none) (h3 : a_stk i st = none) (h4 : a_lo i L st = some (L', st')) (k : T X d y nx L' st' n z G V Q) : T X d y pc L st n z G V Q :=
  T.step hf h1 h2 (by unfold a_stp; rw [h3]; simp only; rw [h4]) k
theorem t_r {i : mI} (hf : a_fetch y pc = some (i, nx)) (h1 : a_ret y i st = none) (h2 : a_call i st (mk G V) = none) (h3 : a_stk i st = none) (h4 : a_lo i L st = none) (h5 : a_rd X i st (mk G V) = some st') (k : T X d y nx L st' n z G V Q) : T X d y pc L st n z G V Q :=
  T.step hf h1 h2 (by unfold a_stp; rw [h3]; simp only; rw [h4]; simp only; rw [h5]) k
theorem t_w {i : mI} (hf : a_fetch y pc = some (i, nx)) (h1 : a_ret y i st = none) (h2 : a_call i st (mk G V) = none) (h3 : a_stk i st = none) (h4 : a_lo i L st = none) (h5 : a_rd X i st (mk G V) = none) (h6 : a_wr i st (mk G V) = some (st', mk G' V')) (k : T X d y nx L st' n z G' V' Q) : T X d y pc L st n z G V Q :=
  T.step hf h1 h2 (by unfold a_stp; rw [h3]; simp only; rw [h4]; simp only; rw [h5]; simp only; rw [h6]) k
theorem t_b {i : mI} {pc' : Nat} (hf : a_fetch y pc = some (i, nx)) (h1 : a_ret y i st = none) (h2 : a_call i st (mk G V) = none) (h3 : a_stk i st = none) (h4 : a_lo i L st = none) (h5 : a_rd X i st (mk G V) = none) (h6 : a_wr i st (mk G V) = none) (h7 : a_nw i st n = none) (h8 : a_br i nx st = some (pc', st')) (k : T X d y pc' L st' n z G V Q) : T X d y pc L st n z G V Q :=
  T.step hf h1 h2 (by unfold a_stp; rw [h3]; simp only; rw [h4]; simp only; rw [h5]; simp only; rw [h6]; simp only; rw [h7]; simp only; rw [h8]) k
/-- the end -/
theorem t_ret {i : mI} {v : Option Value} (hf : a_fetch y pc = some (i, nx)) (h1 : a_ret y i st = some v) (q : Q n z G V v) : T X d y pc L st n z G V Q :=
  ⟨1, n, z, G, V, v, by unfold a_run; rw [hf]; simp only; rw [h1], q⟩
/-- a call -/
theorem t_call {i : mI} {y2 d2 : Nat} {as : List Value} {v : Option Value} (hf : a_fetch y pc = some (i, nx)) (h1 : a_ret y i st = none) (h2 : a_call i st (mk G V) = some (y2, as, rest)) (hl : (a_lay as).length ≤ a_mx y2) (hR : Rn X d2 y2 as n z G V n' z' G' V' v) (hd : d2 + 1 ≤ d) (k : T X d y nx L (v.toList ++ rest) n' z' G' V' Q) : T X d y pc L st n z G V Q := by
  obtain ⟨f1, hR⟩ := hR
  obtain ⟨f, a, b, g, w, u, h, q⟩ := k
  match d, hd with
  | d + 1, hd =>
    refine ⟨max f f1 + 1, a, b, g, w, u, ?_, q⟩
    unfold a_run
    rw [hf]
    simp only
    rw [h1]
    simp only
    rw [h2]
    simp only
    rw [if_pos hl, a_mono X _ _ _ _ _ _ _ _ _ _ hR (max f f1) d (Nat.le_max_right _ _) (by omega)]
    exact a_mono X _ _ _ _ _ _ _ _ _ _ h (max f f1) (d + 1) (Nat.le_max_left _ _) (Nat.le_refl _)
theorem t_mono {Q' : Nat → Nat → mG → mV → Option Value → Prop} (h : T X d y pc L st n z G V Q') (hq : ∀ a b g w u, Q' a b g w u → Q a b g w u) : T X d y pc L st n z G V Q := by
  obtain ⟨f, a, b, g, w, u, h1, h2⟩ := h
  exact ⟨f, a, b, g, w, u, h1, hq _ _ _ _ _ h2⟩
end

/-! a place is told with a fault alone: what holds along (class) -/
def PkV {α : Type} (I : mV → Prop) (e : Option (mV × α)) : Prop := ∀ V v, e = some (V, v) → I V
def PkW {α : Type} (I : mV → Prop) (e : Option (mW × α)) : Prop := ∀ W v, e = some (W, v) → I W.2.2.2
section
variable {α β : Type} {I : mV → Prop}
theorem Pk_so {V : mV} {v : α} (h : I V) : PkV I (some (V, v)) := by
  intro V' v' e
  have := congrArg Prod.fst (Option.some.inj e)
  have e1 : V = V' := this
  rw [← e1]; exact h
theorem Pk_no : PkV I (none : Option (mV × α)) := fun _ _ e => by cases e
theorem Pk_gd {P : Prop} {e : Option (mV × α)} (h : PkV I e) : PkV I (gd P e) := fun V v k => h V v (gd_some k).2
theorem Pk_lt {τ : Type} {x : τ} {f : τ → Option (mV × α)} (h : ∀ y, PkV I (f y)) : PkV I (lt x f) := h x
theorem Pk_ltV {x : mV} {f : mV → Option (mV × α)} (hx : I x) (h : ∀ y, I y → PkV I (f y)) : PkV I (lt x f) := h x hx
theorem Pk_if {c : Prop} [Decidable c] {A B : Option (mV × α)} (a : PkV I A) (b : PkV I B) : PkV I (if c then A else B) := by
  by_cases h : c
  · rw [if_pos h]; exact a
  · rw [if_neg h]; exact b
theorem Pk_bd {e : Option (mV × β)} {f : mV → β → Option (mV × α)} (a : PkV I e) (b : ∀ V v, I V → PkV I (f V v)) : PkV I (bd e f) := by
  intro V v h
  cases e with
  | none => cases h
  | some p => exact b p.1 p.2 (a p.1 p.2 rfl) V v h
theorem Pk_lp {σ : Type} {B : σ → mV → Option (mV × Nat × σ)} (hB : ∀ s V, I V → PkV I (B s V)) : ∀ {n : Nat} {s : σ} {V : mV}, I V → PkV I (lp B n s V)
  | 0, _, _, _ => fun _ _ e => by cases e
  | n + 1, s, V, h => by
    intro V' v' e
    unfold lp at e
    cases q : B s V with
    | none => rw [q] at e; cases e
    | some p =>
      rw [q] at e
      have hp : I p.1 := hB s V h p.1 p.2 q
      by_cases c : p.2.1 = 0
      · have e' : lp B n p.2.2 p.1 = some (V', v') := by simpa [c] using e
        exact Pk_lp hB hp V' v' e'
      · have e' : some p = some (V', v') := by simpa [c] using e
        have e1 := congrArg Prod.fst (Option.some.inj e')
        have e2 : p.1 = V' := e1
        rw [← e2]; exact hp
theorem Pw_so {W : mW} {v : α} (h : I W.2.2.2) : PkW I (some (W, v)) := by
  intro V' v' e
  have e1 : W = V' := congrArg Prod.fst (Option.some.inj e)
  rw [← e1]; exact h
theorem Pw_gd {P : Prop} {e : Option (mW × α)} (h : PkW I e) : PkW I (gd P e) := fun V v k => h V v (gd_some k).2
theorem Pw_lt {τ : Type} {x : τ} {f : τ → Option (mW × α)} (h : ∀ y, PkW I (f y)) : PkW I (lt x f) := h x
theorem Pw_ltV {x : mV} {f : mV → Option (mW × α)} (hx : I x) (h : ∀ y, I y → PkW I (f y)) : PkW I (lt x f) := h x hx
theorem Pw_if {c : Prop} [Decidable c] {A B : Option (mW × α)} (a : PkW I A) (b : PkW I B) : PkW I (if c then A else B) := by
  by_cases h : c
  · rw [if_pos h]; exact a
  · rw [if_neg h]; exact b
theorem Pw_bd {e : Option (mV × β)} {f : mV → β → Option (mW × α)} (a : PkV I e) (b : ∀ V v, I V → PkW I (f V v)) : PkW I (bd e f) := by
  intro V v h
  cases e with
  | none => cases h
  | some p => exact b p.1 p.2 (a p.1 p.2 rfl) V v h
theorem Pw_bdW {e : Option (mW × β)} {f : mW → β → Option (mW × α)} (a : PkW I e) (b : ∀ V v, I V.2.2.2 → PkW I (f V v)) : PkW I (bd e f) := by
  intro V v h
  cases e with
  | none => cases h
  | some p => exact b p.1 p.2 (a p.1 p.2 rfl) V v h
theorem Pw_lp {σ : Type} {B : σ → mW → Option (mW × Nat × σ)} (hB : ∀ s (V : mW), I V.2.2.2 → PkW I (B s V)) : ∀ {n : Nat} {s : σ} {V : mW}, I V.2.2.2 → PkW I (lp B n s V)
  | 0, _, _, _ => fun _ _ e => by cases e
  | n + 1, s, V, h => by
    intro V' v' e
    unfold lp at e
    cases q : B s V with
    | none => rw [q] at e; cases e
    | some p =>
      rw [q] at e
      have hp : I p.1.2.2.2 := hB s V h p.1 p.2 q
      by_cases c : p.2.1 = 0
      · have e' : lp B n p.2.2 p.1 = some (V', v') := by simpa [c] using e
        exact Pw_lp hB hp V' v' e'
      · have e' : some p = some (V', v') := by simpa [c] using e
        have e2 : p.1 = V' := congrArg Prod.fst (Option.some.inj e')
        rw [← e2]; exact hp
end
/-- no place without a fault -/
def Ik (r a : Nat) (V : mV) : Prop := gI V r a = 0 → gI V r (a + 1) = -1
section
variable {r a : Nat} {V : mV}
theorem Ik.sI {i b : Nat} {x : Int} (hb : b ≠ a ∧ b ≠ a + 1) (h : Ik r a V) : Ik r a (sI V i b x) := by
  unfold Ik at h ⊢
  rw [gI_sI, if_neg (by omega), gI_sI, if_neg (by omega)]; exact h
theorem Ik.sA {i b : Nat} {x : Int} (h : Ik r a V) : Ik r a (sA V i b x) := h
theorem Ik.sJ {i b : Nat} {x : Int} (h : Ik r a V) : Ik r a (sJ V i b x) := h
theorem Ik.sL {i b : Nat} {x : Int} (h : Ik r a V) : Ik r a (sL V i b x) := h
end
section
variable {r : Nat}
theorem pk_F_X6_fail {G : mG} {r0 : Nat} {k w : Int} (hk : k ≠ 0) (V : mV) (h : Ik r 11 V) : PkV (Ik r 11) (F_X6_fail G r0 k w V) := by
  unfold F_X6_fail
  refine Pk_gd (Pk_if ?_ (Pk_so h))
  refine Pk_so ?_
  unfold Ik at h ⊢
  by_cases e : r = r0
  · intro q
    rw [gI_sI, if_neg (by omega), gI_sI, if_pos ⟨e, rfl⟩] at q
    exact absurd q hk
  · rw [gI_sI, if_neg (by omega), gI_sI, if_neg (by omega), gI_sI, if_neg (by omega), gI_sI, if_neg (by omega)]; exact h
theorem pk_F_X7_cut {G : mG} {r0 : Nat} {x1 : Int} {V : mV} (hV : Ik r 11 V) : PkV (Ik r 11) (F_X7_cut G r0 x1 V) := by
  unfold F_X7_cut
  exact Pk_gd (Pk_if (Pk_so hV) (Pk_gd (Pk_if (Pk_so hV) (Pk_ltV (Ik.sI (by decide) hV) (fun V5 hV5 => Pk_so hV5)))))
theorem pk_F_X7_put {G : mG} {r0 : Nat} {x1 : Int} {x2 : Int} {V : mV} (hV : Ik r 11 V) : PkV (Ik r 11) (F_X7_put G r0 x1 x2 V) := by
  unfold F_X7_put
  exact Pk_gd (Pk_if (Pk_so hV) (Pk_gd (Pk_if (Pk_so hV) (Pk_gd (Pk_if (Pk_so hV) (Pk_gd (Pk_ltV (Ik.sA hV) (fun V8 hV8 => Pk_so hV8))))))))
theorem pk_B_X7_fill_19 {G : mG} {r0 : Nat} {x1 : Int} {x2 : Int} {x3 : Int} {V : mV} (hV : Ik r 11 V) : PkV (Ik r 11) (B_X7_fill_19 G r0 x1 x2 x3 V) := by
  unfold B_X7_fill_19
  exact Pk_gd (Pk_gd (Pk_if (Pk_so hV) (Pk_bd (pk_F_X7_put hV) (fun V8 _ hV8 => Pk_lt (fun y11 => Pk_so hV8)))))
theorem pk_F_X7_fill {G : mG} {r0 : Nat} {x1 : Int} {x2 : Int} {V : mV} (hV : Ik r 11 V) : PkV (Ik r 11) (F_X7_fill G r0 x1 x2 V) := by
  unfold F_X7_fill
  exact Pk_gd (Pk_gd (Pk_gd (Pk_ltV (Ik.sI (by decide) hV) (fun V4 hV4 => Pk_bd (Pk_lp (fun s V hV => pk_B_X7_fill_19 hV) hV4) (fun V12 _ hV12 => Pk_so hV12)))))
theorem pk_F_X7_get {G : mG} {r0 : Nat} {x1 : Int} {V : mV} (hV : Ik r 11 V) : PkV (Ik r 11) (F_X7_get G r0 x1 V) := by
  unfold F_X7_get
  exact Pk_gd (Pk_if (Pk_so hV) (Pk_gd (Pk_if (Pk_so hV) (Pk_gd (Pk_if (Pk_so hV) (Pk_gd (Pk_so hV)))))))
theorem pk_F_X7_add {G : mG} {r0 : Nat} {x1 : Int} {V : mV} (hV : Ik r 11 V) : PkV (Ik r 11) (F_X7_add G r0 x1 V) := by
  unfold F_X7_add
  exact Pk_gd (Pk_if (Pk_so hV) (Pk_gd (Pk_if (Pk_so hV) (Pk_gd (Pk_ltV (Ik.sA hV) (fun V6 hV6 => Pk_ltV (Ik.sI (by decide) hV6) (fun V7 hV7 => Pk_so hV7)))))))
theorem pk_F_X3_clear {G : mG} {r0 : Nat} {V : mV} (hV : Ik r 11 V) : PkV (Ik r 11) (F_X3_clear G r0 V) := by
  unfold F_X3_clear
  exact Pk_bd (pk_F_X7_cut hV) (fun V1 _ hV1 => Pk_so hV1)
theorem pk_F_X1_clear {G : mG} {r0 : Nat} {V : mV} (hV : Ik r 11 V) : PkV (Ik r 11) (F_X1_clear G r0 V) := by
  unfold F_X1_clear
  exact Pk_bd (pk_F_X7_cut hV) (fun V1 _ hV1 => Pk_bd (pk_F_X7_cut hV1) (fun V4 _ hV4 => Pk_bd (pk_F_X7_cut hV4) (fun V7 _ hV7 => Pk_bd (pk_F_X7_cut hV7) (fun V10 _ hV10 => Pk_bd (pk_F_X7_fill hV10) (fun V13 _ hV13 => Pk_bd (pk_F_X7_cut hV13) (fun V16 _ hV16 => Pk_bd (pk_F_X7_cut hV16) (fun V19 _ hV19 => Pk_bd (pk_F_X7_cut hV19) (fun V22 _ hV22 => Pk_bd (pk_F_X7_cut hV22) (fun V25 _ hV25 => Pk_bd (pk_F_X7_cut hV25) (fun V28 _ hV28 => Pk_bd (pk_F_X3_clear hV28) (fun V31 _ hV31 => Pk_bd (pk_F_X3_clear hV31) (fun V34 _ hV34 => Pk_bd (pk_F_X3_clear hV34) (fun V37 _ hV37 => Pk_bd (pk_F_X3_clear hV37) (fun V40 _ hV40 => Pk_ltV (Ik.sI (by decide) hV40) (fun V43 hV43 => Pk_so hV43)))))))))))))))
theorem pk_B_X7_find_2 {G : mG} {r0 : Nat} {x1 : Int} {x2 : Int} {V : mV} (hV : Ik r 11 V) : PkV (Ik r 11) (B_X7_find_2 G r0 x1 x2 V) := by
  unfold B_X7_find_2
  exact Pk_gd (Pk_gd (Pk_if (Pk_so hV) (Pk_bd (pk_F_X7_get hV) (fun V4 _ hV4 => Pk_gd (Pk_gd (Pk_if (Pk_so hV4) (Pk_lt (fun y10 => Pk_so hV4))))))))
theorem pk_F_X7_find {G : mG} {r0 : Nat} {x1 : Int} {V : mV} (hV : Ik r 11 V) : PkV (Ik r 11) (F_X7_find G r0 x1 V) := by
  unfold F_X7_find
  exact Pk_bd (Pk_lp (fun s V hV => pk_B_X7_find_2 hV) hV) (fun V11 _ hV11 => Pk_if (Pk_so hV11) (Pk_so hV11))
theorem pk_F_X1_hasName {G : mG} {r0 : Nat} {x1 : Int} {V : mV} (hV : Ik r 11 V) : PkV (Ik r 11) (F_X1_hasName G r0 x1 V) := by
  unfold F_X1_hasName
  exact Pk_bd (pk_F_X7_find hV) (fun V1 _ hV1 => Pk_gd (Pk_if (Pk_bd (pk_F_X7_find hV1) (fun V6 _ hV6 => Pk_gd (Pk_if (Pk_so hV6) (Pk_so hV6)))) (Pk_so hV1)))
theorem pk_F_X7_size {G : mG} {r0 : Nat} {V : mV} (hV : Ik r 11 V) : PkV (Ik r 11) (F_X7_size G r0 V) := by
  unfold F_X7_size
  exact Pk_so hV
theorem pk_F_X1_addPerson {G : mG} {r0 : Nat} {x1 : Int} {x2 : Int} {V : mV} (hV : Ik r 11 V) : PkV (Ik r 11) (F_X1_addPerson G r0 x1 x2 V) := by
  unfold F_X1_addPerson
  exact Pk_bd (pk_F_X7_size hV) (fun V1 _ hV1 => Pk_bd (pk_F_X7_add hV1) (fun V4 _ hV4 => Pk_bd (pk_F_X7_add hV4) (fun V7 _ hV7 => Pk_bd (pk_F_X7_add hV7) (fun V10 _ hV10 => Pk_bd (pk_F_X7_add hV10) (fun V13 _ hV13 => Pk_bd (pk_F_X7_put hV13) (fun V16 _ hV16 => Pk_so hV16))))))
theorem pk_F_X1_addTask {G : mG} {r0 : Nat} {x1 : Int} {x2 : Int} {V : mV} (hV : Ik r 11 V) : PkV (Ik r 11) (F_X1_addTask G r0 x1 x2 V) := by
  unfold F_X1_addTask
  exact Pk_bd (pk_F_X7_add hV) (fun V1 _ hV1 => Pk_bd (pk_F_X7_add hV1) (fun V4 _ hV4 => Pk_so hV4))
theorem pk_F_X1_hasDuty_J46_3 {G : mG} {r0 : Nat} {x1 : Int} {x2 : Int} {x3 : Int} {x4 : Int} {s0 : Int} {V : mV} (hV : Ik r 11 V) : PkV (Ik r 11) (F_X1_hasDuty_J46_3 G r0 x1 x2 x3 x4 s0 V) := by
  unfold F_X1_hasDuty_J46_3
  exact Pk_gd (Pk_if (Pk_lt (fun y15 => Pk_so hV)) (Pk_bd (pk_F_X7_get hV) (fun V16 _ hV16 => Pk_gd (Pk_gd (Pk_if (Pk_so hV16) (Pk_lt (fun y22 => Pk_so hV16)))))))
theorem pk_F_X1_hasDuty_J45_3 {G : mG} {r0 : Nat} {x1 : Int} {x2 : Int} {x3 : Int} {x4 : Int} {V : mV} (hV : Ik r 11 V) : PkV (Ik r 11) (F_X1_hasDuty_J45_3 G r0 x1 x2 x3 x4 V) := by
  unfold F_X1_hasDuty_J45_3
  exact pk_F_X1_hasDuty_J46_3 hV
theorem pk_B_X1_hasDuty_3 {G : mG} {r0 : Nat} {x1 : Int} {x2 : Int} {x3 : Int} {x4 : Int} {V : mV} (hV : Ik r 11 V) : PkV (Ik r 11) (B_X1_hasDuty_3 G r0 x1 x2 x3 x4 V) := by
  unfold B_X1_hasDuty_3
  exact Pk_bd (pk_F_X7_size hV) (fun V1 _ hV1 => Pk_gd (Pk_gd (Pk_if (Pk_so hV1) (Pk_bd (pk_F_X7_get hV1) (fun V7 _ hV7 => Pk_gd (Pk_gd (Pk_if (Pk_bd (pk_F_X7_get hV7) (fun V23 _ hV23 => Pk_gd (Pk_gd (Pk_if (pk_F_X1_hasDuty_J46_3 hV23) (pk_F_X1_hasDuty_J45_3 hV23))))) (pk_F_X1_hasDuty_J45_3 hV7))))))))
theorem pk_F_X1_hasDuty {G : mG} {r0 : Nat} {x1 : Int} {x2 : Int} {x3 : Int} {V : mV} (hV : Ik r 11 V) : PkV (Ik r 11) (F_X1_hasDuty G r0 x1 x2 x3 V) := by
  unfold F_X1_hasDuty
  exact Pk_bd (Pk_lp (fun s V hV => pk_B_X1_hasDuty_3 hV) hV) (fun V29 _ hV29 => Pk_if (Pk_so hV29) (Pk_so hV29))
theorem pk_B_X7_insert_12 {G : mG} {r0 : Nat} {x1 : Int} {x2 : Int} {x3 : Int} {V : mV} (hV : Ik r 11 V) : PkV (Ik r 11) (B_X7_insert_12 G r0 x1 x2 x3 V) := by
  unfold B_X7_insert_12
  exact Pk_gd (Pk_gd (Pk_if (Pk_so hV) (Pk_bd (pk_F_X7_get hV) (fun V8 _ hV8 => Pk_bd (pk_F_X7_put hV8) (fun V11 _ hV11 => Pk_lt (fun y14 => Pk_so hV11))))))
theorem pk_F_X7_insert {G : mG} {r0 : Nat} {x1 : Int} {x2 : Int} {V : mV} (hV : Ik r 11 V) : PkV (Ik r 11) (F_X7_insert G r0 x1 x2 V) := by
  unfold F_X7_insert
  exact Pk_bd (pk_F_X7_add hV) (fun V1 _ hV1 => Pk_lt (fun y4 => Pk_bd (Pk_lp (fun s V hV => pk_B_X7_insert_12 hV) hV1) (fun V15 _ hV15 => Pk_bd (pk_F_X7_put hV15) (fun V19 _ hV19 => Pk_so hV19))))
theorem pk_B_X1_addDuty_6 {G : mG} {r0 : Nat} {x1 : Int} {x2 : Int} {x3 : Int} {x4 : Int} {x5 : Int} {V : mV} (hV : Ik r 11 V) : PkV (Ik r 11) (B_X1_addDuty_6 G r0 x1 x2 x3 x4 x5 V) := by
  unfold B_X1_addDuty_6
  exact Pk_bd (pk_F_X7_size hV) (fun V1 _ hV1 => Pk_gd (Pk_gd (Pk_if (Pk_so hV1) (Pk_bd (pk_F_X7_get hV1) (fun V7 _ hV7 => Pk_gd (Pk_gd (Pk_if (Pk_lt (fun y13 => Pk_so hV7)) (Pk_lt (fun y14 => Pk_lt (fun y15 => Pk_so hV7))))))))))
theorem pk_F_X1_addDuty {G : mG} {r0 : Nat} {x1 : Int} {x2 : Int} {x3 : Int} {V : mV} (hV : Ik r 11 V) : PkV (Ik r 11) (F_X1_addDuty G r0 x1 x2 x3 V) := by
  unfold F_X1_addDuty
  exact Pk_bd (Pk_lp (fun s V hV => pk_B_X1_addDuty_6 hV) hV) (fun V16 _ hV16 => Pk_bd (pk_F_X7_insert hV16) (fun V20 _ hV20 => Pk_bd (pk_F_X7_insert hV20) (fun V23 _ hV23 => Pk_bd (pk_F_X7_insert hV23) (fun V26 _ hV26 => Pk_so hV26))))
theorem pk_F_X3_isTold {G : mG} {r0 : Nat} {V : mV} (hV : Ik r 11 V) : PkV (Ik r 11) (F_X3_isTold G r0 V) := by
  unfold F_X3_isTold
  exact Pk_bd (pk_F_X7_size hV) (fun V1 _ hV1 => Pk_gd (Pk_if (Pk_so hV1) (Pk_so hV1)))
theorem pk_F_X3_write {G : mG} {r0 : Nat} {x1 : Int} {x2 : Int} {V : mV} (hV : Ik r 11 V) : PkV (Ik r 11) (F_X3_write G r0 x1 x2 V) := by
  unfold F_X3_write
  exact Pk_gd (Pk_bd (pk_F_X7_add hV) (fun V2 _ hV2 => Pk_so hV2))
theorem pk_F_X6_fine {G : mG} {r0 : Nat} {V : mV} (hV : Ik r 11 V) : PkV (Ik r 11) (F_X6_fine G r0 V) := by
  unfold F_X6_fine
  exact Pk_gd (Pk_if (Pk_so hV) (Pk_so hV))
theorem pk_F_X6_here {G : mG} {r0 : Nat} {V : mV} (hV : Ik r 11 V) : PkV (Ik r 11) (F_X6_here G r0 V) := by
  unfold F_X6_here
  exact Pk_bd (pk_F_X7_get hV) (fun V1 _ hV1 => Pk_so hV1)
theorem pk_F_X6_word {G : mG} {r0 : Nat} {V : mV} (hV : Ik r 11 V) : PkV (Ik r 11) (F_X6_word G r0 V) := by
  unfold F_X6_word
  exact Pk_bd (pk_F_X7_get hV) (fun V1 _ hV1 => Pk_so hV1)
theorem pk_F_X6_isSign {G : mG} {r0 : Nat} {x1 : Int} {V : mV} (hV : Ik r 11 V) : PkV (Ik r 11) (F_X6_isSign G r0 x1 V) := by
  unfold F_X6_isSign
  exact Pk_bd (pk_F_X6_fine hV) (fun V1 _ hV1 => Pk_gd (Pk_if (Pk_so hV1) (Pk_bd (pk_F_X7_get hV1) (fun V6 _ hV6 => Pk_gd (Pk_if (Pk_bd (pk_F_X7_get hV6) (fun V11 _ hV11 => Pk_gd (Pk_gd (Pk_if (Pk_so hV11) (Pk_so hV11))))) (Pk_so hV6))))))
theorem pk_F_X6_isWord {G : mG} {r0 : Nat} {x1 : Int} {V : mV} (hV : Ik r 11 V) : PkV (Ik r 11) (F_X6_isWord G r0 x1 V) := by
  unfold F_X6_isWord
  exact Pk_bd (pk_F_X6_fine hV) (fun V1 _ hV1 => Pk_gd (Pk_if (Pk_so hV1) (Pk_bd (pk_F_X6_word hV1) (fun V6 _ hV6 => Pk_gd (Pk_gd (Pk_if (Pk_so hV6) (Pk_so hV6)))))))
theorem pk_F_X6_take {G : mG} {r0 : Nat} {V : mV} (hV : Ik r 11 V) : PkV (Ik r 11) (F_X6_take G r0 V) := by
  unfold F_X6_take
  exact Pk_bd (pk_F_X6_fine hV) (fun V1 _ hV1 => Pk_gd (Pk_if (Pk_so hV1) (Pk_bd (pk_F_X7_get hV1) (fun V6 _ hV6 => Pk_gd (Pk_if (Pk_so hV6) (Pk_ltV (Ik.sI (by decide) hV6) (fun V11 hV11 => Pk_so hV11)))))))
theorem pk_F_X6_takeSign {G : mG} {r0 : Nat} {x1 : Int} {V : mV} (hV : Ik r 11 V) : PkV (Ik r 11) (F_X6_takeSign G r0 x1 V) := by
  unfold F_X6_takeSign
  exact Pk_bd (pk_F_X6_isSign hV) (fun V1 _ hV1 => Pk_gd (Pk_if (Pk_bd (pk_F_X6_here hV1) (fun V6 _ hV6 => Pk_bd (pk_F_X6_fail (by decide) _ hV6) (fun V9 _ hV9 => Pk_so hV9))) (Pk_bd (pk_F_X6_take hV1) (fun V12 _ hV12 => Pk_so hV12))))
theorem pk_F_X6_takeWord {G : mG} {r0 : Nat} {x1 : Int} {V : mV} (hV : Ik r 11 V) : PkV (Ik r 11) (F_X6_takeWord G r0 x1 V) := by
  unfold F_X6_takeWord
  exact Pk_bd (pk_F_X6_isWord hV) (fun V1 _ hV1 => Pk_gd (Pk_if (Pk_bd (pk_F_X6_here hV1) (fun V6 _ hV6 => Pk_bd (pk_F_X6_fail (by decide) _ hV6) (fun V9 _ hV9 => Pk_so hV9))) (Pk_bd (pk_F_X6_take hV1) (fun V12 _ hV12 => Pk_so hV12))))
theorem pk_F_X6_takeName_J70 {G : mG} {r0 : Nat} {V : mV} (hV : Ik r 11 V) : PkV (Ik r 11) (F_X6_takeName_J70 G r0 V) := by
  unfold F_X6_takeName_J70
  exact Pk_bd (pk_F_X7_get hV) (fun V15 _ hV15 => Pk_bd (pk_F_X6_take hV15) (fun V18 _ hV18 => Pk_so hV18))
theorem pk_F_X6_takeName_J30 {G : mG} {r0 : Nat} {V : mV} (hV : Ik r 11 V) : PkV (Ik r 11) (F_X6_takeName_J30 G r0 V) := by
  unfold F_X6_takeName_J30
  exact Pk_bd (pk_F_X6_here hV) (fun V9 _ hV9 => Pk_bd (pk_F_X6_fail (by decide) _ hV9) (fun V12 _ hV12 => pk_F_X6_takeName_J70 hV12))
theorem pk_F_X6_takeName_J42 {G : mG} {r0 : Nat} {V : mV} (hV : Ik r 11 V) : PkV (Ik r 11) (F_X6_takeName_J42 G r0 V) := by
  unfold F_X6_takeName_J42
  exact Pk_bd (pk_F_X7_get hV) (fun V23 _ hV23 => Pk_gd (Pk_if (pk_F_X6_takeName_J70 hV23) (Pk_bd (pk_F_X6_here hV23) (fun V28 _ hV28 => Pk_bd (pk_F_X6_fail (by decide) _ hV28) (fun V31 _ hV31 => pk_F_X6_takeName_J70 hV31)))))
theorem pk_F_X6_takeName {G : mG} {r0 : Nat} {V : mV} (hV : Ik r 11 V) : PkV (Ik r 11) (F_X6_takeName G r0 V) := by
  unfold F_X6_takeName
  exact Pk_bd (pk_F_X6_word hV) (fun V1 _ hV1 => Pk_bd (pk_F_X7_get hV1) (fun V4 _ hV4 => Pk_gd (Pk_if (Pk_gd (Pk_if (pk_F_X6_takeName_J42 hV4) (Pk_if (pk_F_X6_takeName_J42 hV4) (pk_F_X6_takeName_J30 hV4)))) (pk_F_X6_takeName_J30 hV4))))
theorem pk_F_X6_takeNumber_J80 {G : mG} {r0 : Nat} {x1 : Int} {V : mV} (hV : Ik r 11 V) : PkV (Ik r 11) (F_X6_takeNumber_J80 G r0 x1 V) := by
  unfold F_X6_takeNumber_J80
  exact Pk_bd (pk_F_X7_get hV) (fun V17 _ hV17 => Pk_bd (pk_F_X6_take hV17) (fun V20 _ hV20 => Pk_so hV20))
theorem pk_F_X6_takeNumber {G : mG} {r0 : Nat} {x1 : Int} {V : mV} (hV : Ik r 11 V) : PkV (Ik r 11) (F_X6_takeNumber G r0 x1 V) := by
  unfold F_X6_takeNumber
  exact Pk_bd (pk_F_X7_get hV) (fun V1 _ hV1 => Pk_gd (Pk_if (Pk_bd (pk_F_X7_get hV1) (fun V6 _ hV6 => Pk_gd (Pk_if (Pk_bd (pk_F_X7_get hV6) (fun V11 _ hV11 => Pk_gd (Pk_gd (Pk_if (pk_F_X6_takeNumber_J80 hV11) (Pk_bd (pk_F_X6_here hV11) (fun V23 _ hV23 => Pk_bd (pk_F_X6_fail (by decide) _ hV23) (fun V26 _ hV26 => pk_F_X6_takeNumber_J80 hV26))))))) (Pk_bd (pk_F_X6_here hV6) (fun V29 _ hV29 => Pk_bd (pk_F_X6_fail (by decide) _ hV29) (fun V32 _ hV32 => pk_F_X6_takeNumber_J80 hV32)))))) (Pk_bd (pk_F_X6_here hV1) (fun V35 _ hV35 => Pk_bd (pk_F_X6_fail (by decide) _ hV35) (fun V38 _ hV38 => pk_F_X6_takeNumber_J80 hV38)))))
theorem pk_F_X6_takeOpening {G : mG} {r0 : Nat} {x1 : Int} {V : mV} (hV : Ik r 11 V) : PkV (Ik r 11) (F_X6_takeOpening G r0 x1 V) := by
  unfold F_X6_takeOpening
  exact Pk_gd (Pk_if (Pk_bd (pk_F_X6_take hV) (fun V3 _ hV3 => Pk_so hV3)) (Pk_bd (pk_F_X6_here hV) (fun V6 _ hV6 => Pk_bd (pk_F_X6_fail (by decide) _ hV6) (fun V9 _ hV9 => Pk_bd (pk_F_X6_take hV9) (fun V12 _ hV12 => Pk_so hV12)))))
theorem pk_F_X6_isTooMany {G : mG} {r0 : Nat} {x1 : Int} {V : mV} (hV : Ik r 11 V) : PkV (Ik r 11) (F_X6_isTooMany G r0 x1 V) := by
  unfold F_X6_isTooMany
  exact Pk_gd (Pk_if (Pk_bd (pk_F_X7_size hV) (fun V3 _ hV3 => Pk_gd (Pk_if (Pk_so hV3) (Pk_so hV3)))) (Pk_if (Pk_bd (pk_F_X7_size hV) (fun V9 _ hV9 => Pk_gd (Pk_if (Pk_so hV9) (Pk_so hV9)))) (Pk_if (Pk_bd (pk_F_X7_size hV) (fun V15 _ hV15 => Pk_gd (Pk_if (Pk_so hV15) (Pk_so hV15)))) (Pk_if (Pk_bd (pk_F_X3_isTold hV) (fun V21 _ hV21 => Pk_gd (Pk_so hV21))) (Pk_if (Pk_bd (pk_F_X3_isTold hV) (fun V26 _ hV26 => Pk_gd (Pk_so hV26))) (Pk_if (Pk_bd (pk_F_X3_isTold hV) (fun V31 _ hV31 => Pk_gd (Pk_so hV31))) (Pk_if (Pk_bd (pk_F_X3_isTold hV) (fun V36 _ hV36 => Pk_gd (Pk_so hV36))) (Pk_so hV))))))))
theorem pk_F_X6_readGiven_J55 {G : mG} {r0 : Nat} {r1 : Nat} {x2 : Int} {x4 : Int} {s1 : Int} {V : mV} (hV : Ik r 11 V) : PkV (Ik r 11) (F_X6_readGiven_J55 G r0 r1 x2 x4 s1 V) := by
  unfold F_X6_readGiven_J55
  exact Pk_bd (pk_F_X6_takeNumber hV) (fun V22 _ hV22 => Pk_bd (pk_F_X6_fine hV22) (fun V25 _ hV25 => Pk_gd (Pk_if (Pk_so hV25) (Pk_gd (Pk_if (Pk_bd (pk_F_X1_addPerson hV25) (fun V35 _ hV35 => Pk_so hV35)) (Pk_bd (pk_F_X1_addTask hV25) (fun V32 _ hV32 => Pk_so hV32)))))))
theorem pk_F_X6_readGiven_J40 {G : mG} {r0 : Nat} {r1 : Nat} {x2 : Int} {x4 : Int} {s1 : Int} {V : mV} (hV : Ik r 11 V) : PkV (Ik r 11) (F_X6_readGiven_J40 G r0 r1 x2 x4 s1 V) := by
  unfold F_X6_readGiven_J40
  exact Pk_bd (pk_F_X6_takeWord hV) (fun V17 _ hV17 => Pk_gd (Pk_if (pk_F_X6_readGiven_J55 hV17) (pk_F_X6_readGiven_J55 hV17)))
theorem pk_F_X6_readGiven_J30 {G : mG} {r0 : Nat} {r1 : Nat} {x2 : Int} {x4 : Int} {V : mV} (hV : Ik r 11 V) : PkV (Ik r 11) (F_X6_readGiven_J30 G r0 r1 x2 x4 V) := by
  unfold F_X6_readGiven_J30
  exact Pk_gd (Pk_if (pk_F_X6_readGiven_J40 hV) (pk_F_X6_readGiven_J40 hV))
theorem pk_F_X6_readGiven {G : mG} {r0 : Nat} {r1 : Nat} {x2 : Int} {V : mV} (hV : Ik r 11 V) : PkV (Ik r 11) (F_X6_readGiven G r0 r1 x2 V) := by
  unfold F_X6_readGiven
  exact Pk_bd (pk_F_X6_take hV) (fun V1 _ hV1 => Pk_bd (pk_F_X6_here hV1) (fun V4 _ hV4 => Pk_bd (pk_F_X6_takeName hV4) (fun V7 _ hV7 => Pk_bd (pk_F_X1_hasName hV7) (fun V10 _ hV10 => Pk_gd (Pk_if (pk_F_X6_readGiven_J30 hV10) (Pk_bd (pk_F_X6_fail (by decide) _ hV10) (fun V38 _ hV38 => pk_F_X6_readGiven_J30 hV38)))))))
theorem pk_F_X6_takeKnown {G : mG} {r0 : Nat} {r1 : Nat} {V : mV} (hV : Ik r 11 V) : PkV (Ik r 11) (F_X6_takeKnown G r0 r1 V) := by
  unfold F_X6_takeKnown
  exact Pk_bd (pk_F_X6_here hV) (fun V1 _ hV1 => Pk_bd (pk_F_X6_takeName hV1) (fun V4 _ hV4 => Pk_bd (pk_F_X7_find hV4) (fun V7 _ hV7 => Pk_gd (Pk_if (Pk_bd (pk_F_X6_fail (by decide) _ hV7) (fun V12 _ hV12 => Pk_so hV12)) (Pk_so hV7)))))
theorem pk_F_X6_readDuty_J59 {G : mG} {r0 : Nat} {r1 : Nat} {x2 : Int} {x3 : Int} {x5 : Int} {V : mV} (hV : Ik r 11 V) : PkV (Ik r 11) (F_X6_readDuty_J59 G r0 r1 x2 x3 x5 V) := by
  unfold F_X6_readDuty_J59
  exact Pk_bd (pk_F_X6_fine hV) (fun V24 _ hV24 => Pk_gd (Pk_if (Pk_so hV24) (Pk_bd (pk_F_X1_addDuty hV24) (fun V29 _ hV29 => Pk_so hV29))))
theorem pk_F_X6_readDuty {G : mG} {r0 : Nat} {r1 : Nat} {V : mV} (hV : Ik r 11 V) : PkV (Ik r 11) (F_X6_readDuty G r0 r1 V) := by
  unfold F_X6_readDuty
  exact Pk_bd (pk_F_X6_take hV) (fun V1 _ hV1 => Pk_bd (pk_F_X6_takeKnown hV1) (fun V4 _ hV4 => Pk_bd (pk_F_X6_takeKnown hV4) (fun V7 _ hV7 => Pk_bd (pk_F_X6_takeWord hV7) (fun V10 _ hV10 => Pk_bd (pk_F_X6_here hV10) (fun V13 _ hV13 => Pk_bd (pk_F_X6_takeNumber hV13) (fun V16 _ hV16 => Pk_bd (pk_F_X1_hasDuty hV16) (fun V19 _ hV19 => Pk_gd (Pk_if (pk_F_X6_readDuty_J59 hV19) (Pk_bd (pk_F_X6_fail (by decide) _ hV19) (fun V32 _ hV32 => pk_F_X6_readDuty_J59 hV32))))))))))
theorem pk_F_X6_readCover_J76 {G : mG} {r0 : Nat} {r1 : Nat} {x3 : Int} {x4 : Int} {V : mV} (hV : Ik r 11 V) : PkV (Ik r 11) (F_X6_readCover_J76 G r0 r1 x3 x4 V) := by
  unfold F_X6_readCover_J76
  exact Pk_bd (pk_F_X6_fine hV) (fun V27 _ hV27 => Pk_gd (Pk_if (Pk_so hV27) (Pk_bd (pk_F_X7_put hV27) (fun V32 _ hV32 => Pk_bd (pk_F_X7_put hV32) (fun V35 _ hV35 => Pk_so hV35)))))
theorem pk_F_X6_readCover_J70 {G : mG} {r0 : Nat} {r1 : Nat} {x2 : Int} {x3 : Int} {x4 : Int} {V : mV} (hV : Ik r 11 V) : PkV (Ik r 11) (F_X6_readCover_J70 G r0 r1 x2 x3 x4 V) := by
  unfold F_X6_readCover_J70
  exact Pk_bd (pk_F_X6_fail (by decide) _ hV) (fun V24 _ hV24 => pk_F_X6_readCover_J76 hV24)
theorem pk_F_X6_readCover_J36 {G : mG} {r0 : Nat} {r1 : Nat} {x3 : Int} {V : mV} (hV : Ik r 11 V) : PkV (Ik r 11) (F_X6_readCover_J36 G r0 r1 x3 V) := by
  unfold F_X6_readCover_J36
  exact Pk_bd (pk_F_X6_here hV) (fun V15 _ hV15 => Pk_bd (pk_F_X6_takeKnown hV15) (fun V18 _ hV18 => Pk_gd (Pk_gd (Pk_if (pk_F_X6_readCover_J70 hV18) (Pk_bd (pk_F_X7_get hV18) (fun V38 _ hV38 => Pk_gd (Pk_if (pk_F_X6_readCover_J76 hV38) (pk_F_X6_readCover_J70 hV38))))))))
theorem pk_F_X6_readCover {G : mG} {r0 : Nat} {r1 : Nat} {V : mV} (hV : Ik r 11 V) : PkV (Ik r 11) (F_X6_readCover G r0 r1 V) := by
  unfold F_X6_readCover
  exact Pk_bd (pk_F_X6_take hV) (fun V1 _ hV1 => Pk_bd (pk_F_X6_here hV1) (fun V4 _ hV4 => Pk_bd (pk_F_X6_takeKnown hV4) (fun V7 _ hV7 => Pk_bd (pk_F_X7_get hV7) (fun V10 _ hV10 => Pk_gd (Pk_if (pk_F_X6_readCover_J36 hV10) (Pk_bd (pk_F_X6_fail (by decide) _ hV10) (fun V43 _ hV43 => pk_F_X6_readCover_J36 hV43)))))))
theorem pk_F_X6_readKnowing_J40 {G : mG} {r0 : Nat} {r1 : Nat} {x2 : Int} {x4 : Int} {V : mV} (hV : Ik r 11 V) : PkV (Ik r 11) (F_X6_readKnowing_J40 G r0 r1 x2 x4 V) := by
  unfold F_X6_readKnowing_J40
  exact Pk_bd (pk_F_X6_takeNumber hV) (fun V16 _ hV16 => Pk_bd (pk_F_X6_fine hV16) (fun V19 _ hV19 => Pk_gd (Pk_if (Pk_so hV19) (Pk_bd (pk_F_X7_put hV19) (fun V24 _ hV24 => Pk_so hV24)))))
theorem pk_F_X6_readKnowing {G : mG} {r0 : Nat} {r1 : Nat} {V : mV} (hV : Ik r 11 V) : PkV (Ik r 11) (F_X6_readKnowing G r0 r1 V) := by
  unfold F_X6_readKnowing
  exact Pk_bd (pk_F_X6_take hV) (fun V1 _ hV1 => Pk_bd (pk_F_X6_takeKnown hV1) (fun V4 _ hV4 => Pk_bd (pk_F_X6_here hV4) (fun V7 _ hV7 => Pk_bd (pk_F_X6_takeKnown hV7) (fun V10 _ hV10 => Pk_gd (Pk_gd (Pk_if (Pk_bd (pk_F_X6_fail (by decide) _ hV10) (fun V27 _ hV27 => pk_F_X6_readKnowing_J40 hV27)) (pk_F_X6_readKnowing_J40 hV10)))))))
theorem pk_F_X6_comparison {G : mG} {r0 : Nat} {V : mV} (hV : Ik r 11 V) : PkV (Ik r 11) (F_X6_comparison G r0 V) := by
  unfold F_X6_comparison
  exact Pk_bd (pk_F_X6_isSign hV) (fun V1 _ hV1 => Pk_gd (Pk_if (Pk_bd (pk_F_X6_isSign hV1) (fun V6 _ hV6 => Pk_gd (Pk_if (Pk_bd (pk_F_X6_isSign hV6) (fun V11 _ hV11 => Pk_gd (Pk_if (Pk_so hV11) (Pk_so hV11)))) (Pk_so hV6)))) (Pk_so hV1)))
theorem pk_B_X6_readTest_7 {rec : Nat → Int → Int → mV → Option (mV × Int)} {G : mG} {r0 : Nat} {x1 : Int} {x2 : Int} {V : mV} (hrec : ∀ w a b V, Ik r 11 V → PkV (Ik r 11) (rec w a b V)) (hV : Ik r 11 V) : PkV (Ik r 11) (B_X6_readTest_7 rec G r0 x1 x2 V) := by
  unfold B_X6_readTest_7
  exact Pk_gd (Pk_if (Pk_so hV) (Pk_bd (pk_F_X6_isWord hV) (fun V6 _ hV6 => Pk_gd (Pk_if (Pk_so hV6) (Pk_bd (pk_F_X6_take hV6) (fun V11 _ hV11 => Pk_bd (hrec _ _ _ _ hV11) (fun V14 _ hV14 => Pk_bd (pk_F_X3_write hV14) (fun V17 _ hV17 => Pk_lt (fun y20 => Pk_so hV17)))))))))
theorem pk_F_X6_readTest {rec : Nat → Int → Int → mV → Option (mV × Int)} {G : mG} {r0 : Nat} {x1 : Int} {V : mV} (hrec : ∀ w a b V, Ik r 11 V → PkV (Ik r 11) (rec w a b V)) (hV : Ik r 11 V) : PkV (Ik r 11) (F_X6_readTest rec G r0 x1 V) := by
  unfold F_X6_readTest
  exact Pk_bd (hrec _ _ _ _ hV) (fun V1 _ hV1 => Pk_bd (Pk_lp (fun s V hV => pk_B_X6_readTest_7 hrec hV) hV1) (fun V21 _ hV21 => Pk_so hV21))
theorem pk_B_X6_readBoth_7 {rec : Nat → Int → Int → mV → Option (mV × Int)} {G : mG} {r0 : Nat} {x1 : Int} {x2 : Int} {V : mV} (hrec : ∀ w a b V, Ik r 11 V → PkV (Ik r 11) (rec w a b V)) (hV : Ik r 11 V) : PkV (Ik r 11) (B_X6_readBoth_7 rec G r0 x1 x2 V) := by
  unfold B_X6_readBoth_7
  exact Pk_gd (Pk_if (Pk_so hV) (Pk_bd (pk_F_X6_isWord hV) (fun V6 _ hV6 => Pk_gd (Pk_if (Pk_so hV6) (Pk_bd (pk_F_X6_take hV6) (fun V11 _ hV11 => Pk_bd (hrec _ _ _ _ hV11) (fun V14 _ hV14 => Pk_bd (pk_F_X3_write hV14) (fun V17 _ hV17 => Pk_lt (fun y20 => Pk_so hV17)))))))))
theorem pk_F_X6_readBoth {rec : Nat → Int → Int → mV → Option (mV × Int)} {G : mG} {r0 : Nat} {x1 : Int} {V : mV} (hrec : ∀ w a b V, Ik r 11 V → PkV (Ik r 11) (rec w a b V)) (hV : Ik r 11 V) : PkV (Ik r 11) (F_X6_readBoth rec G r0 x1 V) := by
  unfold F_X6_readBoth
  exact Pk_bd (hrec _ _ _ _ hV) (fun V1 _ hV1 => Pk_bd (Pk_lp (fun s V hV => pk_B_X6_readBoth_7 hrec hV) hV1) (fun V21 _ hV21 => Pk_so hV21))
theorem pk_F_X6_readFact_J126 {rec : Nat → Int → Int → mV → Option (mV × Int)} {G : mG} {r0 : Nat} {x1 : Int} {x2 : Int} {V : mV} (hrec : ∀ w a b V, Ik r 11 V → PkV (Ik r 11) (rec w a b V)) (hV : Ik r 11 V) : PkV (Ik r 11) (F_X6_readFact_J126 rec G r0 x1 x2 V) := by
  unfold F_X6_readFact_J126
  exact Pk_bd (pk_F_X6_take hV) (fun V31 _ hV31 => Pk_bd (hrec _ _ _ _ hV31) (fun V34 _ hV34 => Pk_bd (pk_F_X3_write hV34) (fun V37 _ hV37 => Pk_so hV37)))
theorem pk_F_X6_readFact {rec : Nat → Int → Int → mV → Option (mV × Int)} {G : mG} {r0 : Nat} {x1 : Int} {V : mV} (hrec : ∀ w a b V, Ik r 11 V → PkV (Ik r 11) (rec w a b V)) (hV : Ik r 11 V) : PkV (Ik r 11) (F_X6_readFact rec G r0 x1 V) := by
  unfold F_X6_readFact
  exact Pk_bd (pk_F_X6_fine hV) (fun V1 _ hV1 => Pk_gd (Pk_if (Pk_so hV1) (Pk_gd (Pk_if (Pk_bd (pk_F_X6_isWord hV1) (fun V8 _ hV8 => Pk_gd (Pk_if (Pk_bd (pk_F_X6_isSign hV8) (fun V13 _ hV13 => Pk_gd (Pk_if (Pk_bd (pk_F_X6_isWord hV13) (fun V18 _ hV18 => Pk_gd (Pk_if (Pk_bd (hrec _ _ _ _ hV18) (fun V23 _ hV23 => Pk_bd (pk_F_X6_comparison hV23) (fun V26 _ hV26 => Pk_gd (Pk_if (Pk_bd (pk_F_X6_here hV26) (fun V40 _ hV40 => Pk_bd (pk_F_X6_fail (by decide) _ hV40) (fun V43 _ hV43 => pk_F_X6_readFact_J126 hrec hV43))) (pk_F_X6_readFact_J126 hrec hV26))))) (Pk_bd (pk_F_X6_take hV18) (fun V46 _ hV46 => Pk_bd (pk_F_X3_write hV46) (fun V49 _ hV49 => Pk_so hV49)))))) (Pk_bd (pk_F_X6_takeOpening hV13) (fun V52 _ hV52 => Pk_bd (hrec _ _ _ _ hV52) (fun V55 _ hV55 => Pk_bd (pk_F_X6_takeSign hV55) (fun V58 _ hV58 => Pk_so hV58))))))) (Pk_bd (pk_F_X6_takeOpening hV8) (fun V61 _ hV61 => Pk_bd (hrec _ _ _ _ hV61) (fun V64 _ hV64 => Pk_bd (pk_F_X3_write hV64) (fun V67 _ hV67 => Pk_so hV67))))))) (Pk_so hV1)))))
theorem pk_F_X6_readSum_J46_7 {rec : Nat → Int → Int → mV → Option (mV × Int)} {G : mG} {r0 : Nat} {x1 : Int} {x2 : Int} {s0 : Int} {V : mV} (hrec : ∀ w a b V, Ik r 11 V → PkV (Ik r 11) (rec w a b V)) (hV : Ik r 11 V) : PkV (Ik r 11) (F_X6_readSum_J46_7 rec G r0 x1 x2 s0 V) := by
  unfold F_X6_readSum_J46_7
  exact Pk_bd (pk_F_X6_take hV) (fun V16 _ hV16 => Pk_bd (hrec _ _ _ _ hV16) (fun V19 _ hV19 => Pk_bd (pk_F_X3_write hV19) (fun V22 _ hV22 => Pk_lt (fun y25 => Pk_so hV22))))
theorem pk_F_X6_readSum_J32_7 {rec : Nat → Int → Int → mV → Option (mV × Int)} {G : mG} {r0 : Nat} {x1 : Int} {x2 : Int} {V : mV} (hrec : ∀ w a b V, Ik r 11 V → PkV (Ik r 11) (rec w a b V)) (hV : Ik r 11 V) : PkV (Ik r 11) (F_X6_readSum_J32_7 rec G r0 x1 x2 V) := by
  unfold F_X6_readSum_J32_7
  exact Pk_bd (pk_F_X6_isSign hV) (fun V11 _ hV11 => Pk_gd (Pk_if (pk_F_X6_readSum_J46_7 hrec hV11) (pk_F_X6_readSum_J46_7 hrec hV11)))
theorem pk_B_X6_readSum_7 {rec : Nat → Int → Int → mV → Option (mV × Int)} {G : mG} {r0 : Nat} {x1 : Int} {x2 : Int} {V : mV} (hrec : ∀ w a b V, Ik r 11 V → PkV (Ik r 11) (rec w a b V)) (hV : Ik r 11 V) : PkV (Ik r 11) (B_X6_readSum_7 rec G r0 x1 x2 V) := by
  unfold B_X6_readSum_7
  exact Pk_gd (Pk_if (Pk_so hV) (Pk_bd (pk_F_X6_isSign hV) (fun V6 _ hV6 => Pk_gd (Pk_if (Pk_bd (pk_F_X6_isSign hV6) (fun V26 _ hV26 => Pk_gd (Pk_if (Pk_so hV26) (pk_F_X6_readSum_J32_7 hrec hV26)))) (pk_F_X6_readSum_J32_7 hrec hV6)))))
theorem pk_F_X6_readSum {rec : Nat → Int → Int → mV → Option (mV × Int)} {G : mG} {r0 : Nat} {x1 : Int} {V : mV} (hrec : ∀ w a b V, Ik r 11 V → PkV (Ik r 11) (rec w a b V)) (hV : Ik r 11 V) : PkV (Ik r 11) (F_X6_readSum rec G r0 x1 V) := by
  unfold F_X6_readSum
  exact Pk_bd (hrec _ _ _ _ hV) (fun V1 _ hV1 => Pk_bd (Pk_lp (fun s V hV => pk_B_X6_readSum_7 hrec hV) hV1) (fun V31 _ hV31 => Pk_so hV31))
theorem pk_F_X6_readProduct_J48_7 {rec : Nat → Int → Int → mV → Option (mV × Int)} {G : mG} {r0 : Nat} {x1 : Int} {x2 : Int} {s0 : Int} {V : mV} (hrec : ∀ w a b V, Ik r 11 V → PkV (Ik r 11) (rec w a b V)) (hV : Ik r 11 V) : PkV (Ik r 11) (F_X6_readProduct_J48_7 rec G r0 x1 x2 s0 V) := by
  unfold F_X6_readProduct_J48_7
  exact Pk_bd (pk_F_X6_take hV) (fun V16 _ hV16 => Pk_bd (hrec _ _ _ _ hV16) (fun V19 _ hV19 => Pk_bd (pk_F_X3_write hV19) (fun V22 _ hV22 => Pk_lt (fun y25 => Pk_so hV22))))
theorem pk_F_X6_readProduct_J32_7 {rec : Nat → Int → Int → mV → Option (mV × Int)} {G : mG} {r0 : Nat} {x1 : Int} {x2 : Int} {V : mV} (hrec : ∀ w a b V, Ik r 11 V → PkV (Ik r 11) (rec w a b V)) (hV : Ik r 11 V) : PkV (Ik r 11) (F_X6_readProduct_J32_7 rec G r0 x1 x2 V) := by
  unfold F_X6_readProduct_J32_7
  exact Pk_bd (pk_F_X6_isSign hV) (fun V11 _ hV11 => Pk_gd (Pk_if (pk_F_X6_readProduct_J48_7 hrec hV11) (pk_F_X6_readProduct_J48_7 hrec hV11)))
theorem pk_B_X6_readProduct_7 {rec : Nat → Int → Int → mV → Option (mV × Int)} {G : mG} {r0 : Nat} {x1 : Int} {x2 : Int} {V : mV} (hrec : ∀ w a b V, Ik r 11 V → PkV (Ik r 11) (rec w a b V)) (hV : Ik r 11 V) : PkV (Ik r 11) (B_X6_readProduct_7 rec G r0 x1 x2 V) := by
  unfold B_X6_readProduct_7
  exact Pk_gd (Pk_if (Pk_so hV) (Pk_bd (pk_F_X6_isSign hV) (fun V6 _ hV6 => Pk_gd (Pk_if (Pk_bd (pk_F_X6_isSign hV6) (fun V26 _ hV26 => Pk_gd (Pk_if (Pk_so hV26) (pk_F_X6_readProduct_J32_7 hrec hV26)))) (pk_F_X6_readProduct_J32_7 hrec hV6)))))
theorem pk_F_X6_readProduct {rec : Nat → Int → Int → mV → Option (mV × Int)} {G : mG} {r0 : Nat} {x1 : Int} {V : mV} (hrec : ∀ w a b V, Ik r 11 V → PkV (Ik r 11) (rec w a b V)) (hV : Ik r 11 V) : PkV (Ik r 11) (F_X6_readProduct rec G r0 x1 V) := by
  unfold F_X6_readProduct
  exact Pk_bd (hrec _ _ _ _ hV) (fun V1 _ hV1 => Pk_bd (Pk_lp (fun s V hV => pk_B_X6_readProduct_7 hrec hV) hV1) (fun V31 _ hV31 => Pk_so hV31))
theorem pk_F_X6_readPart_J94 {rec : Nat → Int → Int → mV → Option (mV × Int)} {G : mG} {r0 : Nat} {x1 : Int} {x2 : Int} {V : mV} (hrec : ∀ w a b V, Ik r 11 V → PkV (Ik r 11) (rec w a b V)) (hV : Ik r 11 V) : PkV (Ik r 11) (F_X6_readPart_J94 rec G r0 x1 x2 V) := by
  unfold F_X6_readPart_J94
  exact Pk_gd (Pk_if (Pk_bd (hrec _ _ _ _ hV) (fun V28 _ hV28 => Pk_so hV28)) (Pk_bd (hrec _ _ _ _ hV) (fun V25 _ hV25 => Pk_so hV25)))
theorem pk_F_X6_readPart_J190 {rec : Nat → Int → Int → mV → Option (mV × Int)} {G : mG} {r0 : Nat} {x1 : Int} {V : mV} (hrec : ∀ w a b V, Ik r 11 V → PkV (Ik r 11) (rec w a b V)) (hV : Ik r 11 V) : PkV (Ik r 11) (F_X6_readPart_J190 rec G r0 x1 V) := by
  unfold F_X6_readPart_J190
  exact Pk_bd (pk_F_X6_here hV) (fun V35 _ hV35 => Pk_bd (pk_F_X6_fail (by decide) _ hV35) (fun V38 _ hV38 => Pk_so hV38))
theorem pk_F_X6_readPart_J156 {rec : Nat → Int → Int → mV → Option (mV × Int)} {G : mG} {r0 : Nat} {x1 : Int} {x2 : Int} {V : mV} (hrec : ∀ w a b V, Ik r 11 V → PkV (Ik r 11) (rec w a b V)) (hV : Ik r 11 V) : PkV (Ik r 11) (F_X6_readPart_J156 rec G r0 x1 x2 V) := by
  unfold F_X6_readPart_J156
  exact Pk_gd (Pk_if (pk_F_X6_readPart_J190 hrec hV) (Pk_gd (Pk_gd (Pk_gd (Pk_if (Pk_bd (pk_F_X6_take hV) (fun V45 _ hV45 => Pk_bd (pk_F_X3_write hV45) (fun V48 _ hV48 => Pk_so hV48))) (pk_F_X6_readPart_J190 hrec hV))))))
theorem pk_F_X6_readPart {rec : Nat → Int → Int → mV → Option (mV × Int)} {G : mG} {r0 : Nat} {x1 : Int} {V : mV} (hrec : ∀ w a b V, Ik r 11 V → PkV (Ik r 11) (rec w a b V)) (hV : Ik r 11 V) : PkV (Ik r 11) (F_X6_readPart rec G r0 x1 V) := by
  unfold F_X6_readPart
  exact Pk_bd (pk_F_X6_fine hV) (fun V1 _ hV1 => Pk_gd (Pk_if (Pk_so hV1) (Pk_gd (Pk_if (Pk_bd (pk_F_X6_word hV1) (fun V8 _ hV8 => Pk_bd (pk_F_X7_get hV8) (fun V11 _ hV11 => Pk_gd (Pk_if (Pk_bd (pk_F_X6_takeNumber hV11) (fun V71 _ hV71 => Pk_bd (pk_F_X3_write hV71) (fun V74 _ hV74 => Pk_so hV74))) (Pk_bd (pk_F_X6_isSign hV11) (fun V16 _ hV16 => Pk_gd (Pk_if (Pk_gd (Pk_if (pk_F_X6_readPart_J94 hrec hV16) (Pk_if (pk_F_X6_readPart_J94 hrec hV16) (Pk_if (Pk_gd (Pk_if (Pk_bd (pk_F_X6_takeOpening hV16) (fun V53 _ hV53 => Pk_bd (hrec _ _ _ _ hV53) (fun V56 _ hV56 => Pk_bd (pk_F_X3_write hV56) (fun V59 _ hV59 => Pk_so hV59)))) (pk_F_X6_readPart_J156 hrec hV16))) (pk_F_X6_readPart_J156 hrec hV16))))) (Pk_bd (pk_F_X6_takeOpening hV16) (fun V62 _ hV62 => Pk_bd (hrec _ _ _ _ hV62) (fun V65 _ hV65 => Pk_bd (pk_F_X6_takeSign hV65) (fun V68 _ hV68 => Pk_so hV68))))))))))) (Pk_so hV1)))))
theorem pk_F_X6_readPair_J22 {rec : Nat → Int → Int → mV → Option (mV × Int)} {G : mG} {r0 : Nat} {x1 : Int} {x2 : Int} {V : mV} (hrec : ∀ w a b V, Ik r 11 V → PkV (Ik r 11) (rec w a b V)) (hV : Ik r 11 V) : PkV (Ik r 11) (F_X6_readPair_J22 rec G r0 x1 x2 V) := by
  unfold F_X6_readPair_J22
  exact Pk_bd (pk_F_X6_takeOpening hV) (fun V9 _ hV9 => Pk_bd (hrec _ _ _ _ hV9) (fun V12 _ hV12 => Pk_bd (pk_F_X6_takeSign hV12) (fun V15 _ hV15 => Pk_bd (hrec _ _ _ _ hV15) (fun V18 _ hV18 => Pk_bd (pk_F_X6_takeSign hV18) (fun V21 _ hV21 => Pk_bd (pk_F_X3_write hV21) (fun V24 _ hV24 => Pk_so hV24))))))
theorem pk_F_X6_readPair {rec : Nat → Int → Int → mV → Option (mV × Int)} {G : mG} {r0 : Nat} {x1 : Int} {x2 : Int} {V : mV} (hrec : ∀ w a b V, Ik r 11 V → PkV (Ik r 11) (rec w a b V)) (hV : Ik r 11 V) : PkV (Ik r 11) (F_X6_readPair rec G r0 x1 x2 V) := by
  unfold F_X6_readPair
  exact Pk_bd (pk_F_X6_take hV) (fun V1 _ hV1 => Pk_bd (pk_F_X6_isSign hV1) (fun V4 _ hV4 => Pk_gd (Pk_if (Pk_bd (pk_F_X6_here hV4) (fun V27 _ hV27 => Pk_bd (pk_F_X6_fail (by decide) _ hV27) (fun V30 _ hV30 => pk_F_X6_readPair_J22 hrec hV30))) (pk_F_X6_readPair_J22 hrec hV4))))
theorem pk_FR {G : mG} {r0 : Nat} : ∀ (f w : Nat) (a b : Int) (V : mV), Ik r 11 V → PkV (Ik r 11) (FR G r0 f w a b V)
  | 0, _, _, _, _, h => by unfold FR; exact Pk_no
  | f + 1, w, a, b, V, h => by
    have ih := fun w a b V h => pk_FR (G := G) (r0 := r0) f w a b V h
    unfold FR
    exact Pk_if (pk_F_X6_readTest ih h) (Pk_if (pk_F_X6_readBoth ih h) (Pk_if (pk_F_X6_readFact ih h) (Pk_if (pk_F_X6_readSum ih h) (Pk_if (pk_F_X6_readProduct ih h) (Pk_if (pk_F_X6_readPart ih h) (Pk_if (pk_F_X6_readPair ih h) Pk_no))))))
theorem pk_F_X6_readRule_J16 {r0 : Nat} {r1 : Nat} {x2 : Int} {W : mW} (hW : Ik r 11 W.2.2.2) : PkW (Ik r 11) (F_X6_readRule_J16 r0 r1 x2 W) := by
  unfold F_X6_readRule_J16
  exact Pw_gd (Pw_gd (Pw_if (Pw_lt (fun G19 => Pw_gd (Pw_ltV (Ik.sJ hW) (fun V22 hV22 => Pw_bd (pk_FR _ _ _ _ _ hV22) (fun V23 _ hV23 => Pw_so hV23))))) (Pw_lt (fun G12 => Pw_gd (Pw_ltV (Ik.sJ hW) (fun V15 hV15 => Pw_bd (pk_FR _ _ _ _ _ hV15) (fun V16 _ hV16 => Pw_so hV16)))))))
theorem pk_F_X6_readRule {r0 : Nat} {r1 : Nat} {x2 : Int} {W : mW} (hW : Ik r 11 W.2.2.2) : PkW (Ik r 11) (F_X6_readRule r0 r1 x2 W) := by
  unfold F_X6_readRule
  exact Pw_gd (Pw_bd (pk_F_X6_take hW) (fun V3 _ hV3 => Pw_gd (Pw_if (pk_F_X6_readRule_J16 hV3) (Pw_if (pk_F_X6_readRule_J16 hV3) (Pw_if (Pw_lt (fun G40 => Pw_gd (Pw_if (Pw_ltV (Ik.sJ hV3) (fun V48 hV48 => Pw_bd (pk_FR _ _ _ _ _ hV48) (fun V49 _ hV49 => Pw_so hV49))) (Pw_ltV (Ik.sJ hV3) (fun V44 hV44 => Pw_bd (pk_FR _ _ _ _ _ hV44) (fun V45 _ hV45 => Pw_so hV45)))))) (Pw_lt (fun G28 => Pw_gd (Pw_if (Pw_ltV (Ik.sJ hV3) (fun V36 hV36 => Pw_bd (pk_FR _ _ _ _ _ hV36) (fun V37 _ hV37 => Pw_so hV37))) (Pw_ltV (Ik.sJ hV3) (fun V32 hV32 => Pw_bd (pk_FR _ _ _ _ _ hV32) (fun V33 _ hV33 => Pw_so hV33)))))))))))
theorem pk_F_X6_readQuestion_J134 {r0 : Nat} {W : mW} (hW : Ik r 11 W.2.2.2) : PkW (Ik r 11) (F_X6_readQuestion_J134 r0 W) := by
  unfold F_X6_readQuestion_J134
  exact Pw_gd (Pw_bd (pk_F_X7_get hW) (fun V32 _ hV32 => Pw_gd (Pw_if (Pw_so hV32) (Pw_bd (pk_F_X6_here hV32) (fun V37 _ hV37 => Pw_bd (pk_F_X6_fail (by decide) _ hV37) (fun V40 _ hV40 => Pw_so hV40))))))
theorem pk_F_X6_readQuestion_J113 {r0 : Nat} {x1 : Int} {W : mW} (hW : Ik r 11 W.2.2.2) : PkW (Ik r 11) (F_X6_readQuestion_J113 r0 x1 W) := by
  unfold F_X6_readQuestion_J113
  exact Pw_gd (Pw_bd (pk_F_X6_take hW) (fun V23 _ hV23 => Pw_gd (Pw_if (Pw_bd (pk_FR _ _ _ _ _ hV23) (fun V28 _ hV28 => pk_F_X6_readQuestion_J134 hV28)) (Pw_bd (pk_FR _ _ _ _ _ hV23) (fun V43 _ hV43 => pk_F_X6_readQuestion_J134 hV43)))))
theorem pk_F_X6_readQuestion_J95 {r0 : Nat} {x1 : Int} {s0 : Int} {W : mW} (hW : Ik r 11 W.2.2.2) : PkW (Ik r 11) (F_X6_readQuestion_J95 r0 x1 s0 W) := by
  unfold F_X6_readQuestion_J95
  exact Pw_gd (Pw_gd (Pw_if (Pw_gd (Pw_if (Pw_bd (pk_F_X6_here hW) (fun V48 _ hV48 => Pw_bd (pk_F_X6_fail (by decide) _ hV48) (fun V51 _ hV51 => pk_F_X6_readQuestion_J113 hV51))) (pk_F_X6_readQuestion_J113 hW))) (pk_F_X6_readQuestion_J113 hW)))
theorem pk_F_X6_readQuestion_J90 {r0 : Nat} {x1 : Int} {W : mW} (hW : Ik r 11 W.2.2.2) : PkW (Ik r 11) (F_X6_readQuestion_J90 r0 x1 W) := by
  unfold F_X6_readQuestion_J90
  exact Pw_gd (pk_F_X6_readQuestion_J95 hW)
theorem pk_F_X6_readQuestion_J62 {r0 : Nat} {s0 : Int} {W : mW} (hW : Ik r 11 W.2.2.2) : PkW (Ik r 11) (F_X6_readQuestion_J62 r0 s0 W) := by
  unfold F_X6_readQuestion_J62
  exact Pw_gd (Pw_gd (Pw_if (pk_F_X6_readQuestion_J90 hW) (Pw_if (pk_F_X6_readQuestion_J90 hW) (Pw_if (pk_F_X6_readQuestion_J90 hW) (pk_F_X6_readQuestion_J95 hW)))))
theorem pk_F_X6_readQuestion_J57 {r0 : Nat} {W : mW} (hW : Ik r 11 W.2.2.2) : PkW (Ik r 11) (F_X6_readQuestion_J57 r0 W) := by
  unfold F_X6_readQuestion_J57
  exact Pw_gd (pk_F_X6_readQuestion_J62 hW)
theorem pk_F_X6_readQuestion {r0 : Nat} {W : mW} (hW : Ik r 11 W.2.2.2) : PkW (Ik r 11) (F_X6_readQuestion r0 W) := by
  unfold F_X6_readQuestion
  exact Pw_gd (Pw_bd (pk_F_X6_word hW) (fun V2 _ hV2 => Pw_ltV (Ik.sI (by decide) hV2) (fun V5 hV5 => Pw_lt (fun G6 => Pw_gd (Pw_bd (pk_F_X3_clear hV5) (fun V8 _ hV8 => Pw_ltV (Ik.sJ hV8) (fun V11 hV11 => Pw_gd (Pw_if (pk_F_X6_readQuestion_J57 hV11) (Pw_if (pk_F_X6_readQuestion_J57 hV11) (Pw_if (pk_F_X6_readQuestion_J57 hV11) (pk_F_X6_readQuestion_J62 hV11)))))))))))
theorem pk_F_X6_readCity_J154_6 {r0 : Nat} {r1 : Nat} {x2 : Int} {W : mW} (hW : Ik r 11 W.2.2.2) : PkW (Ik r 11) (F_X6_readCity_J154_6 r0 r1 x2 W) := by
  unfold F_X6_readCity_J154_6
  exact Pw_gd (Pw_bd (pk_F_X6_takeSign hW) (fun V34 _ hV34 => Pw_ltV (Ik.sI (by decide) hV34) (fun V37 hV37 => Pw_lt (fun y38 => Pw_so hV37))))
theorem pk_F_X6_readCity_J53_6 {r0 : Nat} {r1 : Nat} {x2 : Int} {W : mW} (hW : Ik r 11 W.2.2.2) : PkW (Ik r 11) (F_X6_readCity_J53_6 r0 r1 x2 W) := by
  unfold F_X6_readCity_J53_6
  exact Pw_gd (Pw_bd (pk_F_X6_here hW) (fun V26 _ hV26 => Pw_bd (pk_F_X6_fail (by decide) _ hV26) (fun V29 _ hV29 => pk_F_X6_readCity_J154_6 hV29)))
theorem pk_F_X6_readCity_J74_6 {r0 : Nat} {r1 : Nat} {x2 : Int} {x3 : Int} {W : mW} (hW : Ik r 11 W.2.2.2) : PkW (Ik r 11) (F_X6_readCity_J74_6 r0 r1 x2 x3 W) := by
  unfold F_X6_readCity_J74_6
  exact Pw_gd (Pw_bd (pk_F_X6_readGiven hW) (fun V48 _ hV48 => pk_F_X6_readCity_J154_6 hV48))
theorem pk_F_X6_readCity_J145_6 {r0 : Nat} {r1 : Nat} {x2 : Int} {W : mW} (hW : Ik r 11 W.2.2.2) : PkW (Ik r 11) (F_X6_readCity_J145_6 r0 r1 x2 W) := by
  unfold F_X6_readCity_J145_6
  exact Pw_gd (Pw_bd (pk_F_X6_here hW) (fun V58 _ hV58 => Pw_bd (pk_F_X6_fail (by decide) _ hV58) (fun V61 _ hV61 => pk_F_X6_readCity_J154_6 hV61)))
theorem pk_B_X6_readCity_6 {r0 : Nat} {r1 : Nat} {x2 : Int} {W : mW} (hW : Ik r 11 W.2.2.2) : PkW (Ik r 11) (B_X6_readCity_6 r0 r1 x2 W) := by
  unfold B_X6_readCity_6
  exact Pw_gd (Pw_gd (Pw_if (Pw_so hW) (Pw_bd (pk_F_X6_fine hW) (fun V10 _ hV10 => Pw_gd (Pw_if (Pw_so hV10) (Pw_bd (pk_F_X7_get hV10) (fun V15 _ hV15 => Pw_gd (Pw_if (Pw_so hV15) (Pw_bd (pk_F_X6_word hV15) (fun V20 _ hV20 => Pw_if (pk_F_X6_readCity_J53_6 hV20) (Pw_bd (pk_F_X6_isTooMany hV20) (fun V39 _ hV39 => Pw_gd (Pw_if (Pw_gd (Pw_if (pk_F_X6_readCity_J74_6 hV39) (Pw_if (pk_F_X6_readCity_J74_6 hV39) (Pw_if (Pw_bd (pk_F_X6_readDuty hV39) (fun V76 _ hV76 => pk_F_X6_readCity_J154_6 hV76)) (Pw_if (Pw_bd (pk_F_X6_readCover hV39) (fun V73 _ hV73 => pk_F_X6_readCity_J154_6 hV73)) (Pw_if (Pw_bd (pk_F_X6_readKnowing hV39) (fun V70 _ hV70 => pk_F_X6_readCity_J154_6 hV70)) (Pw_if (pk_F_X6_readCity_J145_6 hV39) (Pw_if (pk_F_X6_readCity_J145_6 hV39) (Pw_bdW (pk_F_X6_readRule hV39) (fun W65 _ hW65 => Pw_gd (pk_F_X6_readCity_J154_6 hW65))))))))))) (pk_F_X6_readCity_J53_6 hV39))))))))))))))
theorem pk_F_X6_readCity {r0 : Nat} {r1 : Nat} {W : mW} (hW : Ik r 11 W.2.2.2) : PkW (Ik r 11) (F_X6_readCity r0 r1 W) := by
  unfold F_X6_readCity
  exact Pw_gd (Pw_bd (pk_F_X1_clear hW) (fun V3 _ hV3 => Pw_bdW (Pw_lp (fun s Z hZ => pk_B_X6_readCity_6 hZ) hV3) (fun W79 _ hW79 => Pw_gd (Pw_so hW79))))
end

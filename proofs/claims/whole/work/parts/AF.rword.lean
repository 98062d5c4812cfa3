/-! words of the reference; names; which part is asked -/
def awk (k : Nat) : Nat := if k ≤ 26 then k - 3 else if k = 46 then 24 else if k = 47 then 25 else if k = 48 then 26 else if k = 49 then 27 else if k = 50 then 28 else if k = 51 then 29 else if k = 52 then 20 else if k = 53 then 19 else if k = 54 then 18 else if k = 55 then 21 else if k = 56 then 22 else if k = 57 then 23 else if k = 58 then 12 else if k = 59 then 13 else if k = 60 then 14 else if k = 61 then 15 else if k = 62 then 3 else if k = 63 then 16 else if k = 64 then 17 else if k = 65 then 30 else if k = 66 then 31 else if k = 67 then 32 else 0
/-- arrays that hold words -/
def isW (k : Nat) : Prop := (3 ≤ k ∧ k ≤ 26) ∨ (46 ≤ k ∧ k ≤ 67)
def rWd (V : mV) (m : Nat) : Prop := ∀ k, isW k → wdA V (m + k) (wl.getD (awk k) [])
theorem qG_of {G : mG} {a k n : Nat} (h : G.1 a = .inr (k, n)) : qG G a = n := by unfold qG; rw [h]
theorem awk_len : ∀ k : Fin 68, awk k.val < 33 := by decide +kernel
theorem qG_w {G : mG} {m : Nat} (hG : is10 G m) : ∀ k, isW k → qG G (m + k) = (wl.getD (awk k) []).length := by
  intro k hk
  unfold isW at hk
  by_cases h3 : k = 3
  · subst h3; exact qG_of (s10_11s hG)
  by_cases h4 : k = 4
  · subst h4; exact qG_of (s10_12s hG)
  by_cases h5 : k = 5
  · subst h5; exact qG_of (s10_13s hG)
  by_cases h6 : k = 6
  · subst h6; exact qG_of (s10_14s hG)
  by_cases h7 : k = 7
  · subst h7; exact qG_of (s10_15s hG)
  by_cases h8 : k = 8
  · subst h8; exact qG_of (s10_16s hG)
  by_cases h9 : k = 9
  · subst h9; exact qG_of (s10_17s hG)
  by_cases h10 : k = 10
  · subst h10; exact qG_of (s10_18s hG)
  by_cases h11 : k = 11
  · subst h11; exact qG_of (s10_19s hG)
  by_cases h12 : k = 12
  · subst h12; exact qG_of (s10_20s hG)
  by_cases h13 : k = 13
  · subst h13; exact qG_of (s10_21s hG)
  by_cases h14 : k = 14
  · subst h14; exact qG_of (s10_22s hG)
  by_cases h15 : k = 15
  · subst h15; exact qG_of (s10_23s hG)
  by_cases h16 : k = 16
  · subst h16; exact qG_of (s10_24s hG)
  by_cases h17 : k = 17
  · subst h17; exact qG_of (s10_25s hG)
  by_cases h18 : k = 18
  · subst h18; exact qG_of (s10_26s hG)
  by_cases h19 : k = 19
  · subst h19; exact qG_of (s10_27s hG)
  by_cases h20 : k = 20
  · subst h20; exact qG_of (s10_28s hG)
  by_cases h21 : k = 21
  · subst h21; exact qG_of (s10_29s hG)
  by_cases h22 : k = 22
  · subst h22; exact qG_of (s10_30s hG)
  by_cases h23 : k = 23
  · subst h23; exact qG_of (s10_31s hG)
  by_cases h24 : k = 24
  · subst h24; exact qG_of (s10_32s hG)
  by_cases h25 : k = 25
  · subst h25; exact qG_of (s10_33s hG)
  by_cases h26 : k = 26
  · subst h26; exact qG_of (s10_34s hG)
  by_cases h46 : k = 46
  · subst h46; exact qG_of (s10_75s hG)
  by_cases h47 : k = 47
  · subst h47; exact qG_of (s10_76s hG)
  by_cases h48 : k = 48
  · subst h48; exact qG_of (s10_77s hG)
  by_cases h49 : k = 49
  · subst h49; exact qG_of (s10_78s hG)
  by_cases h50 : k = 50
  · subst h50; exact qG_of (s10_79s hG)
  by_cases h51 : k = 51
  · subst h51; exact qG_of (s10_80s hG)
  by_cases h52 : k = 52
  · subst h52; exact qG_of (s10_81s hG)
  by_cases h53 : k = 53
  · subst h53; exact qG_of (s10_82s hG)
  by_cases h54 : k = 54
  · subst h54; exact qG_of (s10_83s hG)
  by_cases h55 : k = 55
  · subst h55; exact qG_of (s10_84s hG)
  by_cases h56 : k = 56
  · subst h56; exact qG_of (s10_85s hG)
  by_cases h57 : k = 57
  · subst h57; exact qG_of (s10_86s hG)
  by_cases h58 : k = 58
  · subst h58; exact qG_of (s10_87s hG)
  by_cases h59 : k = 59
  · subst h59; exact qG_of (s10_88s hG)
  by_cases h60 : k = 60
  · subst h60; exact qG_of (s10_89s hG)
  by_cases h61 : k = 61
  · subst h61; exact qG_of (s10_90s hG)
  by_cases h62 : k = 62
  · subst h62; exact qG_of (s10_91s hG)
  by_cases h63 : k = 63
  · subst h63; exact qG_of (s10_92s hG)
  by_cases h64 : k = 64
  · subst h64; exact qG_of (s10_93s hG)
  by_cases h65 : k = 65
  · subst h65; exact qG_of (s10_94s hG)
  by_cases h66 : k = 66
  · subst h66; exact qG_of (s10_95s hG)
  by_cases h67 : k = 67
  · subst h67; exact qG_of (s10_96s hG)
  omega
theorem rWd.of {V V' : mV} {m : Nat} (h : rWd V m) (k : ∀ i, isW i → gA V' (m + i) = gA V (m + i)) : rWd V' m := fun i hi j hj => by rw [k i hi]; exact h i hi j hj
section
variable {G : mG} {V : mV} {m : Nat} {T : mT2} {p : Nat}
theorem r_look2 (hT : tOk T) (h : rA V m T p) (h2 : gI V m 2 = (p : Int)) : F_X10_look G m V = some (V, lkc T p) := by
  have hn := hT.1
  have pn := rA_le h
  obtain ⟨x1, x2, ⟨a, xa, xl, xb⟩, x4, x5, x6⟩ := h
  have ap : a = p := by omega
  subst ap
  have st : B_X10_look_0 G m V = some (V, 1, ()) := by
    unfold B_X10_look_0
    rw [xa, x2, Int.toNat_natCast]
    refine E_gd ⟨by omega, by omega⟩ (E_gd ⟨by omega, by omega⟩ (E_if (fun _ => rfl) (fun q => ?_)))
    have hb := hT.2 a (by omega)
    have nb := (bsk_spec xl).2.2.2 (by omega)
    rw [xb] at nb
    rw [x1 a (by omega)]
    exact E_gd ⟨by omega, by omega, by omega⟩ (E_gd ⟨by omega, by omega⟩ (E_if (fun z => absurd (isB_i.mpr (Or.inr z)) nb) (fun _ => E_if (fun z => absurd (isB_i.mpr (Or.inl z)) nb) (fun _ => rfl))))
  unfold F_X10_look
  refine E_bd (lp_stop (q := (1, ())) st Nat.one_ne_zero (by unfold FU; decide)) ?_
  unfold F_X10_look_J52
  rw [xa, x2, Int.toNat_natCast]
  refine E_gd ⟨by omega, by omega⟩ (E_gd ⟨by omega, by omega⟩ (E_if (fun q => E_so rfl ?_) (fun q => E_gd ⟨by omega, by omega, by omega⟩ (E_so rfl ?_))))
  · unfold lkc; rw [if_neg (by omega)]
  · unfold lkc; rw [if_pos (by omega)]; exact x1 a (by omega)
theorem r_isHp (hT : tOk T) {k w : Nat} (hG : is10 G m) (hw : rWd V m) (hk : isW k) (hwk : awk k = w) (h : rA V m T p) (h0 : gI V m 5 = 0) (h2 : gI V m 2 = (p : Int)) : F_X10_isHere G m (m + k) V = some (V, if nmT T p = (w : Int) then 1 else 0) := by
  have h33 : awk k < 33 := awk_len ⟨k, by unfold isW at hk; omega⟩
  obtain ⟨V', e, -, -, -, -, -, e2⟩ := r_isH (G := G) hT h33 (qG_w hG k hk) (hw k hk) h h0
  rw [r_look2 hT h h2] at e2
  have : V = V' := congrArg Prod.fst (Option.some.inj e2)
  rw [← this, hwk] at e
  exact e
theorem own_y : F_X10_isOwnHere_J223 G m 1 V = some (V, 1) ∧ F_X10_isOwnHere_J147 G m 1 V = some (V, 1) ∧ F_X10_isOwnHere_J71 G m 1 V = some (V, 1) := by
  have a : F_X10_isOwnHere_J223 G m 1 V = some (V, 1) := by
    unfold F_X10_isOwnHere_J223
    exact E_gd (by decide) (E_if (fun y => absurd y (by decide)) (fun _ => rfl))
  have b : F_X10_isOwnHere_J147 G m 1 V = some (V, 1) := by
    unfold F_X10_isOwnHere_J147
    exact E_gd (by decide) (E_if (fun y => absurd y (by decide)) (fun _ => a))
  refine ⟨a, b, ?_⟩
  unfold F_X10_isOwnHere_J71
  exact E_gd (by decide) (E_if (fun y => absurd y (by decide)) (fun _ => b))
theorem own_3 (e : ∀ k w : Nat, isW k → awk k = w → F_X10_isHere G m (m + k) V = some (V, if nmT T p = (w : Int) then 1 else 0)) : F_X10_isOwnHere_J223 G m 0 V = some (V, if 18 ≤ nmT T p ∧ nmT T p < 24 then 1 else 0) := by
  unfold F_X10_isOwnHere_J223
  refine E_gd (by decide) (E_if (fun _ => ?_) (fun q => absurd rfl q))
  have q18 := e 21 18 (by unfold isW; omega) rfl
  by_cases z18 : nmT T p = ((18 : Nat) : Int)
  · rw [if_pos z18] at q18
    rw [show (if 18 ≤ nmT T p ∧ nmT T p < 24 then (1 : Int) else 0) = 1 from if_pos (by omega)]
    exact E_bd q18 (E_gd (by decide) (E_if (fun y => absurd y (by decide)) (fun _ => rfl)))
  rw [if_neg z18] at q18
  refine E_bd q18 (E_gd (by decide) (E_if (fun _ => ?_) (fun y => absurd rfl y)))
  have q19 := e 22 19 (by unfold isW; omega) rfl
  by_cases z19 : nmT T p = ((19 : Nat) : Int)
  · rw [if_pos z19] at q19
    rw [show (if 18 ≤ nmT T p ∧ nmT T p < 24 then (1 : Int) else 0) = 1 from if_pos (by omega)]
    exact E_bd q19 (E_gd (by decide) (E_if (fun y => absurd y (by decide)) (fun _ => rfl)))
  rw [if_neg z19] at q19
  refine E_bd q19 (E_gd (by decide) (E_if (fun _ => ?_) (fun y => absurd rfl y)))
  have q20 := e 23 20 (by unfold isW; omega) rfl
  by_cases z20 : nmT T p = ((20 : Nat) : Int)
  · rw [if_pos z20] at q20
    rw [show (if 18 ≤ nmT T p ∧ nmT T p < 24 then (1 : Int) else 0) = 1 from if_pos (by omega)]
    exact E_bd q20 (E_gd (by decide) (E_if (fun y => absurd y (by decide)) (fun _ => rfl)))
  rw [if_neg z20] at q20
  refine E_bd q20 (E_gd (by decide) (E_if (fun _ => ?_) (fun y => absurd rfl y)))
  have q21 := e 24 21 (by unfold isW; omega) rfl
  by_cases z21 : nmT T p = ((21 : Nat) : Int)
  · rw [if_pos z21] at q21
    rw [show (if 18 ≤ nmT T p ∧ nmT T p < 24 then (1 : Int) else 0) = 1 from if_pos (by omega)]
    exact E_bd q21 (E_gd (by decide) (E_if (fun y => absurd y (by decide)) (fun _ => rfl)))
  rw [if_neg z21] at q21
  refine E_bd q21 (E_gd (by decide) (E_if (fun _ => ?_) (fun y => absurd rfl y)))
  have q22 := e 25 22 (by unfold isW; omega) rfl
  by_cases z22 : nmT T p = ((22 : Nat) : Int)
  · rw [if_pos z22] at q22
    rw [show (if 18 ≤ nmT T p ∧ nmT T p < 24 then (1 : Int) else 0) = 1 from if_pos (by omega)]
    exact E_bd q22 (E_gd (by decide) (E_if (fun y => absurd y (by decide)) (fun _ => rfl)))
  rw [if_neg z22] at q22
  refine E_bd q22 (E_gd (by decide) (E_if (fun _ => ?_) (fun y => absurd rfl y)))
  have q23 := e 26 23 (by unfold isW; omega) rfl
  by_cases z23 : nmT T p = ((23 : Nat) : Int)
  · rw [if_pos z23] at q23
    rw [show (if 18 ≤ nmT T p ∧ nmT T p < 24 then (1 : Int) else 0) = 1 from if_pos (by omega)]
    exact E_bd q23 (E_gd (by decide) (E_if (fun y => absurd y (by decide)) (fun _ => rfl)))
  rw [if_neg z23] at q23
  refine E_bd q23 (E_gd (by decide) (E_if (fun _ => ?_) (fun y => absurd rfl y)))
  rw [if_neg (by omega)]
theorem own_2 (e : ∀ k w : Nat, isW k → awk k = w → F_X10_isHere G m (m + k) V = some (V, if nmT T p = (w : Int) then 1 else 0)) : F_X10_isOwnHere_J147 G m 0 V = some (V, if 12 ≤ nmT T p ∧ nmT T p < 24 then 1 else 0) := by
  unfold F_X10_isOwnHere_J147
  refine E_gd (by decide) (E_if (fun _ => ?_) (fun q => absurd rfl q))
  have q12 := e 15 12 (by unfold isW; omega) rfl
  by_cases z12 : nmT T p = ((12 : Nat) : Int)
  · rw [if_pos z12] at q12
    rw [show (if 12 ≤ nmT T p ∧ nmT T p < 24 then (1 : Int) else 0) = 1 from if_pos (by omega)]
    exact E_bd q12 (E_gd (by decide) (E_if (fun y => absurd y (by decide)) (fun _ => own_y.1)))
  rw [if_neg z12] at q12
  refine E_bd q12 (E_gd (by decide) (E_if (fun _ => ?_) (fun y => absurd rfl y)))
  have q13 := e 16 13 (by unfold isW; omega) rfl
  by_cases z13 : nmT T p = ((13 : Nat) : Int)
  · rw [if_pos z13] at q13
    rw [show (if 12 ≤ nmT T p ∧ nmT T p < 24 then (1 : Int) else 0) = 1 from if_pos (by omega)]
    exact E_bd q13 (E_gd (by decide) (E_if (fun y => absurd y (by decide)) (fun _ => own_y.1)))
  rw [if_neg z13] at q13
  refine E_bd q13 (E_gd (by decide) (E_if (fun _ => ?_) (fun y => absurd rfl y)))
  have q14 := e 17 14 (by unfold isW; omega) rfl
  by_cases z14 : nmT T p = ((14 : Nat) : Int)
  · rw [if_pos z14] at q14
    rw [show (if 12 ≤ nmT T p ∧ nmT T p < 24 then (1 : Int) else 0) = 1 from if_pos (by omega)]
    exact E_bd q14 (E_gd (by decide) (E_if (fun y => absurd y (by decide)) (fun _ => own_y.1)))
  rw [if_neg z14] at q14
  refine E_bd q14 (E_gd (by decide) (E_if (fun _ => ?_) (fun y => absurd rfl y)))
  have q15 := e 18 15 (by unfold isW; omega) rfl
  by_cases z15 : nmT T p = ((15 : Nat) : Int)
  · rw [if_pos z15] at q15
    rw [show (if 12 ≤ nmT T p ∧ nmT T p < 24 then (1 : Int) else 0) = 1 from if_pos (by omega)]
    exact E_bd q15 (E_gd (by decide) (E_if (fun y => absurd y (by decide)) (fun _ => own_y.1)))
  rw [if_neg z15] at q15
  refine E_bd q15 (E_gd (by decide) (E_if (fun _ => ?_) (fun y => absurd rfl y)))
  have q16 := e 19 16 (by unfold isW; omega) rfl
  by_cases z16 : nmT T p = ((16 : Nat) : Int)
  · rw [if_pos z16] at q16
    rw [show (if 12 ≤ nmT T p ∧ nmT T p < 24 then (1 : Int) else 0) = 1 from if_pos (by omega)]
    exact E_bd q16 (E_gd (by decide) (E_if (fun y => absurd y (by decide)) (fun _ => own_y.1)))
  rw [if_neg z16] at q16
  refine E_bd q16 (E_gd (by decide) (E_if (fun _ => ?_) (fun y => absurd rfl y)))
  have q17 := e 20 17 (by unfold isW; omega) rfl
  by_cases z17 : nmT T p = ((17 : Nat) : Int)
  · rw [if_pos z17] at q17
    rw [show (if 12 ≤ nmT T p ∧ nmT T p < 24 then (1 : Int) else 0) = 1 from if_pos (by omega)]
    exact E_bd q17 (E_gd (by decide) (E_if (fun y => absurd y (by decide)) (fun _ => own_y.1)))
  rw [if_neg z17] at q17
  refine E_bd q17 (E_gd (by decide) (E_if (fun _ => ?_) (fun y => absurd rfl y)))
  rw [own_3 e]
  by_cases z : 18 ≤ nmT T p ∧ nmT T p < 24
  · rw [if_pos z, if_pos (by omega)]
  · rw [if_neg z, if_neg (by omega)]
theorem own_1 (e : ∀ k w : Nat, isW k → awk k = w → F_X10_isHere G m (m + k) V = some (V, if nmT T p = (w : Int) then 1 else 0)) : F_X10_isOwnHere_J71 G m 0 V = some (V, if 6 ≤ nmT T p ∧ nmT T p < 24 then 1 else 0) := by
  unfold F_X10_isOwnHere_J71
  refine E_gd (by decide) (E_if (fun _ => ?_) (fun q => absurd rfl q))
  have q6 := e 9 6 (by unfold isW; omega) rfl
  by_cases z6 : nmT T p = ((6 : Nat) : Int)
  · rw [if_pos z6] at q6
    rw [show (if 6 ≤ nmT T p ∧ nmT T p < 24 then (1 : Int) else 0) = 1 from if_pos (by omega)]
    exact E_bd q6 (E_gd (by decide) (E_if (fun y => absurd y (by decide)) (fun _ => own_y.2.1)))
  rw [if_neg z6] at q6
  refine E_bd q6 (E_gd (by decide) (E_if (fun _ => ?_) (fun y => absurd rfl y)))
  have q7 := e 10 7 (by unfold isW; omega) rfl
  by_cases z7 : nmT T p = ((7 : Nat) : Int)
  · rw [if_pos z7] at q7
    rw [show (if 6 ≤ nmT T p ∧ nmT T p < 24 then (1 : Int) else 0) = 1 from if_pos (by omega)]
    exact E_bd q7 (E_gd (by decide) (E_if (fun y => absurd y (by decide)) (fun _ => own_y.2.1)))
  rw [if_neg z7] at q7
  refine E_bd q7 (E_gd (by decide) (E_if (fun _ => ?_) (fun y => absurd rfl y)))
  have q8 := e 11 8 (by unfold isW; omega) rfl
  by_cases z8 : nmT T p = ((8 : Nat) : Int)
  · rw [if_pos z8] at q8
    rw [show (if 6 ≤ nmT T p ∧ nmT T p < 24 then (1 : Int) else 0) = 1 from if_pos (by omega)]
    exact E_bd q8 (E_gd (by decide) (E_if (fun y => absurd y (by decide)) (fun _ => own_y.2.1)))
  rw [if_neg z8] at q8
  refine E_bd q8 (E_gd (by decide) (E_if (fun _ => ?_) (fun y => absurd rfl y)))
  have q9 := e 12 9 (by unfold isW; omega) rfl
  by_cases z9 : nmT T p = ((9 : Nat) : Int)
  · rw [if_pos z9] at q9
    rw [show (if 6 ≤ nmT T p ∧ nmT T p < 24 then (1 : Int) else 0) = 1 from if_pos (by omega)]
    exact E_bd q9 (E_gd (by decide) (E_if (fun y => absurd y (by decide)) (fun _ => own_y.2.1)))
  rw [if_neg z9] at q9
  refine E_bd q9 (E_gd (by decide) (E_if (fun _ => ?_) (fun y => absurd rfl y)))
  have q10 := e 13 10 (by unfold isW; omega) rfl
  by_cases z10 : nmT T p = ((10 : Nat) : Int)
  · rw [if_pos z10] at q10
    rw [show (if 6 ≤ nmT T p ∧ nmT T p < 24 then (1 : Int) else 0) = 1 from if_pos (by omega)]
    exact E_bd q10 (E_gd (by decide) (E_if (fun y => absurd y (by decide)) (fun _ => own_y.2.1)))
  rw [if_neg z10] at q10
  refine E_bd q10 (E_gd (by decide) (E_if (fun _ => ?_) (fun y => absurd rfl y)))
  have q11 := e 14 11 (by unfold isW; omega) rfl
  by_cases z11 : nmT T p = ((11 : Nat) : Int)
  · rw [if_pos z11] at q11
    rw [show (if 6 ≤ nmT T p ∧ nmT T p < 24 then (1 : Int) else 0) = 1 from if_pos (by omega)]
    exact E_bd q11 (E_gd (by decide) (E_if (fun y => absurd y (by decide)) (fun _ => own_y.2.1)))
  rw [if_neg z11] at q11
  refine E_bd q11 (E_gd (by decide) (E_if (fun _ => ?_) (fun y => absurd rfl y)))
  rw [own_2 e]
  by_cases z : 12 ≤ nmT T p ∧ nmT T p < 24
  · rw [if_pos z, if_pos (by omega)]
  · rw [if_neg z, if_neg (by omega)]
theorem r_own (hT : tOk T) (hG : is10 G m) (hw : rWd V m) (h : rA V m T p) (h0 : gI V m 5 = 0) (h2 : gI V m 2 = (p : Int)) : F_X10_isOwnHere G m V = some (V, if 0 ≤ nmT T p ∧ nmT T p < 24 then 1 else 0) := by
  have e : ∀ k w : Nat, isW k → awk k = w → F_X10_isHere G m (m + k) V = some (V, if nmT T p = (w : Int) then 1 else 0) := fun k w a b => r_isHp hT hG hw a b h h0 h2
  unfold F_X10_isOwnHere
  have q0 := e 3 0 (by unfold isW; omega) rfl
  by_cases z0 : nmT T p = ((0 : Nat) : Int)
  · rw [if_pos z0] at q0
    rw [show (if 0 ≤ nmT T p ∧ nmT T p < 24 then (1 : Int) else 0) = 1 from if_pos (by omega)]
    exact E_bd q0 (E_gd (by decide) (E_if (fun y => absurd y (by decide)) (fun _ => own_y.2.2)))
  rw [if_neg z0] at q0
  refine E_bd q0 (E_gd (by decide) (E_if (fun _ => ?_) (fun y => absurd rfl y)))
  have q1 := e 4 1 (by unfold isW; omega) rfl
  by_cases z1 : nmT T p = ((1 : Nat) : Int)
  · rw [if_pos z1] at q1
    rw [show (if 0 ≤ nmT T p ∧ nmT T p < 24 then (1 : Int) else 0) = 1 from if_pos (by omega)]
    exact E_bd q1 (E_gd (by decide) (E_if (fun y => absurd y (by decide)) (fun _ => own_y.2.2)))
  rw [if_neg z1] at q1
  refine E_bd q1 (E_gd (by decide) (E_if (fun _ => ?_) (fun y => absurd rfl y)))
  have q2 := e 5 2 (by unfold isW; omega) rfl
  by_cases z2 : nmT T p = ((2 : Nat) : Int)
  · rw [if_pos z2] at q2
    rw [show (if 0 ≤ nmT T p ∧ nmT T p < 24 then (1 : Int) else 0) = 1 from if_pos (by omega)]
    exact E_bd q2 (E_gd (by decide) (E_if (fun y => absurd y (by decide)) (fun _ => own_y.2.2)))
  rw [if_neg z2] at q2
  refine E_bd q2 (E_gd (by decide) (E_if (fun _ => ?_) (fun y => absurd rfl y)))
  have q3 := e 6 3 (by unfold isW; omega) rfl
  by_cases z3 : nmT T p = ((3 : Nat) : Int)
  · rw [if_pos z3] at q3
    rw [show (if 0 ≤ nmT T p ∧ nmT T p < 24 then (1 : Int) else 0) = 1 from if_pos (by omega)]
    exact E_bd q3 (E_gd (by decide) (E_if (fun y => absurd y (by decide)) (fun _ => own_y.2.2)))
  rw [if_neg z3] at q3
  refine E_bd q3 (E_gd (by decide) (E_if (fun _ => ?_) (fun y => absurd rfl y)))
  have q4 := e 7 4 (by unfold isW; omega) rfl
  by_cases z4 : nmT T p = ((4 : Nat) : Int)
  · rw [if_pos z4] at q4
    rw [show (if 0 ≤ nmT T p ∧ nmT T p < 24 then (1 : Int) else 0) = 1 from if_pos (by omega)]
    exact E_bd q4 (E_gd (by decide) (E_if (fun y => absurd y (by decide)) (fun _ => own_y.2.2)))
  rw [if_neg z4] at q4
  refine E_bd q4 (E_gd (by decide) (E_if (fun _ => ?_) (fun y => absurd rfl y)))
  have q5 := e 8 5 (by unfold isW; omega) rfl
  by_cases z5 : nmT T p = ((5 : Nat) : Int)
  · rw [if_pos z5] at q5
    rw [show (if 0 ≤ nmT T p ∧ nmT T p < 24 then (1 : Int) else 0) = 1 from if_pos (by omega)]
    exact E_bd q5 (E_gd (by decide) (E_if (fun y => absurd y (by decide)) (fun _ => own_y.2.2)))
  rw [if_neg z5] at q5
  refine E_bd q5 (E_gd (by decide) (E_if (fun _ => ?_) (fun y => absurd rfl y)))
  rw [own_1 e]
  by_cases z : 6 ≤ nmT T p ∧ nmT T p < 24
  · rw [if_pos z, if_pos (by omega)]
  · rw [if_neg z, if_neg (by omega)]
/-- which part is asked here -/
theorem r_wh (hT : tOk T) (hG : is10 G m) (hw : rWd V m) (h : rA V m T p) (h0 : gI V m 5 = 0) (h2 : gI V m 2 = (p : Int)) {md : Nat} (h48 : gI V m 48 = (md : Int)) (hmd : md ≤ 3) : F_X10_qWordHere G m V = some (V, if nmT T p = 14 ∧ md = 3 then 10 else wfa (nmT T p)) := by
  have e : ∀ k w : Nat, isW k → awk k = w → F_X10_isHere G m (m + k) V = some (V, if nmT T p = (w : Int) then 1 else 0) := fun k w a b => r_isHp hT hG hw a b h h0 h2
  unfold F_X10_qWordHere
  have q12 := e 58 12 (by unfold isW; omega) rfl
  by_cases z12 : nmT T p = ((12 : Nat) : Int)
  · rw [if_pos z12] at q12
    rw [if_neg (show ¬ (nmT T p = 14 ∧ md = 3) from fun y => by omega), z12]
    exact E_bd q12 (E_gd (by decide) (E_if (fun y => absurd y (by decide)) (fun _ => rfl)))
  rw [if_neg z12] at q12
  refine E_bd q12 (E_gd (by decide) (E_if (fun _ => ?_) (fun y => absurd rfl y)))
  have q13 := e 59 13 (by unfold isW; omega) rfl
  by_cases z13 : nmT T p = ((13 : Nat) : Int)
  · rw [if_pos z13] at q13
    rw [if_neg (show ¬ (nmT T p = 14 ∧ md = 3) from fun y => by omega), z13]
    exact E_bd q13 (E_gd (by decide) (E_if (fun y => absurd y (by decide)) (fun _ => rfl)))
  rw [if_neg z13] at q13
  refine E_bd q13 (E_gd (by decide) (E_if (fun _ => ?_) (fun y => absurd rfl y)))
  have q14 := e 60 14 (by unfold isW; omega) rfl
  by_cases z14 : nmT T p = ((14 : Nat) : Int)
  · rw [if_pos z14] at q14
    refine E_bd q14 (E_gd (by decide) (E_if (fun y => absurd y (by decide)) (fun _ => E_gd (by rw [h48]; exact ⟨by omega, by omega⟩) (E_if (fun y => E_so rfl ?_) (fun y => E_so rfl ?_)))))
    · rw [if_pos ⟨z14, by omega⟩]
    · rw [if_neg (fun y2 => y (by rw [h48, y2.2]; rfl)), z14]; rfl
  rw [if_neg z14] at q14
  refine E_bd q14 (E_gd (by decide) (E_if (fun _ => ?_) (fun y => absurd rfl y)))
  rw [if_neg (show ¬ (nmT T p = 14 ∧ md = 3) from fun y => z14 y.1)]
  have q15 := e 61 15 (by unfold isW; omega) rfl
  by_cases z15 : nmT T p = ((15 : Nat) : Int)
  · rw [if_pos z15] at q15
    rw [z15]
    exact E_bd q15 (E_gd (by decide) (E_if (fun y => absurd y (by decide)) (fun _ => rfl)))
  rw [if_neg z15] at q15
  refine E_bd q15 (E_gd (by decide) (E_if (fun _ => ?_) (fun y => absurd rfl y)))
  have q3 := e 62 3 (by unfold isW; omega) rfl
  by_cases z3 : nmT T p = ((3 : Nat) : Int)
  · rw [if_pos z3] at q3
    rw [z3]
    exact E_bd q3 (E_gd (by decide) (E_if (fun y => absurd y (by decide)) (fun _ => rfl)))
  rw [if_neg z3] at q3
  refine E_bd q3 (E_gd (by decide) (E_if (fun _ => ?_) (fun y => absurd rfl y)))
  have q16 := e 63 16 (by unfold isW; omega) rfl
  by_cases z16 : nmT T p = ((16 : Nat) : Int)
  · rw [if_pos z16] at q16
    rw [z16]
    exact E_bd q16 (E_gd (by decide) (E_if (fun y => absurd y (by decide)) (fun _ => rfl)))
  rw [if_neg z16] at q16
  refine E_bd q16 (E_gd (by decide) (E_if (fun _ => ?_) (fun y => absurd rfl y)))
  have q17 := e 64 17 (by unfold isW; omega) rfl
  by_cases z17 : nmT T p = ((17 : Nat) : Int)
  · rw [if_pos z17] at q17
    rw [z17]
    exact E_bd q17 (E_gd (by decide) (E_if (fun y => absurd y (by decide)) (fun _ => rfl)))
  rw [if_neg z17] at q17
  refine E_bd q17 (E_gd (by decide) (E_if (fun _ => ?_) (fun y => absurd rfl y)))
  have q30 := e 65 30 (by unfold isW; omega) rfl
  by_cases z30 : nmT T p = ((30 : Nat) : Int)
  · rw [if_pos z30] at q30
    rw [z30]
    exact E_bd q30 (E_gd (by decide) (E_if (fun y => absurd y (by decide)) (fun _ => rfl)))
  rw [if_neg z30] at q30
  refine E_bd q30 (E_gd (by decide) (E_if (fun _ => ?_) (fun y => absurd rfl y)))
  have q31 := e 66 31 (by unfold isW; omega) rfl
  by_cases z31 : nmT T p = ((31 : Nat) : Int)
  · rw [if_pos z31] at q31
    rw [z31]
    exact E_bd q31 (E_gd (by decide) (E_if (fun y => absurd y (by decide)) (fun _ => rfl)))
  rw [if_neg z31] at q31
  refine E_bd q31 (E_gd (by decide) (E_if (fun _ => ?_) (fun y => absurd rfl y)))
  have q32 := e 67 32 (by unfold isW; omega) rfl
  by_cases z32 : nmT T p = ((32 : Nat) : Int)
  · rw [if_pos z32] at q32
    rw [z32]
    exact E_bd q32 (E_gd (by decide) (E_if (fun y => absurd y (by decide)) (fun _ => rfl)))
  rw [if_neg z32] at q32
  refine E_bd q32 (E_gd (by decide) (E_if (fun _ => ?_) (fun y => absurd rfl y)))
  refine E_so rfl ?_
  unfold wfa
  rw [if_neg (show ¬ nmT T p = 12 from z12), if_neg (show ¬ nmT T p = 13 from z13), if_neg (show ¬ nmT T p = 14 from z14), if_neg (show ¬ nmT T p = 15 from z15), if_neg (show ¬ nmT T p = 3 from z3), if_neg (show ¬ nmT T p = 16 from z16), if_neg (show ¬ nmT T p = 17 from z17), if_neg (show ¬ nmT T p = 30 from z30), if_neg (show ¬ nmT T p = 31 from z31), if_neg (show ¬ nmT T p = 32 from z32)]
theorem r_alw {md : Nat} (h48 : gI V m 48 = (md : Int)) (hmd : md ≤ 3) {k : Int} (hk : -1 ≤ k ∧ k ≤ 10) (h0 : 0 ≤ k) : F_X10_isAllowed G m k V = some (V, if (k ≤ 9 ∧ k ∈ alS md) ∨ (k = 10 ∧ md = 3) then 1 else 0) := by
  have cs : ∀ k : Fin 11, ∀ md : Fin 4, ((k.val ≤ 9 ∧ (k.val : Int) ∈ alS md.val) ∨ (k.val = 10 ∧ md.val = 3)) ↔ (k.val < 2 ∨ (md.val = 0 ∧ k.val < 4) ∨ (md.val = 1 ∧ (k.val = 2 ∨ k.val = 4 ∨ k.val = 5)) ∨ (md.val = 2 ∧ (k.val = 2 ∨ k.val = 3 ∨ k.val = 6)) ∨ (md.val = 3 ∧ 6 < k.val)) := by decide +kernel
  have c := cs ⟨k.toNat, by omega⟩ ⟨md, by omega⟩
  simp only [Int.toNat_of_nonneg h0] at c
  have c' : ((k ≤ 9 ∧ k ∈ alS md) ∨ (k = 10 ∧ md = 3)) ↔ (k.toNat < 2 ∨ (md = 0 ∧ k.toNat < 4) ∨ (md = 1 ∧ (k.toNat = 2 ∨ k.toNat = 4 ∨ k.toNat = 5)) ∨ (md = 2 ∧ (k.toNat = 2 ∨ k.toNat = 3 ∨ k.toNat = 6)) ∨ (md = 3 ∧ 6 < k.toNat)) := by
    rw [← c]
    constructor
    · rintro (⟨a, b⟩ | ⟨a, b⟩)
      · exact Or.inl ⟨by omega, b⟩
      · exact Or.inr ⟨by omega, b⟩
    · rintro (⟨a, b⟩ | ⟨a, b⟩)
      · exact Or.inl ⟨by omega, b⟩
      · exact Or.inr ⟨by omega, b⟩
  have fin : ∀ (b : Prop) [Decidable b] (x : Int), (x = if b then 1 else 0) → (((k ≤ 9 ∧ k ∈ alS md) ∨ (k = 10 ∧ md = 3)) ↔ b) → (some (V, x) : Option (mV × Int)) = some (V, if (k ≤ 9 ∧ k ∈ alS md) ∨ (k = 10 ∧ md = 3) then 1 else 0) := by
    intro b _ x hx hb
    rw [hx]
    by_cases y : b
    · rw [if_pos y, if_pos (hb.mpr y)]
    · rw [if_neg y, if_neg (fun z => y (hb.mp z))]
  unfold F_X10_isAllowed
  rw [h48]
  have md3 : md = 0 ∨ md = 1 ∨ md = 2 ∨ md = 3 := by omega
  refine E_gd ⟨by omega, by omega⟩ (E_if (fun a => E_gd ⟨by omega, by omega⟩ (E_if (fun b => E_if (fun d => fin False 0 rfl ?_) (fun d => fin True 1 rfl ?_)) (fun b => E_if (fun b2 => E_if (fun d => fin True 1 rfl ?_) (fun d => E_if (fun d2 => fin True 1 rfl ?_) (fun d2 => E_if (fun d3 => fin True 1 rfl ?_) (fun d3 => fin False 0 rfl ?_)))) (fun b2 => E_if (fun b3 => E_if (fun d => fin True 1 rfl ?_) (fun d => E_if (fun d2 => fin True 1 rfl ?_) (fun d2 => E_if (fun d3 => fin True 1 rfl ?_) (fun d3 => fin False 0 rfl ?_)))) (fun b3 => E_if (fun d => fin False 0 rfl ?_) (fun d => fin True 1 rfl ?_)))))) (fun a => fin True 1 rfl ?_)) <;> (rw [c']; constructor <;> intro _ <;> first | trivial | omega)
theorem r_wo1 (hT : tOk T) (hG : is10 G m) (hw : rWd V m) (h : rA V m T p) (h0 : gI V m 5 = 0) (h2 : gI V m 2 = (p : Int)) {md : Nat} (h48 : gI V m 48 = (md : Int)) (hmd : md ≤ 3) : F_X10_qWordOf G m 10 11 V = some (V, if clT md T p = 5 then 10 else -1) := by
  have e := r_wh hT hG hw h h0 h2 h48 hmd
  have c5 : clT md T p = 5 ↔ _ := cl_5
  have wr := wfa_rg (w := nmT T p)
  unfold F_X10_qWordOf
  by_cases c : nmT T p = 14 ∧ md = 3
  · rw [if_pos c] at e
    have a := r_alw (G := G) (V := V) h48 hmd (k := 10) (by decide) (by decide)
    rw [if_pos (Or.inr ⟨rfl, c.2⟩)] at a
    rw [if_pos (c5.mpr c)]
    exact E_bd e (E_gd (by decide) (E_gd (by decide) (E_if (fun q => absurd q (by decide)) (fun _ => E_gd (by decide) (E_if (fun q => absurd q (by decide)) (fun _ => E_bd a (E_gd (by decide) (E_if (fun q => absurd q (by decide)) (fun _ => rfl)))))))))
  · rw [if_neg c] at e
    rw [if_neg (fun z => c (c5.mp z))]
    exact E_bd e (E_gd ⟨by omega, by omega⟩ (E_gd (by decide) (E_if (fun _ => rfl) (fun q => by omega))))
theorem r_wo2 (hT : tOk T) (hG : is10 G m) (hw : rWd V m) (h : rA V m T p) (h0 : gI V m 5 = 0) (h2 : gI V m 2 = (p : Int)) {md : Nat} (h48 : gI V m 48 = (md : Int)) (hmd : md ≤ 3) : F_X10_qWordOf G m 0 10 V = some (V, if clT md T p = 6 then wfa (nmT T p) else -1) := by
  have e := r_wh hT hG hw h h0 h2 h48 hmd
  have c6 : clT md T p = 6 ↔ _ := cl_6
  have wr := wfa_rg (w := nmT T p)
  unfold F_X10_qWordOf
  by_cases c : nmT T p = 14 ∧ md = 3
  · rw [if_pos c] at e
    rw [if_neg (fun z => (c6.mp z).2 c)]
    exact E_bd e (E_gd (by decide) (E_gd (by decide) (E_if (fun q => absurd q (by decide)) (fun _ => E_gd (by decide) (E_if (fun _ => rfl) (fun q => absurd (by decide) q))))))
  · rw [if_neg c] at e
    by_cases n : wfa (nmT T p) = -1
    · rw [if_neg (fun z => by have := (c6.mp z).1; rw [n] at this; exact al_ne this)]
      exact E_bd e (E_gd ⟨by omega, by omega⟩ (E_gd (by decide) (E_if (fun _ => rfl) (fun q => by omega))))
    · have a := r_alw (G := G) (V := V) h48 hmd (k := wfa (nmT T p)) (by omega) (by omega)
      refine E_bd e (E_gd ⟨by omega, by omega⟩ (E_gd (by decide) (E_if (fun q => by omega) (fun _ => E_gd (by decide) (E_if (fun q => by omega) (fun _ => E_bd a ?_))))))
      by_cases k : clT md T p = 6
      · rw [if_pos k, if_pos (Or.inl ⟨by omega, (c6.mp k).1⟩)]
        exact E_gd (by decide) (E_if (fun q => absurd q (by decide)) (fun _ => rfl))
      · rw [if_neg k, if_neg (by
          rintro (z | z)
          · exact k (c6.mpr ⟨z.2, c⟩)
          · omega)]
        exact E_gd (by decide) (E_if (fun _ => rfl) (fun q => absurd rfl q))
end

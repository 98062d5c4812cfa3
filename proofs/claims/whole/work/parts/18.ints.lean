/-! whole numbers and the machine's ints -/
abbrev rg (a : Int) : Prop := -2147483648 ≤ a ∧ a ≤ 2147483647
abbrev rl (a : Int) : Prop := -9223372036854775808 ≤ a ∧ a ≤ 9223372036854775807
theorem iI_t {a : Int} (h : rg a) : (iI a).toInt = a := Int32.toInt_ofInt_of_le (by omega) (by omega)
theorem lI_t {a : Int} (h : rl a) : (lI a).toInt = a := Int64.toInt_ofInt_of_le (by omega) (by omega)
theorem iI_of (x : Int32) : ∃ a, rg a ∧ x = iI a := by
  refine ⟨x.toInt, ⟨?_, ?_⟩, (Int32.ofInt_toInt x).symm⟩
  · have := Int32.le_toInt x; omega
  · have := Int32.toInt_lt x; omega
theorem iI_lt {a b : Int} (ha : rg a) (hb : rg b) : iI a < iI b ↔ a < b := by rw [Int32.lt_iff_toInt_lt, iI_t ha, iI_t hb]
theorem iI_le {a b : Int} (ha : rg a) (hb : rg b) : iI a ≤ iI b ↔ a ≤ b := by rw [Int32.le_iff_toInt_le, iI_t ha, iI_t hb]
theorem iI_eq {a b : Int} (ha : rg a) (hb : rg b) : iI a = iI b ↔ a = b := by rw [← Int32.toInt_inj, iI_t ha, iI_t hb]
theorem lI_lt {a b : Int} (ha : rl a) (hb : rl b) : lI a < lI b ↔ a < b := by rw [Int64.lt_iff_toInt_lt, lI_t ha, lI_t hb]
theorem lI_eq {a b : Int} (ha : rl a) (hb : rl b) : lI a = lI b ↔ a = b := by rw [← Int64.toInt_inj, lI_t ha, lI_t hb]
theorem iI_0 : (0 : Int32) = iI 0 := by decide
theorem lI_0 : (0 : Int64) = lI 0 := by decide
theorem i32mn : Int32.minValue.toInt = -2147483648 := by decide
theorem i32mx : Int32.maxValue.toInt = 2147483647 := by decide
theorem i64mn : Int64.minValue.toInt = -9223372036854775808 := by decide
theorem i64mx : Int64.maxValue.toInt = 9223372036854775807 := by decide
theorem iI_div {a b : Int} (ha : rg a) (hb : rg b) : iI a / iI b = iI (a.tdiv b) := (Int32.ofInt_tdiv (by rw [i32mn]; omega) (by rw [i32mx]; omega) (by rw [i32mn]; omega) (by rw [i32mx]; omega)).symm
theorem lI_div {a b : Int} (ha : rl a) (hb : rl b) : lI a / lI b = lI (a.tdiv b) := (Int64.ofInt_tdiv (by rw [i64mn]; omega) (by rw [i64mx]; omega) (by rw [i64mn]; omega) (by rw [i64mx]; omega)).symm
theorem tdm (a b : Int) : a - a.tdiv b * b = a.tmod b := by
  have := Int.mul_tdiv_add_tmod a b
  have h2 : b * a.tdiv b = a.tdiv b * b := Int.mul_comm _ _
  omega
theorem iI_rem {a b : Int} (ha : rg a) (hb : rg b) : iI a - iI a / iI b * iI b = iI (a.tmod b) := by
  rw [iI_div ha hb, ← Int32.ofInt_mul, ← Int32.ofInt_sub, tdm]
theorem lI_rem {a b : Int} (ha : rl a) (hb : rl b) : lI a - lI a / lI b * lI b = lI (a.tmod b) := by
  rw [lI_div ha hb, ← Int64.ofInt_mul, ← Int64.ofInt_sub, tdm]
theorem iI_cl {a : Int} (h : rg a) : (iI a).toNatClampNeg = a.toNat := Int32.toNatClampNeg_ofInt_of_le (by omega) (by omega)
theorem iI_nat (n : Nat) : Int32.ofNat n = iI (n : Int) := Int32.ofInt_eq_ofNat.symm
theorem iI_vin {j : Int} {n : Nat} (h0 : 0 ≤ j) (h1 : j < (n : Int)) (h2 : j ≤ 2147483647) : a_vin (iI j) n = true := by
  have hr : rg j := ⟨by omega, h2⟩
  unfold a_vin
  rw [iI_cl hr, iI_0]
  simp only [Bool.not_eq_true', Bool.or_eq_false_iff, decide_eq_false_iff_not, iI_lt hr (show rg 0 by omega)]
  omega
theorem i2l_t {a : Int} (h : rg a) : (iI a).toInt64 = lI a := by
  apply Int64.toInt_inj.mp
  rw [Int32.toInt_toInt64, iI_t h, lI_t (by omega)]
theorem l2i_t (a : Int) : (lI a).toInt32 = iI a := Int64.toInt32_ofInt
def a_cmp (a b : Int) : Int := if a < b then -1 else if a = b then 0 else 1
theorem cmp_t {a b : Int} (ha : rl a) (hb : rl b) : lg_cmp (lI a) (lI b) = iI (a_cmp a b) := by
  unfold lg_cmp a_cmp
  simp only [lI_lt ha hb, lI_lt hb ha, lI_eq ha hb]
  by_cases h1 : a < b
  · simp [h1, show ¬ b < a by omega, show ¬ a = b by omega, iI]
    try decide
  · by_cases h2 : a = b
    · subst h2
      simp
      exact iI_0
    · simp [h1, h2, show b < a by omega, iI]
      try decide
theorem cmp_lt {a b : Int} : a_cmp a b < 0 ↔ a < b := by unfold a_cmp; split <;> (try split) <;> omega
theorem cmp_ge {a b : Int} : 0 ≤ a_cmp a b ↔ b ≤ a := by unfold a_cmp; split <;> (try split) <;> omega
theorem cmp_gt {a b : Int} : 0 < a_cmp a b ↔ b < a := by unfold a_cmp; split <;> (try split) <;> omega
theorem cmp_le {a b : Int} : a_cmp a b ≤ 0 ↔ a ≤ b := by unfold a_cmp; split <;> (try split) <;> omega
theorem cmp_eq {a b : Int} : a_cmp a b = 0 ↔ a = b := by unfold a_cmp; split <;> (try split) <;> omega
theorem cmp_rg (a b : Int) : rg (a_cmp a b) := by unfold a_cmp; split <;> (try split) <;> omega
/-- bits -/
theorem iI_bv (a : Int) : (iI a).toBitVec = BitVec.ofInt 32 a := rfl
theorem lI_bv (a : Int) : (lI a).toBitVec = BitVec.ofInt 64 a := rfl
theorem iI_tn (a : Int) : ((iI a).toBitVec.toNat : Int) = a % 4294967296 := by
  rw [iI_bv, BitVec.toNat_ofInt]
  have : (0 : Int) ≤ a % 4294967296 := Int.emod_nonneg _ (by decide)
  show ((a % 4294967296).toNat : Int) = _
  omega
theorem lI_tn (a : Int) : ((lI a).toBitVec.toNat : Int) = a % 18446744073709551616 := by
  rw [lI_bv, BitVec.toNat_ofInt]
  have : (0 : Int) ≤ a % 18446744073709551616 := Int.emod_nonneg _ (by decide)
  show ((a % 18446744073709551616).toNat : Int) = _
  omega
theorem i_ext {x y : Int32} (h : (x.toBitVec.toNat : Int) = (y.toBitVec.toNat : Int)) : x = y := Int32.toBitVec_inj.mp (BitVec.eq_of_toNat_eq (by omega))
theorem l_ext {x y : Int64} (h : (x.toBitVec.toNat : Int) = (y.toBitVec.toNat : Int)) : x = y := Int64.toBitVec_inj.mp (BitVec.eq_of_toNat_eq (by omega))
theorem p2dvd {k n : Nat} (h : k ≤ n) : ((2 ^ k : Nat) : Int) ∣ ((2 ^ n : Nat) : Int) := Int.natCast_dvd_natCast.mpr (Nat.pow_dvd_pow 2 h)
theorem iI_and (a : Int) {m : Int} (k : Nat) (hk : k < 32) (hm : (iI m).toBitVec.toNat = 2 ^ k - 1) : iI a &&& iI m = iI (a % ((2 ^ k : Nat) : Int)) := by
  rw [pk_and (iI a) k hm]
  show Int32.ofNat _ = _
  rw [iI_nat]
  congr 1
  rw [Int.natCast_emod, iI_tn]
  have h := p2dvd (show k ≤ 32 by omega)
  exact Int.emod_emod_of_dvd a h
theorem sh_amt : ∀ n : Fin 32, ((iI (n.val : Int) &&& 31).toBitVec.smod 32).toNat = n.val := by decide +kernel
theorem sh_amt' {c : Int} (h0 : 0 ≤ c) (h1 : c < 32) : ((iI c &&& 31).toBitVec.smod 32).toNat = c.toNat := by
  have h := sh_amt ⟨c.toNat, by omega⟩
  simp only at h
  rwa [show ((c.toNat : Nat) : Int) = c by omega] at h
theorem iI_shl (a : Int) {c : Int} (h0 : 0 ≤ c) (h1 : c < 32) : iI a <<< (iI c &&& 31) = iI (a * ((2 ^ c.toNat : Nat) : Int)) := by
  apply i_ext
  rw [pk_shl _ _ c.toNat (sh_amt' h0 h1), iI_tn, Int.natCast_emod, Int.natCast_mul, iI_tn]
  show a % 4294967296 * _ % 4294967296 = _
  rw [Int.mul_emod, Int.emod_emod_of_dvd a (Int.dvd_refl _), ← Int.mul_emod]
theorem iI_shr {a : Int} (ha : rg a) {c : Int} (h0 : 0 ≤ c) (h1 : c < 32) : iI a >>> (iI c &&& 31) = iI (a / ((2 ^ c.toNat : Nat) : Int)) := by
  have h := pk_shr (iI a) (iI c &&& 31) c.toNat (sh_amt' h0 h1)
  rw [iI_t ha, Int.shiftRight_eq_div_pow] at h
  apply Int32.toInt_inj.mp
  rw [h]
  have hp : (0 : Int) < ((2 ^ c.toNat : Nat) : Int) := by
    have := Nat.pow_pos (n := c.toNat) (show 0 < 2 by decide)
    omega
  have h2 : rg (a / ((2 ^ c.toNat : Nat) : Int)) := by
    constructor
    · rw [Int.le_ediv_iff_mul_le hp]
      have : (1 : Int) ≤ ((2 ^ c.toNat : Nat) : Int) := hp
      have h3 : -2147483648 * ((2 ^ c.toNat : Nat) : Int) ≤ -2147483648 * 1 := Int.mul_le_mul_of_nonpos_left (by decide) this
      omega
    · have h3 : a / ((2 ^ c.toNat : Nat) : Int) < 2147483648 := by
        rw [Int.ediv_lt_iff_lt_mul hp]
        have : (1 : Int) ≤ ((2 ^ c.toNat : Nat) : Int) := hp
        have h4 : 2147483648 * 1 ≤ 2147483648 * ((2 ^ c.toNat : Nat) : Int) := Int.mul_le_mul_of_nonneg_left this (by decide)
        omega
      omega
  rw [iI_t h2]
theorem iI_or (a b : Nat) : iI (a : Int) ||| iI (b : Int) = iI ((a ||| b : Nat) : Int) := by
  rw [← iI_nat, ← iI_nat, ← iI_nat]
  apply Int32.toBitVec_inj.mp
  rw [Int32.toBitVec_or]
  show BitVec.ofNat 32 a ||| BitVec.ofNat 32 b = BitVec.ofNat 32 (a ||| b)
  apply BitVec.eq_of_toNat_eq
  simp [BitVec.toNat_or, Nat.or_mod_two_pow]
theorem iI_andN (a b : Nat) : iI (a : Int) &&& iI (b : Int) = iI ((a &&& b : Nat) : Int) := by
  rw [← iI_nat, ← iI_nat, ← iI_nat]
  apply Int32.toBitVec_inj.mp
  rw [Int32.toBitVec_and]
  show BitVec.ofNat 32 a &&& BitVec.ofNat 32 b = BitVec.ofNat 32 (a &&& b)
  apply BitVec.eq_of_toNat_eq
  simp [BitVec.toNat_and, Nat.and_mod_two_pow]
theorem lI_and31 (a : Int) : lI a &&& lI 2147483647 = lI (a % 2147483648) := by
  apply l_ext
  rw [Int64.toBitVec_and, BitVec.toNat_and, lI_tn, show (lI 2147483647).toBitVec.toNat = 2 ^ 31 - 1 by decide, Nat.and_two_pow_sub_one_eq_mod, Int.natCast_emod, lI_tn]
  show a % 18446744073709551616 % 2147483648 = a % 2147483648 % 18446744073709551616
  omega
theorem nar_c {a : Int} (h0 : 0 ≤ a) (h1 : a < 65536) : vp_nar .char (iI a) = iI a := by
  have h := (pk_charN (q := a.toNat) (by omega)).1
  have e : nI a.toNat = iI a := by
    show Int32.ofNat _ = _
    rw [iI_nat, show ((a.toNat : Nat) : Int) = a by omega]
  rw [e] at h
  unfold vp_nar
  rw [h]

section
variable {X : mX} {n z : Nat} {G : mG} {V : mV} {Q : Nat → Nat → mG → mV → Option Value → Prop}
theorem k9_ixor {y pc nx d : Nat} {L : mL} {rest : List Value} {a b : Int} (hf : a_fetch y pc = some (.ixor, nx)) (ha : rg a) (hb : rg b) (k : ∀ c, rg c → (c < 0 ↔ ((a < 0 ∧ 0 ≤ b) ∨ (0 ≤ a ∧ b < 0))) → T X d y nx L (.int (iI c) :: rest) n z G V Q) : T X d y pc L (.int (iI b) :: .int (iI a) :: rest) n z G V Q := by
  obtain ⟨c, hc, e⟩ := iI_of (iI a ^^^ iI b)
  refine t_s hf rfl rfl (st' := .int (iI c) :: rest) (by rw [← e]; rfl) (k c hc ?_)
  have h1 : ∀ x : Int32, x.toBitVec.msb = decide (x.toInt < 0) := fun x => BitVec.msb_eq_toInt
  have h2 := h1 (iI a ^^^ iI b)
  rw [Int32.toBitVec_xor, BitVec.msb_xor, h1, h1, e, iI_t ha, iI_t hb, iI_t hc] at h2
  by_cases p : a < 0 <;> by_cases q : b < 0 <;> by_cases w : c < 0 <;> simp [p, q, w] at h2 ⊢ <;> omega
theorem fdv {a b : Int} (hb : b ≠ 0) : a.fdiv b = if ((a < 0 ∧ 0 ≤ b) ∨ (0 ≤ a ∧ b < 0)) ∧ a.tdiv b * b ≠ a then a.tdiv b - 1 else a.tdiv b := by
  have e1 := Int.mul_tdiv_add_tmod a b
  have e3 : b * a.tdiv b = a.tdiv b * b := Int.mul_comm _ _
  rw [Int.fdiv_eq_tdiv]
  by_cases hd : b ∣ a
  · have hz : a.tmod b = 0 := Int.tmod_eq_zero_of_dvd hd
    rw [if_pos hd, if_neg (by omega)]; omega
  · have hz : a.tmod b ≠ 0 := fun q => hd (Int.dvd_of_tmod_eq_zero q)
    rw [if_neg hd]
    by_cases p : 0 ≤ a <;> by_cases q : 0 ≤ b
    · rw [if_pos p, if_pos q, if_neg (by omega)]; omega
    · rw [if_pos p, if_neg q, if_pos ⟨by omega, by omega⟩]
    · rw [if_neg p, if_pos q, Int.sign_eq_one_of_pos (by omega), if_pos ⟨by omega, by omega⟩]
    · rw [if_neg p, if_neg q, Int.sign_eq_neg_one_of_neg (by omega), if_neg (by omega)]; omega
theorem prd_rg {a b : Int} (ha : -2147483648 < a ∧ a ≤ 2147483647) : rg (a.tdiv b * b) := by
  have h : (a.tdiv b * b).natAbs ≤ a.natAbs := by
    rw [Int.natAbs_mul, Int.natAbs_tdiv]
    exact Nat.div_mul_le_self _ _
  omega
theorem tdv_rg {a b : Int} (ha : -2147483648 < a ∧ a ≤ 2147483647) : rg (a.tdiv b) ∧ -2147483647 ≤ a.tdiv b := by
  have h := Int.natAbs_tdiv_le_natAbs a b
  omega
theorem eJ9_floorDiv_7cf53 {a b : Int} (ha : -2147483648 < a ∧ a ≤ 2147483647) (hb : rg b) (h0 : b ≠ 0) : Rn X 0 293 [.int (iI a), .int (iI b)] n z G V n z (G) (V) (some (.int (iI (a.fdiv b)))) := by
  refine T.toR (L := [some (.int (iI a)), some (.int (iI b)), none]) rfl ?_
  have hq := tdv_rg (b := b) ha
  have hq2 := prd_rg (b := b) ha
  rw [fdv h0]
  refine t_l fJ9_floorDiv_7cf53_0 rfl rfl rfl rfl ?_
  refine t_l fJ9_floorDiv_7cf53_1 rfl rfl rfl rfl ?_
  refine k9_idiv fJ9_floorDiv_7cf53_2 ⟨by omega, by omega⟩ ⟨by omega, by omega⟩ (by omega) ?_
  refine t_l fJ9_floorDiv_7cf53_3 rfl rfl rfl rfl ?_
  refine t_l fJ9_floorDiv_7cf53_4 rfl rfl rfl rfl ?_
  refine t_l fJ9_floorDiv_7cf53_5 rfl rfl rfl rfl ?_
  refine k9_ixor fJ9_floorDiv_7cf53_6 ⟨by omega, by omega⟩ ⟨by omega, by omega⟩ (fun c1 hc1 hx1 => ?_)
  refine k9_if_ge fJ9_floorDiv_7cf53_7 rfl ⟨by omega, by omega⟩ (fun h2 => ?_) (fun h2 => ?_)
  · refine t_l fJ9_floorDiv_7cf53_21 rfl rfl rfl rfl ?_
    refine t_ret fJ9_floorDiv_7cf53_22 rJ9_floorDiv_7cf53 ?_
    exact ⟨rfl, rfl, rfl, rfl, ans (by first | (rw [if_pos ⟨by omega, by assumption⟩]; done) | (rw [if_neg (fun q => by first | omega | exact q.2 (Classical.byContradiction fun w => by simp_all))]))⟩
  · refine t_l fJ9_floorDiv_7cf53_10 rfl rfl rfl rfl ?_
    refine t_l fJ9_floorDiv_7cf53_11 rfl rfl rfl rfl ?_
    refine k9_imul fJ9_floorDiv_7cf53_12 ?_
    refine t_l fJ9_floorDiv_7cf53_13 rfl rfl rfl rfl ?_
    refine k9_ic_eq fJ9_floorDiv_7cf53_14 rfl ⟨by omega, by omega⟩ ⟨by omega, by omega⟩ (fun h3 => ?_) (fun h3 => ?_)
    · refine t_l fJ9_floorDiv_7cf53_21 rfl rfl rfl rfl ?_
      refine t_ret fJ9_floorDiv_7cf53_22 rJ9_floorDiv_7cf53 ?_
      exact ⟨rfl, rfl, rfl, rfl, ans (by first | (rw [if_pos ⟨by omega, by assumption⟩]; done) | (rw [if_neg (fun q => by first | omega | exact q.2 (Classical.byContradiction fun w => by simp_all))]))⟩
    · refine t_l fJ9_floorDiv_7cf53_17 rfl rfl rfl rfl ?_
      refine t_s fJ9_floorDiv_7cf53_18 rfl rfl rfl ?_
      refine k9_isub fJ9_floorDiv_7cf53_19 ?_
      refine t_ret fJ9_floorDiv_7cf53_20 rJ9_floorDiv_7cf53 ?_
      exact ⟨rfl, rfl, rfl, rfl, ans (by first | (rw [if_pos ⟨by omega, by assumption⟩]; done) | (rw [if_neg (fun q => by first | omega | exact q.2 (Classical.byContradiction fun w => by simp_all))]))⟩

theorem emd {a b : Int} (hb : 0 < b) : a % b = if a < 0 ∧ a.tmod b ≠ 0 then a.tmod b + b else a.tmod b := by
  rw [Int.emod_eq_tmod]
  by_cases p : 0 ≤ a
  · rw [if_pos (Or.inl p), if_neg (by omega)]; omega
  · by_cases hd : b ∣ a
    · have hz : a.tmod b = 0 := Int.tmod_eq_zero_of_dvd hd
      rw [if_pos (Or.inr hd), if_neg (by omega)]; omega
    · have hz : a.tmod b ≠ 0 := fun q => hd (Int.dvd_of_tmod_eq_zero q)
      rw [if_neg (by rintro (q | q); exact p q; exact hd q), if_pos ⟨by omega, hz⟩]; omega
theorem tmd_rg {a b : Int} (hb : 0 < b) (hb2 : b ≤ 2147483647) : -2147483647 ≤ a.tmod b ∧ a.tmod b ≤ 2147483647 ∧ (a.tmod b < 0 → a < 0) ∧ (0 < a.tmod b → 0 < a) := by
  rcases Int.lt_or_le a 0 with h | h
  · have h1 := Int.tmod_nonneg b (show 0 ≤ -a by omega)
    have h2 := Int.tmod_lt_of_pos (-a) hb
    rw [Int.neg_tmod] at h1 h2
    omega
  · have h1 := Int.tmod_nonneg b h
    have h2 := Int.tmod_lt_of_pos a hb
    by_cases hz : a = 0
    · subst hz; simp <;> omega
    · omega
theorem eJ9_floorMod_7cf53 {a b : Int} (ha : rg a) (hb : 0 < b ∧ b ≤ 1000000) : Rn X 0 294 [.int (iI a), .int (iI b)] n z G V n z (G) (V) (some (.int (iI (a % b)))) := by
  refine T.toR (L := [some (.int (iI a)), some (.int (iI b)), none]) rfl ?_
  have hq := tmd_rg (a := a) hb.1 (by omega)
  rw [emd hb.1]
  refine t_l fJ9_floorMod_7cf53_0 rfl rfl rfl rfl ?_
  refine t_l fJ9_floorMod_7cf53_1 rfl rfl rfl rfl ?_
  refine k9_irem fJ9_floorMod_7cf53_2 ⟨by omega, by omega⟩ ⟨by omega, by omega⟩ (by omega) ?_
  refine t_l fJ9_floorMod_7cf53_3 rfl rfl rfl rfl ?_
  refine t_l fJ9_floorMod_7cf53_4 rfl rfl rfl rfl ?_
  refine t_l fJ9_floorMod_7cf53_5 rfl rfl rfl rfl ?_
  refine k9_ixor fJ9_floorMod_7cf53_6 ⟨by omega, by omega⟩ ⟨by omega, by omega⟩ (fun c1 hc1 hx1 => ?_)
  refine k9_if_ge fJ9_floorMod_7cf53_7 rfl ⟨by omega, by omega⟩ (fun h2 => ?_) (fun h2 => ?_)
  · refine t_l fJ9_floorMod_7cf53_18 rfl rfl rfl rfl ?_
    refine t_ret fJ9_floorMod_7cf53_19 rJ9_floorMod_7cf53 ?_
    exact ⟨rfl, rfl, rfl, rfl, ans (by first | (rw [if_pos ⟨by omega, by omega⟩]) | (rw [if_neg (by omega)]))⟩
  · refine t_l fJ9_floorMod_7cf53_10 rfl rfl rfl rfl ?_
    refine k9_if_eq fJ9_floorMod_7cf53_11 rfl ⟨by omega, by omega⟩ (fun h3 => ?_) (fun h3 => ?_)
    · refine t_l fJ9_floorMod_7cf53_18 rfl rfl rfl rfl ?_
      refine t_ret fJ9_floorMod_7cf53_19 rJ9_floorMod_7cf53 ?_
      exact ⟨rfl, rfl, rfl, rfl, ans (by first | (rw [if_pos ⟨by omega, by omega⟩]) | (rw [if_neg (by omega)]))⟩
    · refine t_l fJ9_floorMod_7cf53_14 rfl rfl rfl rfl ?_
      refine t_l fJ9_floorMod_7cf53_15 rfl rfl rfl rfl ?_
      refine k9_iadd fJ9_floorMod_7cf53_16 ?_
      refine t_ret fJ9_floorMod_7cf53_17 rJ9_floorMod_7cf53 ?_
      exact ⟨rfl, rfl, rfl, rfl, ans (by first | (rw [if_pos ⟨by omega, by omega⟩]) | (rw [if_neg (by omega)]))⟩

def isF (G : mG) (f : Nat) : Prop := G.1 f = .inl 3 ∧ G.2.1 f 0 = .ref (f + 1) ∧ isR G (f + 1) 1600 ∧ G.2.1 f 1 = .ref (f + 3) ∧ isR G (f + 3) 64
def hld (v : Int) : Int := max (-1000000) (min 1000000 v)
theorem hld_rg (v : Int) : -1000000 ≤ hld v ∧ hld v ≤ 1000000 := by unfold hld; omega
def wkd (s a b : Int) : Int := if s = 4 then hld (a + b) else if s = 5 then hld (a - b) else if s = 6 then hld (a * b) else if s = 7 then (if b = 0 then 0 else a.fdiv b) else if s = 8 then min a b else if s = 9 then max a b else if s = 10 then (if a < b then 1 else 0) else if s = 11 then (if b < a then 1 else 0) else if s = 12 then (if a = b then 1 else 0) else if s = 13 then (if a = 1 ∧ b = 1 then 1 else 0) else if s = 14 then (if a = 0 ∧ b = 0 then 0 else 1) else 0
theorem eX3_isTold {f : Nat} (hF : isF G f) (hs : szR V (f + 1) 1600) : Rn X 1 34 [.ref f] n z G V n z (G) (V) (some (.int (iI (if gI V (f + 1) 1 = 0 then 0 else 1)))) := by
  refine T.toR (L := [some (.ref f)]) rfl ?_
  obtain ⟨ho, hf0, hr1, hf1, hr2⟩ := hF
  have ho1 := hr1.1
  have ho3 := hr2.1
  obtain ⟨hs0, hs1⟩ := id hs
  refine t_l fX3_isTold_0 rfl rfl rfl rfl ?_
  refine k9_gr fX3_isTold_1 (by assumption) kg_3_0 (by assumption) ?_
  refine kcX7_size fX3_isTold_4 (by assumption) rfl (eX7_size (by assumption)) (by decide) ?_
  refine k9_if_eq fX3_isTold_7 rfl ⟨by omega, by omega⟩ (fun h1 => ?_) (fun h1 => ?_)
  · refine t_s fX3_isTold_14 rfl rfl rfl ?_
    refine t_ret fX3_isTold_15 (rX3_isTold _ (by omega)) ?_
    first | exact ⟨rfl, rfl, rfl, rfl, ans (by first | rfl | omega | (split <;> omega))⟩ | exact ⟨rfl, rfl, rfl, rfl, ans (by rw [if_pos (by assumption)])⟩ | exact ⟨rfl, rfl, rfl, rfl, ans (by rw [if_neg (by assumption)])⟩
  · refine t_s fX3_isTold_10 rfl rfl rfl ?_
    refine k9_goto fX3_isTold_11 rfl ?_
    refine t_ret fX3_isTold_15 (rX3_isTold _ (by omega)) ?_
    first | exact ⟨rfl, rfl, rfl, rfl, ans (by first | rfl | omega | (split <;> omega))⟩ | exact ⟨rfl, rfl, rfl, rfl, ans (by rw [if_pos (by assumption)])⟩ | exact ⟨rfl, rfl, rfl, rfl, ans (by rw [if_neg (by assumption)])⟩

theorem eX3_clear {f : Nat} (hF : isF G f) (hs : szR V (f + 1) 1600) : Rn X 1 35 [.ref f] n z G V n z (G) (rcut V (f + 1) 0) (none) := by
  refine T.toR (L := [some (.ref f)]) rfl ?_
  obtain ⟨ho, hf0, hr1, hf1, hr2⟩ := hF
  have ho1 := hr1.1
  have ho3 := hr2.1
  refine t_l fX3_clear_0 rfl rfl rfl rfl ?_
  refine k9_gr fX3_clear_1 (by assumption) kg_3_0 (by assumption) ?_
  refine t_s fX3_clear_4 rfl rfl rfl ?_
  refine kcX7_cut fX3_clear_5 (by assumption) rfl (eX7_cut (by assumption) (by assumption) ⟨by omega, by omega⟩) (by decide) ?_
  refine t_ret fX3_clear_8 rX3_clear ?_
  exact ⟨rfl, rfl, rfl, rfl, rfl⟩

theorem shl_or (w s : Nat) (h : s < 16) : w * 16 ||| s = w * 16 + s := by
  have := Nat.shiftLeft_add_eq_or_of_lt (show s < 2 ^ 4 by omega) w
  simp only [Nat.shiftLeft_eq, show (2 : Nat) ^ 4 = 16 from rfl] at this
  omega
theorem eX3_write {f w s : Nat} (hF : isF G f) (hs : szR V (f + 1) 1600) (hw : w < 10000) (h16 : s < 16) : Rn X 1 36 [.ref f, .int (iI (s : Int)), .int (iI (w : Int))] n z G V n z (G) (radd V (f + 1) 1600 ((w * 16 + s : Nat) : Int)) (none) := by
  refine T.toR (L := [some (.ref f), some (.int (iI (s : Int))), some (.int (iI (w : Int)))]) rfl ?_
  obtain ⟨ho, hf0, hr1, hf1, hr2⟩ := hF
  have ho1 := hr1.1
  have ho3 := hr2.1
  refine t_l fX3_write_0 rfl rfl rfl rfl ?_
  refine k9_gr fX3_write_1 (by assumption) kg_3_0 (by assumption) ?_
  refine t_l fX3_write_4 rfl rfl rfl rfl ?_
  refine t_s fX3_write_5 rfl rfl rfl ?_
  refine k9_ishl fX3_write_6 (by omega) (by omega) ?_
  refine t_l fX3_write_7 rfl rfl rfl rfl ?_
  refine k9_eq (st2 := .int (iI (s : Int)) :: .int (iI ((w * 16 : Nat) : Int)) :: .ref (f + 1) :: []) (by rw [show (w : Int) * ((2 ^ (4 : Int).toNat : Nat) : Int) = ((w * 16 : Nat) : Int) by rw [Int.natCast_mul]; rfl]) ?_
  refine k9_iorn fX3_write_8 ?_
  rw [shl_or w s h16]
  refine kcX7_add fX3_write_9 (by assumption) rfl (eX7_add (by assumption) (by assumption)) (by decide) ?_
  refine t_ret fX3_write_12 rX3_write ?_
  exact ⟨rfl, rfl, rfl, rfl, rfl⟩

theorem eX3_held {v : Int} (hv : rl v) : Rn X 1 40 [.long (lI v)] n z G V n z (G) (V) (some (.int (iI (hld v)))) := by
  refine T.toR (L := [some (.long (lI v)), none]) rfl ?_
  refine t_l fX3_held_0 rfl rfl rfl rfl ?_
  refine t_s fX3_held_1 rfl rfl rfl ?_
  refine k9_lcmp fX3_held_4 ⟨by omega, by omega⟩ ⟨by omega, by omega⟩ ?_
  refine k9_if_le fX3_held_5 rfl (cmp_rg _ _) (fun h1 => ?_) (fun h1 => ?_)
  · replace h1 := cmp_le.mp h1
    refine t_l fX3_held_11 rfl rfl rfl rfl ?_
    refine t_s fX3_held_12 rfl rfl rfl ?_
    refine k9_lcmp fX3_held_15 ⟨by omega, by omega⟩ ⟨by omega, by omega⟩ ?_
    refine k9_if_ge fX3_held_16 rfl (cmp_rg _ _) (fun h2 => ?_) (fun h2 => ?_)
    · replace h2 := cmp_ge.mp h2
      refine t_l fX3_held_24 rfl rfl rfl rfl ?_
      refine k9_l2i fX3_held_25 ?_
      refine t_ret fX3_held_26 rX3_held ?_
      exact ⟨rfl, rfl, rfl, rfl, ans (by unfold hld; omega)⟩
    · replace h2 : ¬ _ := fun q => h2 (cmp_ge.mpr q)
      refine t_s fX3_held_19 rfl rfl rfl ?_
      refine k9_goto fX3_held_21 rfl ?_
      refine t_ret fX3_held_26 rX3_held ?_
      exact ⟨rfl, rfl, rfl, rfl, ans (by unfold hld; omega)⟩
  · replace h1 : ¬ _ := fun q => h1 (cmp_le.mpr q)
    refine t_s fX3_held_8 rfl rfl rfl ?_
    refine t_ret fX3_held_10 rX3_held ?_
    exact ⟨rfl, rfl, rfl, rfl, ans (by unfold hld; omega)⟩

theorem eX3_known {r cap : Nat} {v : Int} (hr : isR G r cap) (hs : szR V r cap) (hv : rg v) : Rn X 1 38 [.ref r, .int (iI v)] n z G V n z (G) (V) (some (.int (iI (if 0 ≤ v ∧ v < 10 then rget V r (33 + v) else 0)))) := by
  refine T.toR (L := [some (.ref r), some (.int (iI v))]) rfl ?_
  have ho := hr.1
  refine t_l fX3_known_0 rfl rfl rfl rfl ?_
  refine k9_if_lt fX3_known_1 rfl ⟨by omega, by omega⟩ (fun h1 => ?_) (fun h1 => ?_)
  · refine t_s fX3_known_21 rfl rfl rfl ?_
    refine t_ret fX3_known_22 rX3_known ?_
    exact ⟨rfl, rfl, rfl, rfl, ans (by first | (rw [if_pos ⟨by omega, by omega⟩]; done) | (rw [if_neg (by omega)]; done))⟩
  · refine t_l fX3_known_4 rfl rfl rfl rfl ?_
    refine t_s fX3_known_5 rfl rfl rfl ?_
    refine k9_ic_ge fX3_known_7 rfl ⟨by omega, by omega⟩ ⟨by omega, by omega⟩ (fun h2 => ?_) (fun h2 => ?_)
    · refine t_s fX3_known_21 rfl rfl rfl ?_
      refine t_ret fX3_known_22 rX3_known ?_
      exact ⟨rfl, rfl, rfl, rfl, ans (by first | (rw [if_pos ⟨by omega, by omega⟩]; done) | (rw [if_neg (by omega)]; done))⟩
    · refine t_l fX3_known_10 rfl rfl rfl rfl ?_
      refine t_s fX3_known_11 rfl rfl rfl ?_
      refine t_l fX3_known_13 rfl rfl rfl rfl ?_
      refine k9_iadd fX3_known_14 ?_
      refine kcX7_get fX3_known_15 (by assumption) rfl (eX7_get (by assumption) (by assumption) ⟨by omega, by omega⟩) (by decide) ?_
      refine k9_goto fX3_known_18 rfl ?_
      refine t_ret fX3_known_22 rX3_known ?_
      exact ⟨rfl, rfl, rfl, rfl, ans (by first | (rw [if_pos ⟨by omega, by omega⟩]; done) | (rw [if_neg (by omega)]; done))⟩

theorem eX3_worked {s a b : Int} (hs : 4 ≤ s ∧ s ≤ 14) (ha : -1000000 ≤ a ∧ a ≤ 1000000) (hb : -1000000 ≤ b ∧ b ≤ 1000000) (h01 : 13 ≤ s → (a = 0 ∨ a = 1) ∧ (b = 0 ∨ b = 1)) : Rn X 2 39 [.int (iI s), .int (iI a), .int (iI b)] n z G V n z (G) (V) (some (.int (iI (wkd s a b)))) := by
  refine T.toR (L := [some (.int (iI s)), some (.int (iI a)), some (.int (iI b))]) rfl ?_
  refine t_l fX3_worked_0 rfl rfl rfl rfl ?_
  rcases (show s = 4 ∨ s = 5 ∨ s = 6 ∨ s = 7 ∨ s = 8 ∨ s = 9 ∨ s = 10 ∨ s = 11 ∨ s = 12 ∨ s = 13 ∨ s = 14 by omega) with rfl | rfl | rfl | rfl | rfl | rfl | rfl | rfl | rfl | rfl | rfl
  · refine k9_sw 60 fX3_worked_1 ⟨by omega, by omega⟩ (by rfl) (Or.inr (Or.inr (by rfl))) ?_
    refine t_l fX3_worked_60 rfl rfl rfl rfl ?_
    refine k9_i2l fX3_worked_61 ⟨by omega, by omega⟩ ?_
    refine t_l fX3_worked_62 rfl rfl rfl rfl ?_
    refine k9_i2l fX3_worked_63 ⟨by omega, by omega⟩ ?_
    refine k9_ladd fX3_worked_64 ?_
    refine kcX3_held fX3_worked_65 rfl (eX3_held ⟨by omega, by omega⟩) (by decide) ?_
    refine t_ret fX3_worked_68 rX3_worked ?_
    exact ⟨rfl, rfl, rfl, rfl, by first | rfl | exact ans (by unfold wkd; simp [*]; done) | exact ans (by simp [wkd]; omega)⟩
  · refine k9_sw 69 fX3_worked_1 ⟨by omega, by omega⟩ (by rfl) (Or.inr (Or.inr (by rfl))) ?_
    refine t_l fX3_worked_69 rfl rfl rfl rfl ?_
    refine k9_i2l fX3_worked_70 ⟨by omega, by omega⟩ ?_
    refine t_l fX3_worked_71 rfl rfl rfl rfl ?_
    refine k9_i2l fX3_worked_72 ⟨by omega, by omega⟩ ?_
    refine k9_lsub fX3_worked_73 ?_
    refine kcX3_held fX3_worked_74 rfl (eX3_held ⟨by omega, by omega⟩) (by decide) ?_
    refine t_ret fX3_worked_77 rX3_worked ?_
    exact ⟨rfl, rfl, rfl, rfl, by first | rfl | exact ans (by unfold wkd; simp [*]; done) | exact ans (by simp [wkd]; omega)⟩
  · refine k9_sw 78 fX3_worked_1 ⟨by omega, by omega⟩ (by rfl) (Or.inr (Or.inr (by rfl))) ?_
    refine t_l fX3_worked_78 rfl rfl rfl rfl ?_
    refine k9_i2l fX3_worked_79 ⟨by omega, by omega⟩ ?_
    refine t_l fX3_worked_80 rfl rfl rfl rfl ?_
    refine k9_i2l fX3_worked_81 ⟨by omega, by omega⟩ ?_
    refine k9_lmul fX3_worked_82 ?_
    have hp1 : a * b ≤ 1000000000000 ∧ -1000000000000 ≤ a * b := by
      have h1 : (a * b).natAbs ≤ 1000000 * 1000000 := by rw [Int.natAbs_mul]; exact Nat.mul_le_mul (by omega) (by omega)
      omega
    refine kcX3_held fX3_worked_83 rfl (eX3_held ⟨by omega, by omega⟩) (by decide) ?_
    refine t_ret fX3_worked_86 rX3_worked ?_
    exact ⟨rfl, rfl, rfl, rfl, by first | rfl | exact ans (by unfold wkd; simp [*]; done) | exact ans (by simp [wkd]; omega)⟩
  · refine k9_sw 87 fX3_worked_1 ⟨by omega, by omega⟩ (by rfl) (Or.inr (Or.inr (by rfl))) ?_
    refine t_l fX3_worked_87 rfl rfl rfl rfl ?_
    refine k9_if_ne fX3_worked_88 rfl ⟨by omega, by omega⟩ (fun h1 => ?_) (fun h1 => ?_)
    · refine t_l fX3_worked_95 rfl rfl rfl rfl ?_
      refine t_l fX3_worked_96 rfl rfl rfl rfl ?_
      refine kcJ9_floorDiv_7cf53 fX3_worked_97 rfl (eJ9_floorDiv_7cf53 ⟨by omega, by omega⟩ ⟨by omega, by omega⟩ (by omega)) (by decide) ?_
      refine t_ret fX3_worked_100 rX3_worked ?_
      exact ⟨rfl, rfl, rfl, rfl, by first | rfl | exact ans (by unfold wkd; simp [*]; done) | exact ans (by simp [wkd]; omega)⟩
    · refine t_s fX3_worked_91 rfl rfl rfl ?_
      refine k9_goto fX3_worked_92 rfl ?_
      refine t_ret fX3_worked_100 rX3_worked ?_
      exact ⟨rfl, rfl, rfl, rfl, by first | rfl | exact ans (by unfold wkd; simp [*]; done) | exact ans (by simp [wkd]; omega)⟩
  · refine k9_sw 101 fX3_worked_1 ⟨by omega, by omega⟩ (by rfl) (Or.inr (Or.inr (by rfl))) ?_
    refine t_l fX3_worked_101 rfl rfl rfl rfl ?_
    refine t_l fX3_worked_102 rfl rfl rfl rfl ?_
    refine kcM_min fX3_worked_103 rfl (eM_min ⟨by omega, by omega⟩ ⟨by omega, by omega⟩) (by decide) ?_
    refine t_ret fX3_worked_106 rX3_worked ?_
    exact ⟨rfl, rfl, rfl, rfl, by first | rfl | exact ans (by unfold wkd; simp [*]; done) | exact ans (by simp [wkd]; omega)⟩
  · refine k9_sw 107 fX3_worked_1 ⟨by omega, by omega⟩ (by rfl) (Or.inr (Or.inr (by rfl))) ?_
    refine t_l fX3_worked_107 rfl rfl rfl rfl ?_
    refine t_l fX3_worked_108 rfl rfl rfl rfl ?_
    refine kcM_max fX3_worked_109 rfl (eM_max ⟨by omega, by omega⟩ ⟨by omega, by omega⟩) (by decide) ?_
    refine t_ret fX3_worked_112 rX3_worked ?_
    exact ⟨rfl, rfl, rfl, rfl, by first | rfl | exact ans (by unfold wkd; simp [*]; done) | exact ans (by simp [wkd]; omega)⟩
  · refine k9_sw 113 fX3_worked_1 ⟨by omega, by omega⟩ (by rfl) (Or.inr (Or.inr (by rfl))) ?_
    refine t_l fX3_worked_113 rfl rfl rfl rfl ?_
    refine t_l fX3_worked_114 rfl rfl rfl rfl ?_
    refine k9_ic_ge fX3_worked_115 rfl ⟨by omega, by omega⟩ ⟨by omega, by omega⟩ (fun h2 => ?_) (fun h2 => ?_)
    · refine t_s fX3_worked_122 rfl rfl rfl ?_
      refine t_ret fX3_worked_123 rX3_worked ?_
      exact ⟨rfl, rfl, rfl, rfl, by first | rfl | exact ans (by unfold wkd; simp [*]; done) | exact ans (by simp [wkd]; omega)⟩
    · refine t_s fX3_worked_118 rfl rfl rfl ?_
      refine k9_goto fX3_worked_119 rfl ?_
      refine t_ret fX3_worked_123 rX3_worked ?_
      exact ⟨rfl, rfl, rfl, rfl, by first | rfl | exact ans (by unfold wkd; simp [*]; done) | exact ans (by simp [wkd]; omega)⟩
  · refine k9_sw 124 fX3_worked_1 ⟨by omega, by omega⟩ (by rfl) (Or.inr (Or.inr (by rfl))) ?_
    refine t_l fX3_worked_124 rfl rfl rfl rfl ?_
    refine t_l fX3_worked_125 rfl rfl rfl rfl ?_
    refine k9_ic_le fX3_worked_126 rfl ⟨by omega, by omega⟩ ⟨by omega, by omega⟩ (fun h3 => ?_) (fun h3 => ?_)
    · refine t_s fX3_worked_133 rfl rfl rfl ?_
      refine t_ret fX3_worked_134 rX3_worked ?_
      exact ⟨rfl, rfl, rfl, rfl, by first | rfl | exact ans (by unfold wkd; simp [*]; done) | exact ans (by simp [wkd]; omega)⟩
    · refine t_s fX3_worked_129 rfl rfl rfl ?_
      refine k9_goto fX3_worked_130 rfl ?_
      refine t_ret fX3_worked_134 rX3_worked ?_
      exact ⟨rfl, rfl, rfl, rfl, by first | rfl | exact ans (by unfold wkd; simp [*]; done) | exact ans (by simp [wkd]; omega)⟩
  · refine k9_sw 135 fX3_worked_1 ⟨by omega, by omega⟩ (by rfl) (Or.inr (Or.inr (by rfl))) ?_
    refine t_l fX3_worked_135 rfl rfl rfl rfl ?_
    refine t_l fX3_worked_136 rfl rfl rfl rfl ?_
    refine k9_ic_ne fX3_worked_137 rfl ⟨by omega, by omega⟩ ⟨by omega, by omega⟩ (fun h4 => ?_) (fun h4 => ?_)
    · refine t_s fX3_worked_144 rfl rfl rfl ?_
      refine t_ret fX3_worked_145 rX3_worked ?_
      exact ⟨rfl, rfl, rfl, rfl, by first | rfl | exact ans (by unfold wkd; simp [*]; done) | exact ans (by simp [wkd]; omega)⟩
    · refine t_s fX3_worked_140 rfl rfl rfl ?_
      refine k9_goto fX3_worked_141 rfl ?_
      refine t_ret fX3_worked_145 rX3_worked ?_
      exact ⟨rfl, rfl, rfl, rfl, by first | rfl | exact ans (by unfold wkd; simp [*]; done) | exact ans (by simp [wkd]; omega)⟩
  · refine k9_sw 146 fX3_worked_1 ⟨by omega, by omega⟩ (by rfl) (Or.inr (Or.inr (by rfl))) ?_
    refine t_l fX3_worked_146 rfl rfl rfl rfl ?_
    refine t_l fX3_worked_147 rfl rfl rfl rfl ?_
    obtain ⟨c, hc, e⟩ : ∃ c : Int, (c = 0 ∨ c = 1) ∧ c = wkd 13 a b := ⟨_, by rw [show wkd 13 a b = if a = 1 ∧ b = 1 then 1 else 0 by simp [wkd]]; split <;> simp, rfl⟩
    refine t_s fX3_worked_148 rfl rfl (st' := .int (iI c) :: []) (by subst e; obtain ⟨p1 | p1, p2 | p2⟩ := h01 (by omega) <;> subst p1 <;> subst p2 <;> rfl) ?_
    rw [← e]
    refine t_ret fX3_worked_149 rX3_worked ?_
    exact ⟨rfl, rfl, rfl, rfl, by first | rfl | exact ans (by unfold wkd; simp [*]; done) | exact ans (by simp [wkd]; omega)⟩
  · refine k9_sw 150 fX3_worked_1 ⟨by omega, by omega⟩ (by rfl) (Or.inr (Or.inr (by rfl))) ?_
    refine t_l fX3_worked_150 rfl rfl rfl rfl ?_
    refine t_l fX3_worked_151 rfl rfl rfl rfl ?_
    obtain ⟨c, hc, e⟩ : ∃ c : Int, (c = 0 ∨ c = 1) ∧ c = wkd 14 a b := ⟨_, by rw [show wkd 14 a b = if a = 0 ∧ b = 0 then 0 else 1 by simp [wkd]]; split <;> simp, rfl⟩
    refine t_s fX3_worked_152 rfl rfl (st' := .int (iI c) :: []) (by subst e; obtain ⟨p1 | p1, p2 | p2⟩ := h01 (by omega) <;> subst p1 <;> subst p2 <;> rfl) ?_
    rw [← e]
    refine t_ret fX3_worked_153 rX3_worked ?_
    exact ⟨rfl, rfl, rfl, rfl, by first | rfl | exact ans (by unfold wkd; simp [*]; done) | exact ans (by simp [wkd]; omega)⟩

end

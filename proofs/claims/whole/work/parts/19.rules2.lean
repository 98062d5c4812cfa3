section
variable {X : mX} {d y pc nx : Nat} {L L' : mL} {st st' rest : List Value} {n z n' z' : Nat} {G G' : mG} {V V' : mV} {Q : Nat → Nat → mG → mV → Option Value → Prop}
theorem k9_iadd {a b : Int} (hf : a_fetch y pc = some (.iadd, nx)) (k : T X d y nx L (.int (iI (a + b)) :: rest) n z G V Q) : T X d y pc L (.int (iI b) :: .int (iI a) :: rest) n z G V Q := t_s hf rfl rfl (by show some (Value.int (Int32.ofInt a + Int32.ofInt b) :: rest) = some (Value.int (Int32.ofInt (a + b)) :: rest); rw [Int32.ofInt_add]) k
theorem k9_isub {a b : Int} (hf : a_fetch y pc = some (.isub, nx)) (k : T X d y nx L (.int (iI (a - b)) :: rest) n z G V Q) : T X d y pc L (.int (iI b) :: .int (iI a) :: rest) n z G V Q := t_s hf rfl rfl (by show some (Value.int (Int32.ofInt a - Int32.ofInt b) :: rest) = some (Value.int (Int32.ofInt (a - b)) :: rest); rw [Int32.ofInt_sub]) k
theorem k9_imul {a b : Int} (hf : a_fetch y pc = some (.imul, nx)) (k : T X d y nx L (.int (iI (a * b)) :: rest) n z G V Q) : T X d y pc L (.int (iI b) :: .int (iI a) :: rest) n z G V Q := t_s hf rfl rfl (by show some (Value.int (Int32.ofInt a * Int32.ofInt b) :: rest) = some (Value.int (Int32.ofInt (a * b)) :: rest); rw [Int32.ofInt_mul]) k
theorem k9_idiv {a b : Int} (hf : a_fetch y pc = some (.idiv, nx)) (ha : rg a) (hb : rg b) (h0 : b ≠ 0) (k : T X d y nx L (.int (iI (a.tdiv b)) :: rest) n z G V Q) : T X d y pc L (.int (iI b) :: .int (iI a) :: rest) n z G V Q := t_s hf rfl rfl (by rw [← iI_div ha hb]; show (if iI b = 0 then none else some (Value.int (iI a / iI b))).map _ = _; rw [if_neg (by rw [iI_0, iI_eq hb (by omega)]; exact h0)]; rfl) k
theorem k9_irem {a b : Int} (hf : a_fetch y pc = some (.irem, nx)) (ha : rg a) (hb : rg b) (h0 : b ≠ 0) (k : T X d y nx L (.int (iI (a.tmod b)) :: rest) n z G V Q) : T X d y pc L (.int (iI b) :: .int (iI a) :: rest) n z G V Q := t_s hf rfl rfl (by rw [← iI_rem ha hb]; show (if iI b = 0 then none else some (Value.int (iI a - iI a / iI b * iI b))).map _ = _; rw [if_neg (by rw [iI_0, iI_eq hb (by omega)]; exact h0)]; rfl) k
theorem k9_ladd {a b : Int} (hf : a_fetch y pc = some (.ladd, nx)) (k : T X d y nx L (.long (lI (a + b)) :: rest) n z G V Q) : T X d y pc L (.long (lI b) :: .long (lI a) :: rest) n z G V Q := t_s hf rfl rfl (by show some (Value.long (Int64.ofInt a + Int64.ofInt b) :: rest) = some (Value.long (Int64.ofInt (a + b)) :: rest); rw [Int64.ofInt_add]) k
theorem k9_lsub {a b : Int} (hf : a_fetch y pc = some (.lsub, nx)) (k : T X d y nx L (.long (lI (a - b)) :: rest) n z G V Q) : T X d y pc L (.long (lI b) :: .long (lI a) :: rest) n z G V Q := t_s hf rfl rfl (by show some (Value.long (Int64.ofInt a - Int64.ofInt b) :: rest) = some (Value.long (Int64.ofInt (a - b)) :: rest); rw [Int64.ofInt_sub]) k
theorem k9_lmul {a b : Int} (hf : a_fetch y pc = some (.lmul, nx)) (k : T X d y nx L (.long (lI (a * b)) :: rest) n z G V Q) : T X d y pc L (.long (lI b) :: .long (lI a) :: rest) n z G V Q := t_s hf rfl rfl (by show some (Value.long (Int64.ofInt a * Int64.ofInt b) :: rest) = some (Value.long (Int64.ofInt (a * b)) :: rest); rw [Int64.ofInt_mul]) k
theorem k9_ldiv {a b : Int} (hf : a_fetch y pc = some (.ldiv, nx)) (ha : rl a) (hb : rl b) (h0 : b ≠ 0) (k : T X d y nx L (.long (lI (a.tdiv b)) :: rest) n z G V Q) : T X d y pc L (.long (lI b) :: .long (lI a) :: rest) n z G V Q := t_s hf rfl rfl (by rw [← lI_div ha hb]; show (if lI b = 0 then none else some (Value.long (lI a / lI b))).map _ = _; rw [if_neg (by rw [lI_0, lI_eq hb (by omega)]; exact h0)]; rfl) k
theorem k9_lrem {a b : Int} (hf : a_fetch y pc = some (.lrem, nx)) (ha : rl a) (hb : rl b) (h0 : b ≠ 0) (k : T X d y nx L (.long (lI (a.tmod b)) :: rest) n z G V Q) : T X d y pc L (.long (lI b) :: .long (lI a) :: rest) n z G V Q := t_s hf rfl rfl (by rw [← lI_rem ha hb]; show (if lI b = 0 then none else some (Value.long (lI a - lI a / lI b * lI b))).map _ = _; rw [if_neg (by rw [lI_0, lI_eq hb (by omega)]; exact h0)]; rfl) k
theorem k9_lcmp {a b : Int} (hf : a_fetch y pc = some (.lcmp, nx)) (ha : rl a) (hb : rl b) (k : T X d y nx L (.int (iI (a_cmp a b)) :: rest) n z G V Q) : T X d y pc L (.long (lI b) :: .long (lI a) :: rest) n z G V Q := t_s hf rfl rfl (by rw [← cmp_t ha hb]; rfl) k
theorem k9_land {a : Int} (hf : a_fetch y pc = some (.land, nx)) (k : T X d y nx L (.long (lI (a % 2147483648)) :: rest) n z G V Q) : T X d y pc L (.long (lI 2147483647) :: .long (lI a) :: rest) n z G V Q := t_s hf rfl rfl (by rw [← lI_and31]; rfl) k
theorem k9_i2l {a : Int} (hf : a_fetch y pc = some (.i2l, nx)) (ha : rg a) (k : T X d y nx L (.long (lI a) :: rest) n z G V Q) : T X d y pc L (.int (iI a) :: rest) n z G V Q := t_s hf rfl rfl (by rw [← i2l_t ha]; rfl) k
theorem k9_l2i {a : Int} (hf : a_fetch y pc = some (.l2i, nx)) (k : T X d y nx L (.int (iI a) :: rest) n z G V Q) : T X d y pc L (.long (lI a) :: rest) n z G V Q := t_s hf rfl rfl (by rw [← l2i_t a]; rfl) k
theorem k9_ishl {a b : Int} (hf : a_fetch y pc = some (.ishl, nx)) (h0 : 0 ≤ b) (h1 : b < 32) (k : T X d y nx L (.int (iI (a * ((2 ^ b.toNat : Nat) : Int))) :: rest) n z G V Q) : T X d y pc L (.int (iI b) :: .int (iI a) :: rest) n z G V Q := t_s hf rfl rfl (by rw [← iI_shl a h0 h1]; rfl) k
theorem k9_ishr {a b : Int} (hf : a_fetch y pc = some (.ishr, nx)) (ha : rg a) (h0 : 0 ≤ b) (h1 : b < 32) (k : T X d y nx L (.int (iI (a / ((2 ^ b.toNat : Nat) : Int))) :: rest) n z G V Q) : T X d y pc L (.int (iI b) :: .int (iI a) :: rest) n z G V Q := t_s hf rfl rfl (by rw [← iI_shr ha h0 h1]; rfl) k
theorem k9_iandm {a b : Int} (j : Nat) (hf : a_fetch y pc = some (.iand, nx)) (hj : j < 32) (hm : (iI b).toBitVec.toNat = 2 ^ j - 1) (k : T X d y nx L (.int (iI (a % ((2 ^ j : Nat) : Int))) :: rest) n z G V Q) : T X d y pc L (.int (iI b) :: .int (iI a) :: rest) n z G V Q := t_s hf rfl rfl (by rw [← iI_and a j hj hm]; rfl) k
theorem k9_iandn {a b : Nat} (hf : a_fetch y pc = some (.iand, nx)) (k : T X d y nx L (.int (iI ((a &&& b : Nat) : Int)) :: rest) n z G V Q) : T X d y pc L (.int (iI (b : Int)) :: .int (iI (a : Int)) :: rest) n z G V Q := t_s hf rfl rfl (by rw [← iI_andN]; rfl) k
theorem k9_iorn {a b : Nat} (hf : a_fetch y pc = some (.ior, nx)) (k : T X d y nx L (.int (iI ((a ||| b : Nat) : Int)) :: rest) n z G V Q) : T X d y pc L (.int (iI (b : Int)) :: .int (iI (a : Int)) :: rest) n z G V Q := t_s hf rfl rfl (by rw [← iI_or]; rfl) k
/-- a number on the stack, or in a local, under another name -/
theorem k9_eq {st2 : List Value} (h : st = st2) (k : T X d y pc L st2 n z G V Q) : T X d y pc L st n z G V Q := by rw [h]; exact k
theorem k9_eqL {L2 : mL} (h : L = L2) (k : T X d y pc L2 st n z G V Q) : T X d y pc L st n z G V Q := by rw [h]; exact k
theorem k9_iinc {a v : Int} {j : Nat} (hf : a_fetch y pc = some (.iinc j v, nx)) (hl : a_lg L j = some (.int (iI a))) (hj : j < L.length) (hL : a_s1 L j (.int (iI (a + v))) = L') (k : T X d y nx L' rest n z G V Q) : T X d y pc L rest n z G V Q := t_l hf rfl rfl rfl (by simp only [a_lo, hl]; rw [if_pos hj, ← Int32.ofInt_add, hL]) k
theorem k9_if_eq {a t : Int} {tn : Nat} (hf : a_fetch y pc = some (.ifCond .eq t, nx)) (ht : t.toNat = tn) (ha : rg a) (kt : a = 0 → T X d y tn L rest n z G V Q) (kf : ¬ (a = 0) → T X d y nx L rest n z G V Q) : T X d y pc L (.int (iI a) :: rest) n z G V Q := by
  have e : a_tb .eq (iI a) 0 = true ↔ (a = 0) := by
    rw [iI_0]; simp only [a_tb, decide_eq_true_eq, Bool.not_eq_true', decide_eq_false_iff_not, iI_eq ha (show rg 0 by omega), iI_eq (show rg 0 by omega) ha]
  by_cases h : (a = 0)
  · exact t_b hf rfl rfl rfl rfl rfl rfl rfl (pc' := tn) (by simp only [a_br]; rw [if_pos (e.mpr h), ht]) (kt h)
  · exact t_b hf rfl rfl rfl rfl rfl rfl rfl (pc' := nx) (by simp only [a_br]; rw [if_neg (fun q => h (e.mp q))]) (kf h)
theorem k9_ic_eq {a b t : Int} {tn : Nat} (hf : a_fetch y pc = some (.if_icmp .eq t, nx)) (ht : t.toNat = tn) (ha : rg a) (hb : rg b) (kt : a = b → T X d y tn L rest n z G V Q) (kf : ¬ (a = b) → T X d y nx L rest n z G V Q) : T X d y pc L (.int (iI b) :: .int (iI a) :: rest) n z G V Q := by
  have e : a_tb .eq (iI a) (iI b) = true ↔ (a = b) := by
    simp only [a_tb, decide_eq_true_eq, Bool.not_eq_true', decide_eq_false_iff_not, iI_eq ha hb, iI_eq hb ha]
  by_cases h : (a = b)
  · exact t_b hf rfl rfl rfl rfl rfl rfl rfl (pc' := tn) (by simp only [a_br]; rw [if_pos (e.mpr h), ht]) (kt h)
  · exact t_b hf rfl rfl rfl rfl rfl rfl rfl (pc' := nx) (by simp only [a_br]; rw [if_neg (fun q => h (e.mp q))]) (kf h)
theorem k9_if_ne {a t : Int} {tn : Nat} (hf : a_fetch y pc = some (.ifCond .ne t, nx)) (ht : t.toNat = tn) (ha : rg a) (kt : ¬ a = 0 → T X d y tn L rest n z G V Q) (kf : ¬ (¬ a = 0) → T X d y nx L rest n z G V Q) : T X d y pc L (.int (iI a) :: rest) n z G V Q := by
  have e : a_tb .ne (iI a) 0 = true ↔ (¬ a = 0) := by
    rw [iI_0]; simp only [a_tb, decide_eq_true_eq, Bool.not_eq_true', decide_eq_false_iff_not, iI_eq ha (show rg 0 by omega), iI_eq (show rg 0 by omega) ha]
  by_cases h : (¬ a = 0)
  · exact t_b hf rfl rfl rfl rfl rfl rfl rfl (pc' := tn) (by simp only [a_br]; rw [if_pos (e.mpr h), ht]) (kt h)
  · exact t_b hf rfl rfl rfl rfl rfl rfl rfl (pc' := nx) (by simp only [a_br]; rw [if_neg (fun q => h (e.mp q))]) (kf h)
theorem k9_ic_ne {a b t : Int} {tn : Nat} (hf : a_fetch y pc = some (.if_icmp .ne t, nx)) (ht : t.toNat = tn) (ha : rg a) (hb : rg b) (kt : ¬ a = b → T X d y tn L rest n z G V Q) (kf : ¬ (¬ a = b) → T X d y nx L rest n z G V Q) : T X d y pc L (.int (iI b) :: .int (iI a) :: rest) n z G V Q := by
  have e : a_tb .ne (iI a) (iI b) = true ↔ (¬ a = b) := by
    simp only [a_tb, decide_eq_true_eq, Bool.not_eq_true', decide_eq_false_iff_not, iI_eq ha hb, iI_eq hb ha]
  by_cases h : (¬ a = b)
  · exact t_b hf rfl rfl rfl rfl rfl rfl rfl (pc' := tn) (by simp only [a_br]; rw [if_pos (e.mpr h), ht]) (kt h)
  · exact t_b hf rfl rfl rfl rfl rfl rfl rfl (pc' := nx) (by simp only [a_br]; rw [if_neg (fun q => h (e.mp q))]) (kf h)
theorem k9_if_lt {a t : Int} {tn : Nat} (hf : a_fetch y pc = some (.ifCond .lt t, nx)) (ht : t.toNat = tn) (ha : rg a) (kt : a < 0 → T X d y tn L rest n z G V Q) (kf : ¬ (a < 0) → T X d y nx L rest n z G V Q) : T X d y pc L (.int (iI a) :: rest) n z G V Q := by
  have e : a_tb .lt (iI a) 0 = true ↔ (a < 0) := by
    rw [iI_0]; simp only [a_tb, decide_eq_true_eq, Bool.not_eq_true', decide_eq_false_iff_not, iI_lt ha (show rg 0 by omega), iI_lt (show rg 0 by omega) ha]
  by_cases h : (a < 0)
  · exact t_b hf rfl rfl rfl rfl rfl rfl rfl (pc' := tn) (by simp only [a_br]; rw [if_pos (e.mpr h), ht]) (kt h)
  · exact t_b hf rfl rfl rfl rfl rfl rfl rfl (pc' := nx) (by simp only [a_br]; rw [if_neg (fun q => h (e.mp q))]) (kf h)
theorem k9_ic_lt {a b t : Int} {tn : Nat} (hf : a_fetch y pc = some (.if_icmp .lt t, nx)) (ht : t.toNat = tn) (ha : rg a) (hb : rg b) (kt : a < b → T X d y tn L rest n z G V Q) (kf : ¬ (a < b) → T X d y nx L rest n z G V Q) : T X d y pc L (.int (iI b) :: .int (iI a) :: rest) n z G V Q := by
  have e : a_tb .lt (iI a) (iI b) = true ↔ (a < b) := by
    simp only [a_tb, decide_eq_true_eq, Bool.not_eq_true', decide_eq_false_iff_not, iI_lt ha hb, iI_lt hb ha]
  by_cases h : (a < b)
  · exact t_b hf rfl rfl rfl rfl rfl rfl rfl (pc' := tn) (by simp only [a_br]; rw [if_pos (e.mpr h), ht]) (kt h)
  · exact t_b hf rfl rfl rfl rfl rfl rfl rfl (pc' := nx) (by simp only [a_br]; rw [if_neg (fun q => h (e.mp q))]) (kf h)
theorem k9_if_ge {a t : Int} {tn : Nat} (hf : a_fetch y pc = some (.ifCond .ge t, nx)) (ht : t.toNat = tn) (ha : rg a) (kt : 0 ≤ a → T X d y tn L rest n z G V Q) (kf : ¬ (0 ≤ a) → T X d y nx L rest n z G V Q) : T X d y pc L (.int (iI a) :: rest) n z G V Q := by
  have e : a_tb .ge (iI a) 0 = true ↔ (0 ≤ a) := by
    rw [iI_0]; simp only [a_tb, decide_eq_true_eq, Bool.not_eq_true', decide_eq_false_iff_not, iI_le ha (show rg 0 by omega), iI_le (show rg 0 by omega) ha]
  by_cases h : (0 ≤ a)
  · exact t_b hf rfl rfl rfl rfl rfl rfl rfl (pc' := tn) (by simp only [a_br]; rw [if_pos (e.mpr h), ht]) (kt h)
  · exact t_b hf rfl rfl rfl rfl rfl rfl rfl (pc' := nx) (by simp only [a_br]; rw [if_neg (fun q => h (e.mp q))]) (kf h)
theorem k9_ic_ge {a b t : Int} {tn : Nat} (hf : a_fetch y pc = some (.if_icmp .ge t, nx)) (ht : t.toNat = tn) (ha : rg a) (hb : rg b) (kt : b ≤ a → T X d y tn L rest n z G V Q) (kf : ¬ (b ≤ a) → T X d y nx L rest n z G V Q) : T X d y pc L (.int (iI b) :: .int (iI a) :: rest) n z G V Q := by
  have e : a_tb .ge (iI a) (iI b) = true ↔ (b ≤ a) := by
    simp only [a_tb, decide_eq_true_eq, Bool.not_eq_true', decide_eq_false_iff_not, iI_le ha hb, iI_le hb ha]
  by_cases h : (b ≤ a)
  · exact t_b hf rfl rfl rfl rfl rfl rfl rfl (pc' := tn) (by simp only [a_br]; rw [if_pos (e.mpr h), ht]) (kt h)
  · exact t_b hf rfl rfl rfl rfl rfl rfl rfl (pc' := nx) (by simp only [a_br]; rw [if_neg (fun q => h (e.mp q))]) (kf h)
theorem k9_if_gt {a t : Int} {tn : Nat} (hf : a_fetch y pc = some (.ifCond .gt t, nx)) (ht : t.toNat = tn) (ha : rg a) (kt : 0 < a → T X d y tn L rest n z G V Q) (kf : ¬ (0 < a) → T X d y nx L rest n z G V Q) : T X d y pc L (.int (iI a) :: rest) n z G V Q := by
  have e : a_tb .gt (iI a) 0 = true ↔ (0 < a) := by
    rw [iI_0]; simp only [a_tb, decide_eq_true_eq, Bool.not_eq_true', decide_eq_false_iff_not, iI_lt ha (show rg 0 by omega), iI_lt (show rg 0 by omega) ha]
  by_cases h : (0 < a)
  · exact t_b hf rfl rfl rfl rfl rfl rfl rfl (pc' := tn) (by simp only [a_br]; rw [if_pos (e.mpr h), ht]) (kt h)
  · exact t_b hf rfl rfl rfl rfl rfl rfl rfl (pc' := nx) (by simp only [a_br]; rw [if_neg (fun q => h (e.mp q))]) (kf h)
theorem k9_ic_gt {a b t : Int} {tn : Nat} (hf : a_fetch y pc = some (.if_icmp .gt t, nx)) (ht : t.toNat = tn) (ha : rg a) (hb : rg b) (kt : b < a → T X d y tn L rest n z G V Q) (kf : ¬ (b < a) → T X d y nx L rest n z G V Q) : T X d y pc L (.int (iI b) :: .int (iI a) :: rest) n z G V Q := by
  have e : a_tb .gt (iI a) (iI b) = true ↔ (b < a) := by
    simp only [a_tb, decide_eq_true_eq, Bool.not_eq_true', decide_eq_false_iff_not, iI_lt ha hb, iI_lt hb ha]
  by_cases h : (b < a)
  · exact t_b hf rfl rfl rfl rfl rfl rfl rfl (pc' := tn) (by simp only [a_br]; rw [if_pos (e.mpr h), ht]) (kt h)
  · exact t_b hf rfl rfl rfl rfl rfl rfl rfl (pc' := nx) (by simp only [a_br]; rw [if_neg (fun q => h (e.mp q))]) (kf h)
theorem k9_if_le {a t : Int} {tn : Nat} (hf : a_fetch y pc = some (.ifCond .le t, nx)) (ht : t.toNat = tn) (ha : rg a) (kt : a ≤ 0 → T X d y tn L rest n z G V Q) (kf : ¬ (a ≤ 0) → T X d y nx L rest n z G V Q) : T X d y pc L (.int (iI a) :: rest) n z G V Q := by
  have e : a_tb .le (iI a) 0 = true ↔ (a ≤ 0) := by
    rw [iI_0]; simp only [a_tb, decide_eq_true_eq, Bool.not_eq_true', decide_eq_false_iff_not, iI_le ha (show rg 0 by omega), iI_le (show rg 0 by omega) ha]
  by_cases h : (a ≤ 0)
  · exact t_b hf rfl rfl rfl rfl rfl rfl rfl (pc' := tn) (by simp only [a_br]; rw [if_pos (e.mpr h), ht]) (kt h)
  · exact t_b hf rfl rfl rfl rfl rfl rfl rfl (pc' := nx) (by simp only [a_br]; rw [if_neg (fun q => h (e.mp q))]) (kf h)
theorem k9_ic_le {a b t : Int} {tn : Nat} (hf : a_fetch y pc = some (.if_icmp .le t, nx)) (ht : t.toNat = tn) (ha : rg a) (hb : rg b) (kt : a ≤ b → T X d y tn L rest n z G V Q) (kf : ¬ (a ≤ b) → T X d y nx L rest n z G V Q) : T X d y pc L (.int (iI b) :: .int (iI a) :: rest) n z G V Q := by
  have e : a_tb .le (iI a) (iI b) = true ↔ (a ≤ b) := by
    simp only [a_tb, decide_eq_true_eq, Bool.not_eq_true', decide_eq_false_iff_not, iI_le ha hb, iI_le hb ha]
  by_cases h : (a ≤ b)
  · exact t_b hf rfl rfl rfl rfl rfl rfl rfl (pc' := tn) (by simp only [a_br]; rw [if_pos (e.mpr h), ht]) (kt h)
  · exact t_b hf rfl rfl rfl rfl rfl rfl rfl (pc' := nx) (by simp only [a_br]; rw [if_neg (fun q => h (e.mp q))]) (kf h)
theorem k9_goto {t : Int} {tn : Nat} (hf : a_fetch y pc = some (.goto t, nx)) (ht : t.toNat = tn) (k : T X d y tn L rest n z G V Q) : T X d y pc L rest n z G V Q := t_b hf rfl rfl rfl rfl rfl rfl rfl (pc' := tn) (by simp only [a_br]; rw [ht]) k
theorem k9_nn {a : Nat} {t : Int} {tn : Nat} (hf : a_fetch y pc = some (.ifnonnull t, nx)) (ht : t.toNat = tn) (k : T X d y tn L rest n z G V Q) : T X d y pc L (.ref a :: rest) n z G V Q := t_b hf rfl rfl rfl rfl rfl rfl rfl (pc' := tn) (by simp only [a_br]; rw [ht]) k
theorem k9_nnN {t : Int} (hf : a_fetch y pc = some (.ifnonnull t, nx)) (k : T X d y nx L rest n z G V Q) : T X d y pc L (.null :: rest) n z G V Q := t_b hf rfl rfl rfl rfl rfl rfl rfl (pc' := nx) rfl k
/-- a switch over neighbours -/
theorem k9_sw {a dd lo hi : Int} {offs : Array Int} (tn : Nat) (hf : a_fetch y pc = some (.tableswitch dd lo hi offs, nx)) (ha : rg a) (h : (if a < lo ∨ hi < a then dd.toNat else (offs[(a - lo).toNat]?.map Int.toNat).getD 0) = tn) (hin : a < lo ∨ hi < a ∨ (offs[(a - lo).toNat]?).isSome = true) (k : T X d y tn L rest n z G V Q) : T X d y pc L (.int (iI a) :: rest) n z G V Q := by
  refine t_b hf rfl rfl rfl rfl rfl rfl rfl (pc' := tn) ?_ k
  simp only [a_br, iI_t ha]
  by_cases h1 : a < lo ∨ hi < a
  · rw [if_pos h1] at h ⊢
    rw [h]
  · rw [if_neg h1] at h ⊢
    cases ho : offs[(a - lo).toNat]? with
    | none => rw [ho] at hin; simp at hin; omega
    | some x => rw [ho] at h; simp at h; simp [h]
theorem mk_o {i c : Nat} (ho : G.1 i = .inl c) : mk G V i = .inr (c, (List.range (a_nf c)).map (m_fd G V c i)) := by unfold mk; rw [ho]
theorem mk_ai {i q : Nat} (ho : G.1 i = .inr (0, q)) : mk G V i = .inl (0, q, .inl (fun j => iI (gA V i j))) := by unfold mk; rw [ho]; rfl
theorem mk_ac {i q : Nat} (ho : G.1 i = .inr (1, q)) : mk G V i = .inl (1, q, .inl (fun j => iI (gA V i j))) := by unfold mk; rw [ho]; rfl
theorem mk_al {i q : Nat} (ho : G.1 i = .inr (2, q)) : mk G V i = .inl (2, q, .inr (.inl (fun j => lI (gL V i j)))) := by unfold mk; rw [ho]; rfl
theorem mk_aq {i q : Nat} (ho : G.1 i = .inr (3, q)) : mk G V i = .inl (3, q, .inr (.inr (.inr (.inr (G.2.2 i))))) := by unfold mk; rw [ho]; rfl
theorem m_get {i c j : Nat} (ho : G.1 i = .inl c) (hj : j < a_nf c) : a_rd X (.invokeinterface c j) (.ref i :: rest) (mk G V) = some (m_fd G V c i j :: rest) := by
  simp only [a_rd, mk_o ho, if_true, List.getElem?_map, List.getElem?_range hj, Option.map_some]
theorem k9_gi {i c j : Nat} (hf : a_fetch y pc = some (.invokeinterface c j, nx)) (ho : G.1 i = .inl c) (hj : j < a_nf c ∧ a_kd (a_ty.getD c (fun _ => .int) j) = 0) (k : T X d y nx L (.int (iI (gI V i j)) :: rest) n z G V Q) : T X d y pc L (.ref i :: rest) n z G V Q :=
  t_r hf rfl rfl rfl rfl (by rw [m_get ho hj.1]; unfold m_fd; rw [hj.2]; rfl) k
theorem k9_gj {i c j : Nat} (hf : a_fetch y pc = some (.invokeinterface c j, nx)) (ho : G.1 i = .inl c) (hj : j < a_nf c ∧ a_kd (a_ty.getD c (fun _ => .int) j) = 1) (k : T X d y nx L (.long (lI (gJ V i j)) :: rest) n z G V Q) : T X d y pc L (.ref i :: rest) n z G V Q :=
  t_r hf rfl rfl rfl rfl (by rw [m_get ho hj.1]; unfold m_fd; rw [hj.2]; rfl) k
theorem k9_gr {i c j : Nat} {v : Value} (hf : a_fetch y pc = some (.invokeinterface c j, nx)) (ho : G.1 i = .inl c) (hj : j < a_nf c ∧ a_kd (a_ty.getD c (fun _ => .int) j) = 2) (hv : G.2.1 i j = v) (k : T X d y nx L (v :: rest) n z G V Q) : T X d y pc L (.ref i :: rest) n z G V Q :=
  t_r hf rfl rfl rfl rfl (by rw [m_get ho hj.1]; unfold m_fd; rw [hj.2, hv]; rfl) k
theorem k9_len {i kd q : Nat} (hf : a_fetch y pc = some (.arraylength, nx)) (ho : G.1 i = .inr (kd, q)) (hk : kd < 4) (k : T X d y nx L (.int (iI (q : Int)) :: rest) n z G V Q) : T X d y pc L (.ref i :: rest) n z G V Q := by
  refine t_r hf rfl rfl rfl rfl ?_ k
  rcases (show kd = 0 ∨ kd = 1 ∨ kd = 2 ∨ kd = 3 by omega) with rfl | rfl | rfl | rfl
  · simp only [a_rd, mk_ai ho]; rw [if_pos (by decide), iI_nat]
  · simp only [a_rd, mk_ac ho]; rw [if_pos (by decide), iI_nat]
  · simp only [a_rd, mk_al ho]; rw [if_pos (by decide), iI_nat]
  · simp only [a_rd, mk_aq ho]; rw [if_pos (by decide), iI_nat]
theorem k9_ia {i q : Nat} {j : Int} (hf : a_fetch y pc = some (.iaload, nx)) (ho : G.1 i = .inr (0, q)) (h0 : 0 ≤ j) (h1 : j < (q : Int)) (h2 : j ≤ 2147483647) (k : T X d y nx L (.int (iI (gA V i j.toNat)) :: rest) n z G V Q) : T X d y pc L (.int (iI j) :: .ref i :: rest) n z G V Q := by
  refine t_r hf rfl rfl rfl rfl ?_ k
  simp only [a_rd, mk_ai ho]; rw [if_pos (iI_vin h0 h1 h2), iI_cl ⟨by omega, h2⟩]
theorem k9_ca {i q : Nat} {j : Int} (hf : a_fetch y pc = some (.caload, nx)) (ho : G.1 i = .inr (1, q)) (h0 : 0 ≤ j) (h1 : j < (q : Int)) (h2 : j ≤ 2147483647) (k : T X d y nx L (.int (iI (gA V i j.toNat)) :: rest) n z G V Q) : T X d y pc L (.int (iI j) :: .ref i :: rest) n z G V Q := by
  refine t_r hf rfl rfl rfl rfl ?_ k
  simp only [a_rd, mk_ac ho]; rw [if_pos (iI_vin h0 h1 h2), iI_cl ⟨by omega, h2⟩]
theorem k9_la {i q : Nat} {j : Int} (hf : a_fetch y pc = some (.laload, nx)) (ho : G.1 i = .inr (2, q)) (h0 : 0 ≤ j) (h1 : j < (q : Int)) (h2 : j ≤ 2147483647) (k : T X d y nx L (.long (lI (gL V i j.toNat)) :: rest) n z G V Q) : T X d y pc L (.int (iI j) :: .ref i :: rest) n z G V Q := by
  refine t_r hf rfl rfl rfl rfl ?_ k
  simp only [a_rd, mk_al ho]; rw [if_pos (iI_vin h0 h1 h2), iI_cl ⟨by omega, h2⟩]
theorem k9_aa {i q : Nat} {j : Int} {v : Value} (hf : a_fetch y pc = some (.aaload, nx)) (ho : G.1 i = .inr (3, q)) (h0 : 0 ≤ j) (h1 : j < (q : Int)) (h2 : j ≤ 2147483647) (hv : va_rf (G.2.2 i j.toNat) = v) (k : T X d y nx L (v :: rest) n z G V Q) : T X d y pc L (.int (iI j) :: .ref i :: rest) n z G V Q := by
  refine t_r hf rfl rfl rfl rfl ?_ k
  simp only [a_rd, mk_aq ho]; rw [if_pos (iI_vin h0 h1 h2), iI_cl ⟨by omega, h2⟩, hv]
/-- writes: what the tables become -/
theorem mk_ext {a : Nat} (h1 : ∀ c k, m_fd G V c a k = m_fd G V' c a k) (h2 : gA V a = gA V' a) (h3 : gL V a = gL V' a) : mk G V a = mk G V' a := by
  unfold mk
  split
  · rename_i c hc
    have : m_fd G V c a = m_fd G V' c a := funext (h1 c)
    rw [this]
  · rw [h2]
  · rw [h2]
  · rw [h3]
  · rfl
theorem m_fdI {a c i j k : Nat} {x : Int} (h : a ≠ i ∨ k ≠ j) : m_fd G (sI V i j x) c a k = m_fd G V c a k := by
  unfold m_fd
  have e : gI (sI V i j x) a k = gI V a k := by
    simp only [gI, sI, u2]
    rw [if_neg]
    rintro ⟨h1, h2⟩
    rcases h with h | h
    · exact h h1
    · exact h h2
  rw [e]
  rfl
theorem m_fdJ {a c i j k : Nat} {x : Int} (h : a ≠ i ∨ k ≠ j) : m_fd G (sJ V i j x) c a k = m_fd G V c a k := by
  unfold m_fd
  have e : gJ (sJ V i j x) a k = gJ V a k := by
    simp only [gJ, sJ, u2]
    rw [if_neg]
    rintro ⟨h1, h2⟩
    rcases h with h | h
    · exact h h1
    · exact h h2
  rw [e]
  rfl
theorem set_map {i c j N : Nat} {f g : Nat → Value} {v : Value} (h1 : ∀ k, k ≠ j → f k = g k) (h2 : g j = v) : ((List.range N).map f).set j v = (List.range N).map g := by
  apply List.ext_getElem?
  intro b
  by_cases hb : b = j
  · subst hb
    by_cases hlt : b < N
    · rw [List.getElem?_set_self (by simpa using hlt), List.getElem?_map, List.getElem?_range hlt, ← h2]; rfl
    · rw [List.getElem?_eq_none (by simp; omega), List.getElem?_eq_none (by simp; omega)]
  · rw [List.getElem?_set_ne (Ne.symm hb), List.getElem?_map, List.getElem?_map]
    cases hq : (List.range N)[b]? with
    | none => rfl
    | some q =>
      have hlt := (List.getElem?_eq_some_iff.mp hq).1
      have : q = b := by rw [List.getElem?_range (by simpa using hlt)] at hq; exact (Option.some.inj hq).symm
      subst this
      show some (f q) = some (g q)
      rw [h1 q hb]
theorem mk_sI {i c j : Nat} {x : Int} (ho : G.1 i = .inl c) (hj : a_kd (a_ty.getD c (fun _ => .int) j) = 0) : a_up (mk G V) i (.inr (c, ((List.range (a_nf c)).map (m_fd G V c i)).set j (.int (iI x)))) = mk G (sI V i j x) := by
  funext a
  by_cases ha : a = i
  · subst ha
    rw [a_upS, mk_o ho, set_map (i := 0) (c := 0) (g := m_fd G (sI V a j x) c a) (fun k hk => (m_fdI (Or.inr hk)).symm)]
    unfold m_fd
    rw [hj]
    simp [gI, sI, u2]
  · rw [a_upN ha]
    exact mk_ext (fun c k => (m_fdI (Or.inl ha)).symm) rfl rfl
theorem mk_sJ {i c j : Nat} {x : Int} (ho : G.1 i = .inl c) (hj : a_kd (a_ty.getD c (fun _ => .int) j) = 1) : a_up (mk G V) i (.inr (c, ((List.range (a_nf c)).map (m_fd G V c i)).set j (.long (lI x)))) = mk G (sJ V i j x) := by
  funext a
  by_cases ha : a = i
  · subst ha
    rw [a_upS, mk_o ho, set_map (i := 0) (c := 0) (g := m_fd G (sJ V a j x) c a) (fun k hk => (m_fdJ (Or.inr hk)).symm)]
    unfold m_fd
    rw [hj]
    simp [gJ, sJ, u2]
  · rw [a_upN ha]
    exact mk_ext (fun c k => (m_fdJ (Or.inl ha)).symm) rfl rfl
def sR (G : mG) (i j : Nat) (v : Value) : mG := (G.1, u2 G.2.1 i j v, G.2.2)
theorem mk_sR {i c j : Nat} {v : Value} (ho : G.1 i = .inl c) (hj : a_kd (a_ty.getD c (fun _ => .int) j) = 2) : a_up (mk G V) i (.inr (c, ((List.range (a_nf c)).map (m_fd G V c i)).set j v)) = mk (sR G i j v) V := by
  funext a
  have hm : ∀ c k, a ≠ i ∨ k ≠ j → m_fd (sR G i j v) V c a k = m_fd G V c a k := by
    intro c k h
    unfold m_fd sR
    have e : u2 G.2.1 i j v a k = G.2.1 a k := by
      simp only [u2]
      rw [if_neg]
      rintro ⟨h1, h2⟩
      rcases h with h | h
      · exact h h1
      · exact h h2
    simp only [e]
  by_cases ha : a = i
  · subst ha
    rw [a_upS, mk_o (G := sR G a j v) ho, set_map (i := 0) (c := 0) (g := m_fd (sR G a j v) V c a) (fun k hk => (hm c k (Or.inr hk)).symm)]
    unfold m_fd
    rw [hj]
    simp [sR, u2]
  · rw [a_upN ha]
    show mk G V a = mk (sR G i j v) V a
    unfold mk
    show (match G.1 a with
      | .inl c => _
      | .inr (0, n) => _
      | .inr (1, n) => _
      | .inr (2, n) => _
      | .inr (k, n) => _) = (match G.1 a with
      | .inl c => _
      | .inr (0, n) => _
      | .inr (1, n) => _
      | .inr (2, n) => _
      | .inr (k, n) => _)
    split
    · rename_i c hc
      have : m_fd G V c a = m_fd (sR G i j v) V c a := funext fun k => (hm c k (Or.inl ha)).symm
      rw [this]
    · rfl
    · rfl
    · rfl
    · rfl
theorem uA {i j a : Nat} {x : Int} (h : a ≠ i) : gA (sA V i j x) a = gA V a := by
  funext b
  simp [gA, sA, u2, h]
theorem mk_sA {i q j kd : Nat} {x : Int} (hk : kd = 0 ∨ kd = 1) (ho : G.1 i = .inr (kd, q)) : a_up (mk G V) i (.inl (kd, q, .inl (upd (fun j => iI (gA V i j)) j (iI x)))) = mk G (sA V i j x) := by
  funext a
  by_cases ha : a = i
  · subst ha
    rw [a_upS]
    have e : upd (fun j => iI (gA V a j)) j (iI x) = fun b => iI (gA (sA V a j x) a b) := by
      funext b
      simp only [upd, gA, sA, u2]
      by_cases hb : b = j
      · simp [hb]
      · simp [hb]
    rcases hk with rfl | rfl
    · rw [mk_ai ho, e]
    · rw [mk_ac ho, e]
  · rw [a_upN ha]
    exact mk_ext (fun c k => rfl) (uA ha).symm rfl
theorem mk_sL {i q j : Nat} {x : Int} (ho : G.1 i = .inr (2, q)) : a_up (mk G V) i (.inl (2, q, .inr (.inl (vp_updL (fun j => lI (gL V i j)) j (lI x))))) = mk G (sL V i j x) := by
  funext a
  by_cases ha : a = i
  · subst ha
    rw [a_upS, mk_al ho]
    have e : vp_updL (fun j => lI (gL V a j)) j (lI x) = fun b => lI (gL (sL V a j x) a b) := by
      funext b
      simp only [vp_updL, gL, sL, u2]
      by_cases hb : b = j
      · simp [hb]
      · simp [hb]
    rw [e]
  · rw [a_upN ha]
    refine mk_ext (fun c k => rfl) rfl ?_
    funext b
    simp [gL, sL, u2, ha]
theorem k9_pi {i c j : Nat} {x : Int} (hf : a_fetch y pc = some (.multianewarray c j, nx)) (ho : G.1 i = .inl c) (hj : j < a_nf c ∧ a_ty.getD c (fun _ => .int) j = .int) (k : T X d y nx L rest n z G (sI V i j x) Q) : T X d y pc L (.int (iI x) :: .ref i :: rest) n z G V Q := by
  refine t_w hf rfl rfl rfl rfl rfl ?_ k
  simp only [a_wr, mk_o ho]
  rw [if_pos ⟨trivial, by simpa using hj.1, by rw [hj.2]; rfl⟩, mk_sI ho (by rw [hj.2]; rfl)]
theorem k9_pb {i c j : Nat} {x : Int} (hf : a_fetch y pc = some (.multianewarray c j, nx)) (ho : G.1 i = .inl c) (hj : j < a_nf c ∧ a_ty.getD c (fun _ => .int) j = .boolean) (hx : x = 0 ∨ x = 1) (k : T X d y nx L rest n z G (sI V i j x) Q) : T X d y pc L (.int (iI x) :: .ref i :: rest) n z G V Q := by
  refine t_w hf rfl rfl rfl rfl rfl ?_ k
  simp only [a_wr, mk_o ho]
  rw [if_pos ⟨trivial, by simpa using hj.1, by rw [hj.2]; rcases hx with rfl | rfl <;> decide⟩, mk_sI ho (by rw [hj.2]; rfl)]
theorem k9_pj {i c j : Nat} {x : Int} (hf : a_fetch y pc = some (.multianewarray c j, nx)) (ho : G.1 i = .inl c) (hj : j < a_nf c ∧ a_ty.getD c (fun _ => .int) j = .long) (k : T X d y nx L rest n z G (sJ V i j x) Q) : T X d y pc L (.long (lI x) :: .ref i :: rest) n z G V Q := by
  refine t_w hf rfl rfl rfl rfl rfl ?_ k
  simp only [a_wr, mk_o ho]
  rw [if_pos ⟨trivial, by simpa using hj.1, by rw [hj.2]; rfl⟩, mk_sJ ho (by rw [hj.2]; rfl)]
theorem k9_pr {i c j r : Nat} (hf : a_fetch y pc = some (.multianewarray c j, nx)) (ho : G.1 i = .inl c) (hj : j < a_nf c ∧ a_fit (a_ty.getD c (fun _ => .int) j) (.ref 0) = true) (k : T X d y nx L rest n z (sR G i j (.ref r)) V Q) : T X d y pc L (.ref r :: .ref i :: rest) n z G V Q := by
  refine t_w hf rfl rfl rfl rfl rfl ?_ k
  simp only [a_wr, mk_o ho]
  have h1 : a_fit (a_ty.getD c (fun _ => .int) j) (.ref r) = true := by
    have := hj.2
    unfold a_fit at this ⊢
    split at this <;> simp_all
  have h2 : a_kd (a_ty.getD c (fun _ => .int) j) = 2 := by
    have := hj.2
    unfold a_fit at this
    split at this <;> simp_all [a_kd]
  rw [if_pos ⟨trivial, by simpa using hj.1, h1⟩, mk_sR ho h2]
theorem k9_is {i q : Nat} {j x : Int} (hf : a_fetch y pc = some (.iastore, nx)) (ho : G.1 i = .inr (0, q)) (h0 : 0 ≤ j) (h1 : j < (q : Int)) (h2 : j ≤ 2147483647) (k : T X d y nx L rest n z G (sA V i j.toNat x) Q) : T X d y pc L (.int (iI x) :: .int (iI j) :: .ref i :: rest) n z G V Q := by
  refine t_w hf rfl rfl rfl rfl rfl ?_ k
  simp only [a_wr, mk_ai ho]
  rw [if_pos (iI_vin h0 h1 h2), iI_cl ⟨by omega, h2⟩, mk_sA (Or.inl rfl) ho]
theorem k9_cs {i q : Nat} {j x : Int} (hf : a_fetch y pc = some (.castore, nx)) (ho : G.1 i = .inr (1, q)) (h0 : 0 ≤ j) (h1 : j < (q : Int)) (h2 : j ≤ 2147483647) (hx0 : 0 ≤ x) (hx1 : x < 65536) (k : T X d y nx L rest n z G (sA V i j.toNat x) Q) : T X d y pc L (.int (iI x) :: .int (iI j) :: .ref i :: rest) n z G V Q := by
  refine t_w hf rfl rfl rfl rfl rfl ?_ k
  simp only [a_wr, mk_ac ho]
  rw [if_pos (iI_vin h0 h1 h2), iI_cl ⟨by omega, h2⟩, nar_c hx0 hx1, mk_sA (Or.inr rfl) ho]
theorem k9_ls {i q : Nat} {j x : Int} (hf : a_fetch y pc = some (.lastore, nx)) (ho : G.1 i = .inr (2, q)) (h0 : 0 ≤ j) (h1 : j < (q : Int)) (h2 : j ≤ 2147483647) (k : T X d y nx L rest n z G (sL V i j.toNat x) Q) : T X d y pc L (.long (lI x) :: .int (iI j) :: .ref i :: rest) n z G V Q := by
  refine t_w hf rfl rfl rfl rfl rfl ?_ k
  simp only [a_wr, mk_al ho]
  rw [if_pos (iI_vin h0 h1 h2), iI_cl ⟨by omega, h2⟩, mk_sL ho]
def nw (G : mG) (n : Nat) (x : Nat ⊕ (Nat × Nat)) : mG := (fun a => if a = n then x else G.1 a, G.2)
/-- a new object: its numbers 0, its references null -/
def z0 (V : mV) (n : Nat) : mV := (fun a k => if a = n then 0 else V.1 a k, fun a k => if a = n then 0 else V.2.1 a k, V.2.2)
def zR (G : mG) (n : Nat) : mG := (G.1, fun a k => if a = n then .null else G.2.1 a k, G.2.2)
def zA (V : mV) (n : Nat) : mV := (V.1, V.2.1, fun a k => if a = n then 0 else V.2.2.1 a k, V.2.2.2)
def zL (V : mV) (n : Nat) : mV := (V.1, V.2.1, V.2.2.1, fun a k => if a = n then 0 else V.2.2.2 a k)
def zQ (G : mG) (n : Nat) : mG := (G.1, G.2.1, fun a k => if a = n then none else G.2.2 a k)
theorem mk_nwo {n c : Nat} (hc : c < 11) : a_up (mk G V) n (.inr (c, a_fs0 c)) = mk (zR (nw G n (.inl c)) n) (z0 V n) := by
  funext a
  by_cases ha : a = n
  · subst ha
    rw [a_upS]
    have ho : (zR (nw G a (.inl c)) a).1 a = .inl c := by simp [zR, nw]
    rw [mk_o ho]
    congr 2
    unfold a_fs0
    have hl : ∃ r, a_cl[c]? = some r := ⟨_, List.getElem?_eq_getElem (show c < a_cl.length from hc)⟩
    obtain ⟨r, hr⟩ := hl
    have hn : a_nf c = r.2.2 := by unfold a_nf; rw [hr]
    rw [hr, hn]
    apply List.map_congr_left
    intro k hk
    unfold m_fd
    cases hty : a_ty.getD c (fun _ => .int) k <;> simp [a_d0, a_kd, gI, gJ, z0, zR, nw, iI, lI] <;> rfl
  · rw [a_upN ha]
    have e1 : (zR (nw G n (.inl c)) n).1 a = G.1 a := by simp [zR, nw, ha]
    unfold mk
    rw [e1]
    split
    · congr 2
      apply List.map_congr_left
      intro k hk
      unfold m_fd
      have e2 : gI (z0 V n) a k = gI V a k := by simp [gI, z0, ha]
      have e3 : gJ (z0 V n) a k = gJ V a k := by simp [gJ, z0, ha]
      have e4 : (zR (nw G n (.inl c)) n).2.1 a k = G.2.1 a k := by simp [zR, nw, ha]
      rw [e2, e3, e4]
    · rfl
    · rfl
    · rfl
    · rfl
theorem mk_nwa {n q kd : Nat} (hk : kd = 0 ∨ kd = 1) : a_up (mk G V) n (.inl (kd, q, .inl (fun _ => 0))) = mk (nw G n (.inr (kd, q))) (zA V n) := by
  funext a
  by_cases ha : a = n
  · subst ha
    rw [a_upS]
    have ho : (nw G a (.inr (kd, q))).1 a = .inr (kd, q) := by simp [nw]
    have e : (fun j => iI (gA (zA V a) a j)) = fun _ => (0 : Int32) := by funext j; simp [gA, zA]; rfl
    rcases hk with rfl | rfl
    · rw [mk_ai ho, e]
    · rw [mk_ac ho, e]
  · rw [a_upN ha]
    have e1 : (nw G n (.inr (kd, q))).1 a = G.1 a := by simp [nw, ha]
    have e2 : gA (zA V n) a = gA V a := by funext j; simp [gA, zA, ha]
    unfold mk
    rw [e1, e2]
    rfl
theorem mk_nwl {n q : Nat} : a_up (mk G V) n (.inl (2, q, .inr (.inl (fun _ => 0)))) = mk (nw G n (.inr (2, q))) (zL V n) := by
  funext a
  by_cases ha : a = n
  · subst ha
    rw [a_upS]
    have ho : (nw G a (.inr (2, q))).1 a = .inr (2, q) := by simp [nw]
    have e : (fun j => lI (gL (zL V a) a j)) = fun _ => (0 : Int64) := by funext j; simp [gL, zL]; rfl
    rw [mk_al ho, e]
  · rw [a_upN ha]
    have e1 : (nw G n (.inr (2, q))).1 a = G.1 a := by simp [nw, ha]
    have e2 : gL (zL V n) a = gL V a := by funext j; simp [gL, zL, ha]
    unfold mk
    rw [e1, e2]
    rfl
theorem k9_new {c : Nat} (hf : a_fetch y pc = some (.new c, nx)) (hc : c < 11) (k : T X d y nx L (.ref n :: rest) (n + 1) (z + a_nf c) (zR (nw G n (.inl c)) n) (z0 V n) Q) : T X d y pc L rest n z G V Q := by
  refine T.step hf rfl rfl ?_ k
  have hl : ∃ r, a_cl[c]? = some r := ⟨_, List.getElem?_eq_getElem (show c < a_cl.length from hc)⟩
  obtain ⟨r, hr⟩ := hl
  have hn : a_nf c = r.2.2 := by unfold a_nf; rw [hr]
  have hw : a_nw (.new c) rest n = some (.ref n :: rest, .inr (c, a_fs0 c), r.2.2) := by simp only [a_nw, hr]
  unfold a_stp
  simp only [a_stk, a_lo, a_rd, a_wr, hw]
  rw [mk_nwo hc, hn]
theorem k9_na {q : Nat} {x : Int} (hf : a_fetch y pc = some (.newarray .int, nx)) (hx : x = (q : Int)) (hq : q ≤ 100000) (k : T X d y nx L (.ref n :: rest) (n + 1) (z + q) (nw G n (.inr (0, q))) (zA V n) Q) : T X d y pc L (.int (iI x) :: rest) n z G V Q := by
  subst hx
  refine T.step hf rfl rfl ?_ k
  have hr : rg (q : Int) := by omega
  have h1 : ¬ iI (q : Int) < 0 := by rw [iI_0, iI_lt hr (by omega)]; omega
  have h2 : (iI (q : Int)).toNatClampNeg = q := by rw [iI_cl hr]; omega
  unfold a_stp
  simp only [a_stk, a_lo, a_rd, a_wr, a_nw, h2]
  rw [if_pos ⟨h1, hq⟩]
  simp only
  rw [mk_nwa (Or.inl rfl)]
theorem k9_nc {q : Nat} {x : Int} (hf : a_fetch y pc = some (.newarray .char, nx)) (hx : x = (q : Int)) (hq : q ≤ 100000) (k : T X d y nx L (.ref n :: rest) (n + 1) (z + q) (nw G n (.inr (1, q))) (zA V n) Q) : T X d y pc L (.int (iI x) :: rest) n z G V Q := by
  subst hx
  refine T.step hf rfl rfl ?_ k
  have hr : rg (q : Int) := by omega
  have h1 : ¬ iI (q : Int) < 0 := by rw [iI_0, iI_lt hr (by omega)]; omega
  have h2 : (iI (q : Int)).toNatClampNeg = q := by rw [iI_cl hr]; omega
  unfold a_stp
  simp only [a_stk, a_lo, a_rd, a_wr, a_nw, h2]
  rw [if_pos ⟨h1, hq⟩]
  simp only
  rw [mk_nwa (Or.inr rfl)]
theorem k9_nl {q : Nat} {x : Int} (hf : a_fetch y pc = some (.newarray .long, nx)) (hx : x = (q : Int)) (hq : q ≤ 100000) (k : T X d y nx L (.ref n :: rest) (n + 1) (z + q) (nw G n (.inr (2, q))) (zL V n) Q) : T X d y pc L (.int (iI x) :: rest) n z G V Q := by
  subst hx
  refine T.step hf rfl rfl ?_ k
  have hr : rg (q : Int) := by omega
  have h1 : ¬ iI (q : Int) < 0 := by rw [iI_0, iI_lt hr (by omega)]; omega
  have h2 : (iI (q : Int)).toNatClampNeg = q := by rw [iI_cl hr]; omega
  unfold a_stp
  simp only [a_stk, a_lo, a_rd, a_wr, a_nw, h2]
  rw [if_pos ⟨h1, hq⟩]
  simp only
  rw [mk_nwl]
/-- calls, by kind -/
theorem k9_cls {y2 na d2 : Nat} {as rs : List Value} {v : Option Value} (hf : a_fetch y pc = some (.invokestatic y2, nx)) (hg : a_sg[y2]? = some (na, 0)) (hm : (a_lay as).length ≤ a_mx y2) (hl : rs.length = na) (ha : as = rs.reverse) (hr : a_rst rest = true) (hR : Rn X d2 y2 as n z G V n' z' G' V' v) (hd : d2 + 1 ≤ d) (k : T X d y nx L (v.toList ++ rest) n' z' G' V' Q) : T X d y pc L (rs ++ rest) n z G V Q := by
  refine t_call hf rfl ?_ hm hR hd k
  subst hl
  simp only [a_call, hg]
  rw [if_pos ⟨by simp, by rw [List.drop_left]; exact hr⟩, List.take_left, List.drop_left, ha]
theorem k9_cli {y2 na d2 a : Nat} {as rs : List Value} {v : Option Value} (hf : a_fetch y pc = some (.invokespecial y2, nx)) (hg : a_sg[y2]? = some (na, 2)) (hm : (a_lay as).length ≤ a_mx y2) (hl : rs.length = na) (ha : as = .ref a :: rs.reverse) (hr : a_rst rest = true) (hR : Rn X d2 y2 as n z G V n' z' G' V' v) (hd : d2 + 1 ≤ d) (k : T X d y nx L (v.toList ++ rest) n' z' G' V' Q) : T X d y pc L (rs ++ .ref a :: rest) n z G V Q := by
  refine t_call hf rfl ?_ hm hR hd k
  subst hl
  simp only [a_call, hg, List.drop_left, List.take_left]
  rw [if_pos hr, ha]
theorem k9_clv {y2 na d2 a c : Nat} {as rs : List Value} {mt : mT} {v : Option Value} (hf : a_fetch y pc = some (.invokevirtual y2, nx)) (hg : a_sg[y2]? = some (na, 1)) (hmt : a_mt[y2]? = some mt) (hc : c = mt.2.2.2.2 ∧ c < 11) (ho : G.1 a = .inl c) (hm : (a_lay as).length ≤ a_mx y2) (hl : rs.length = na) (ha : as = .ref a :: rs.reverse) (hr : a_r12 rest = true) (hR : Rn X d2 y2 as n z G V n' z' G' V' v) (hd : d2 + 1 ≤ d) (k : T X d y nx L (v.toList ++ rest) n' z' G' V' Q) : T X d y pc L (rs ++ .ref a :: rest) n z G V Q := by
  refine t_call hf rfl ?_ hm hR hd k
  subst hl
  simp only [a_call, hg, hmt, List.drop_left, List.take_left, mk_o ho]
  rw [if_pos ⟨hc.1, hc.2, hr⟩, ha]
end

theorem q_FR {X : mX} {G : mG} {r0 : Nat} (hr0 : is6 G r0) : ∀ (f w : Nat) (a b : Int) (V V' : mV) (v : Int), FR G r0 f w a b V = some (V', v) → ∀ (n z : Nat), (w = 0 → Rn X (30 + f) 86 [.ref r0, .int (iI a)] n z G V n z G V' none) ∧ (w = 1 → Rn X (30 + f) 87 [.ref r0, .int (iI a)] n z G V n z G V' none) ∧ (w = 2 → Rn X (30 + f) 88 [.ref r0, .int (iI a)] n z G V n z G V' none) ∧ (w = 3 → Rn X (30 + f) 90 [.ref r0, .int (iI a)] n z G V n z G V' none) ∧ (w = 4 → Rn X (30 + f) 91 [.ref r0, .int (iI a)] n z G V n z G V' none) ∧ (w = 5 → Rn X (30 + f) 92 [.ref r0, .int (iI a)] n z G V n z G V' none) ∧ (w = 6 → Rn X (30 + f) 93 [.ref r0, .int (iI a), .int (iI b)] n z G V n z G V' none) := by
  intro f
  induction f with
  | zero => intro w a b V V' v h; exact (a_no h).elim
  | succ f ih =>
    intro w a b V V' v h n z
    unfold FR at h
    refine ⟨fun e => ?_, fun e => ?_, fun e => ?_, fun e => ?_, fun e => ?_, fun e => ?_, fun e => ?_⟩
    · subst e
      exact (q_X6_readTest (dd := 30 + f) (rec := FR G r0 f) hr0 (by omega) (fun q => (ih 0 _ _ _ _ _ q n z).1 rfl) (fun q => (ih 1 _ _ _ _ _ q n z).2.1 rfl) (fun q => (ih 2 _ _ _ _ _ q n z).2.2.1 rfl) (fun q => (ih 3 _ _ _ _ _ q n z).2.2.2.1 rfl) (fun q => (ih 4 _ _ _ _ _ q n z).2.2.2.2.1 rfl) (fun q => (ih 5 _ _ _ _ _ q n z).2.2.2.2.2.1 rfl) (fun q => (ih 6 _ _ _ _ _ q n z).2.2.2.2.2.2 rfl) (ite_t rfl h)).up (by omega)
    · subst e
      exact (q_X6_readBoth (dd := 30 + f) (rec := FR G r0 f) hr0 (by omega) (fun q => (ih 0 _ _ _ _ _ q n z).1 rfl) (fun q => (ih 1 _ _ _ _ _ q n z).2.1 rfl) (fun q => (ih 2 _ _ _ _ _ q n z).2.2.1 rfl) (fun q => (ih 3 _ _ _ _ _ q n z).2.2.2.1 rfl) (fun q => (ih 4 _ _ _ _ _ q n z).2.2.2.2.1 rfl) (fun q => (ih 5 _ _ _ _ _ q n z).2.2.2.2.2.1 rfl) (fun q => (ih 6 _ _ _ _ _ q n z).2.2.2.2.2.2 rfl) (ite_t rfl (ite_f (by decide) h))).up (by omega)
    · subst e
      exact (q_X6_readFact (dd := 30 + f) (rec := FR G r0 f) hr0 (by omega) (fun q => (ih 0 _ _ _ _ _ q n z).1 rfl) (fun q => (ih 1 _ _ _ _ _ q n z).2.1 rfl) (fun q => (ih 2 _ _ _ _ _ q n z).2.2.1 rfl) (fun q => (ih 3 _ _ _ _ _ q n z).2.2.2.1 rfl) (fun q => (ih 4 _ _ _ _ _ q n z).2.2.2.2.1 rfl) (fun q => (ih 5 _ _ _ _ _ q n z).2.2.2.2.2.1 rfl) (fun q => (ih 6 _ _ _ _ _ q n z).2.2.2.2.2.2 rfl) (ite_t rfl (ite_f (by decide) (ite_f (by decide) h)))).up (by omega)
    · subst e
      exact (q_X6_readSum (dd := 30 + f) (rec := FR G r0 f) hr0 (by omega) (fun q => (ih 0 _ _ _ _ _ q n z).1 rfl) (fun q => (ih 1 _ _ _ _ _ q n z).2.1 rfl) (fun q => (ih 2 _ _ _ _ _ q n z).2.2.1 rfl) (fun q => (ih 3 _ _ _ _ _ q n z).2.2.2.1 rfl) (fun q => (ih 4 _ _ _ _ _ q n z).2.2.2.2.1 rfl) (fun q => (ih 5 _ _ _ _ _ q n z).2.2.2.2.2.1 rfl) (fun q => (ih 6 _ _ _ _ _ q n z).2.2.2.2.2.2 rfl) (ite_t rfl (ite_f (by decide) (ite_f (by decide) (ite_f (by decide) h))))).up (by omega)
    · subst e
      exact (q_X6_readProduct (dd := 30 + f) (rec := FR G r0 f) hr0 (by omega) (fun q => (ih 0 _ _ _ _ _ q n z).1 rfl) (fun q => (ih 1 _ _ _ _ _ q n z).2.1 rfl) (fun q => (ih 2 _ _ _ _ _ q n z).2.2.1 rfl) (fun q => (ih 3 _ _ _ _ _ q n z).2.2.2.1 rfl) (fun q => (ih 4 _ _ _ _ _ q n z).2.2.2.2.1 rfl) (fun q => (ih 5 _ _ _ _ _ q n z).2.2.2.2.2.1 rfl) (fun q => (ih 6 _ _ _ _ _ q n z).2.2.2.2.2.2 rfl) (ite_t rfl (ite_f (by decide) (ite_f (by decide) (ite_f (by decide) (ite_f (by decide) h)))))).up (by omega)
    · subst e
      exact (q_X6_readPart (dd := 30 + f) (rec := FR G r0 f) hr0 (by omega) (fun q => (ih 0 _ _ _ _ _ q n z).1 rfl) (fun q => (ih 1 _ _ _ _ _ q n z).2.1 rfl) (fun q => (ih 2 _ _ _ _ _ q n z).2.2.1 rfl) (fun q => (ih 3 _ _ _ _ _ q n z).2.2.2.1 rfl) (fun q => (ih 4 _ _ _ _ _ q n z).2.2.2.2.1 rfl) (fun q => (ih 5 _ _ _ _ _ q n z).2.2.2.2.2.1 rfl) (fun q => (ih 6 _ _ _ _ _ q n z).2.2.2.2.2.2 rfl) (ite_t rfl (ite_f (by decide) (ite_f (by decide) (ite_f (by decide) (ite_f (by decide) (ite_f (by decide) h))))))).up (by omega)
    · subst e
      exact (q_X6_readPair (dd := 30 + f) (rec := FR G r0 f) hr0 (by omega) (fun q => (ih 0 _ _ _ _ _ q n z).1 rfl) (fun q => (ih 1 _ _ _ _ _ q n z).2.1 rfl) (fun q => (ih 2 _ _ _ _ _ q n z).2.2.1 rfl) (fun q => (ih 3 _ _ _ _ _ q n z).2.2.2.1 rfl) (fun q => (ih 4 _ _ _ _ _ q n z).2.2.2.2.1 rfl) (fun q => (ih 5 _ _ _ _ _ q n z).2.2.2.2.2.1 rfl) (fun q => (ih 6 _ _ _ _ _ q n z).2.2.2.2.2.2 rfl) (ite_t rfl (ite_f (by decide) (ite_f (by decide) (ite_f (by decide) (ite_f (by decide) (ite_f (by decide) (ite_f (by decide) h)))))))).up (by omega)
theorem q_FR0 {X : mX} {n z : Nat} {G : mG} {r0 : Nat} (hr0 : is6 G r0) {a : Int} {V V' : mV} {v : Int} (h : FR G r0 64 0 a 0 V = some (V', v)) : Rn X 94 86 [.ref r0, .int (iI a)] n z G V n z G V' none := (q_FR hr0 64 0 a 0 V V' v h n z).1 rfl
theorem q_FR1 {X : mX} {n z : Nat} {G : mG} {r0 : Nat} (hr0 : is6 G r0) {a : Int} {V V' : mV} {v : Int} (h : FR G r0 64 1 a 0 V = some (V', v)) : Rn X 94 87 [.ref r0, .int (iI a)] n z G V n z G V' none := (q_FR hr0 64 1 a 0 V V' v h n z).2.1 rfl
theorem q_FR2 {X : mX} {n z : Nat} {G : mG} {r0 : Nat} (hr0 : is6 G r0) {a : Int} {V V' : mV} {v : Int} (h : FR G r0 64 2 a 0 V = some (V', v)) : Rn X 94 88 [.ref r0, .int (iI a)] n z G V n z G V' none := (q_FR hr0 64 2 a 0 V V' v h n z).2.2.1 rfl
theorem q_FR3 {X : mX} {n z : Nat} {G : mG} {r0 : Nat} (hr0 : is6 G r0) {a : Int} {V V' : mV} {v : Int} (h : FR G r0 64 3 a 0 V = some (V', v)) : Rn X 94 90 [.ref r0, .int (iI a)] n z G V n z G V' none := (q_FR hr0 64 3 a 0 V V' v h n z).2.2.2.1 rfl
theorem q_FR4 {X : mX} {n z : Nat} {G : mG} {r0 : Nat} (hr0 : is6 G r0) {a : Int} {V V' : mV} {v : Int} (h : FR G r0 64 4 a 0 V = some (V', v)) : Rn X 94 91 [.ref r0, .int (iI a)] n z G V n z G V' none := (q_FR hr0 64 4 a 0 V V' v h n z).2.2.2.2.1 rfl
theorem q_FR5 {X : mX} {n z : Nat} {G : mG} {r0 : Nat} (hr0 : is6 G r0) {a : Int} {V V' : mV} {v : Int} (h : FR G r0 64 5 a 0 V = some (V', v)) : Rn X 94 92 [.ref r0, .int (iI a)] n z G V n z G V' none := (q_FR hr0 64 5 a 0 V V' v h n z).2.2.2.2.2.1 rfl
theorem q_FR6 {X : mX} {n z : Nat} {G : mG} {r0 : Nat} (hr0 : is6 G r0) {a : Int} {V V' : mV} {v : Int} (h : FR G r0 64 6 a 0 V = some (V', v)) : Rn X 94 93 [.ref r0, .int (iI a), .int (iI 0)] n z G V n z G V' none := (q_FR hr0 64 6 a 0 V V' v h n z).2.2.2.2.2.2 rfl

theorem q_X7_init {X : mX} {r0 : Nat} {x1 : Int} {W W' : mW} {v : Int} (h : F_X7_init r0 x1 W = some (W', v)) : Rn (X) (1) 94 [.ref r0, .int (iI x1)] W.1 W.2.1 W.2.2.1 W.2.2.2 W'.1 W'.2.1 W'.2.2.1 W'.2.2.2 none := by
  refine qwv_toR (v := v) (L := [some (.ref r0), some (.int (iI x1))]) rfl ?_
  unfold F_X7_init at h
  obtain ⟨f1, h⟩ := gd_some h
  refine t_l fX7_init_0 rfl rfl rfl rfl ?_
  refine t_s fX7_init_1 rfl rfl rfl ?_
  refine t_l fX7_init_4 rfl rfl rfl rfl ?_
  refine t_l fX7_init_5 rfl rfl rfl rfl ?_
  refine t_s fX7_init_6 rfl rfl rfl ?_
  obtain ⟨g2, h⟩ := gd_some h
  refine kcM_max fX7_init_7 rfl (eM_max g2 ⟨by decide, by decide⟩) (by decide) ?_
  obtain ⟨g3, h⟩ := gd_some h
  refine k9_na (q := (max x1 0).toNat) fX7_init_10 (by omega) (by omega) ?_
  replace h := lt_some h
  replace h := lt_some h
  obtain ⟨⟨f6, f7⟩, h⟩ := gd_some h
  refine k9_pr fX7_init_12 (f6) kp_7_0 ?_
  replace h := lt_some h
  refine t_ret fX7_init_15 rX7_init ?_
  exact qfw_v h

theorem q_X3_init {X : mX} {r0 : Nat} {W W' : mW} {v : Int} (h : F_X3_init r0 W = some (W', v)) : Rn (X) (2) 33 [.ref r0] W.1 W.2.1 W.2.2.1 W.2.2.2 W'.1 W'.2.1 W'.2.2.1 W'.2.2.2 none := by
  refine qwv_toR (v := v) (L := [some (.ref r0)]) rfl ?_
  unfold F_X3_init at h
  obtain ⟨f1, h⟩ := gd_some h
  refine t_l fX3_init_0 rfl rfl rfl rfl ?_
  refine t_s fX3_init_1 rfl rfl rfl ?_
  refine t_l fX3_init_4 rfl rfl rfl rfl ?_
  refine k9_new fX3_init_5 (by decide) ?_
  replace h := lt_some h
  replace h := lt_some h
  obtain ⟨⟨f4, f5⟩, h⟩ := gd_some h
  refine t_s fX3_init_8 rfl rfl rfl ?_
  refine t_s fX3_init_9 rfl rfl rfl ?_
  obtain ⟨W6, v7, e8, h⟩ := bd_some h
  refine kcX7_init fX3_init_12 rfl (q_X7_init e8) (by decide) ?_
  obtain ⟨⟨f9, f10⟩, h⟩ := gd_some h
  refine k9_pr fX3_init_15 (f9) kp_3_0 ?_
  replace h := lt_some h
  refine t_l fX3_init_18 rfl rfl rfl rfl ?_
  refine k9_new fX3_init_19 (by decide) ?_
  replace h := lt_some h
  replace h := lt_some h
  obtain ⟨⟨f14, f15⟩, h⟩ := gd_some h
  refine t_s fX3_init_22 rfl rfl rfl ?_
  refine t_s fX3_init_23 rfl rfl rfl ?_
  obtain ⟨W16, v17, e18, h⟩ := bd_some h
  refine kcX7_init fX3_init_25 rfl (q_X7_init e18) (by decide) ?_
  obtain ⟨⟨f19, f20⟩, h⟩ := gd_some h
  refine k9_pr fX3_init_28 (f19) kp_3_1 ?_
  replace h := lt_some h
  refine t_l fX3_init_31 rfl rfl rfl rfl ?_
  obtain ⟨⟨f22, f23⟩, h⟩ := gd_some h
  refine k9_gr fX3_init_32 (f19) kg_3_1 f22 ?_
  refine t_s fX3_init_35 rfl rfl rfl ?_
  refine t_s fX3_init_37 rfl rfl rfl ?_
  obtain ⟨V24, v25, e26, h⟩ := bd_some h
  refine kcX7_fill fX3_init_38 (f23).1 rfl (q_X7_fill (f23) e26) (by decide) ?_
  refine t_ret fX3_init_41 rX3_init ?_
  exact qfw_v h

theorem q_X0_init {X : mX} {r0 : Nat} {W W' : mW} {v : Int} (h : F_X0_init r0 W = some (W', v)) : Rn (X) (2) 0 [.ref r0] W.1 W.2.1 W.2.2.1 W.2.2.2 W'.1 W'.2.1 W'.2.2.1 W'.2.2.2 none := by
  refine qwv_toR (v := v) (L := [some (.ref r0)]) rfl ?_
  unfold F_X0_init at h
  obtain ⟨f1, h⟩ := gd_some h
  refine t_l fX0_init_0 rfl rfl rfl rfl ?_
  refine t_s fX0_init_1 rfl rfl rfl ?_
  refine t_l fX0_init_4 rfl rfl rfl rfl ?_
  refine k9_new fX0_init_5 (by decide) ?_
  replace h := lt_some h
  replace h := lt_some h
  obtain ⟨⟨f4, f5⟩, h⟩ := gd_some h
  refine t_s fX0_init_8 rfl rfl rfl ?_
  refine t_s fX0_init_9 rfl rfl rfl ?_
  obtain ⟨W6, v7, e8, h⟩ := bd_some h
  refine kcX7_init fX0_init_11 rfl (q_X7_init e8) (by decide) ?_
  obtain ⟨⟨f9, f10⟩, h⟩ := gd_some h
  refine k9_pr fX0_init_14 (f9) kp_0_0 ?_
  replace h := lt_some h
  refine t_l fX0_init_17 rfl rfl rfl rfl ?_
  refine k9_new fX0_init_18 (by decide) ?_
  replace h := lt_some h
  replace h := lt_some h
  obtain ⟨⟨f14, f15⟩, h⟩ := gd_some h
  refine t_s fX0_init_21 rfl rfl rfl ?_
  refine t_s fX0_init_22 rfl rfl rfl ?_
  obtain ⟨W16, v17, e18, h⟩ := bd_some h
  refine kcX7_init fX0_init_25 rfl (q_X7_init e18) (by decide) ?_
  obtain ⟨⟨f19, f20⟩, h⟩ := gd_some h
  refine k9_pr fX0_init_28 (f19) kp_0_1 ?_
  replace h := lt_some h
  refine t_l fX0_init_31 rfl rfl rfl rfl ?_
  refine k9_new fX0_init_32 (by decide) ?_
  replace h := lt_some h
  replace h := lt_some h
  obtain ⟨⟨f24, f25⟩, h⟩ := gd_some h
  refine t_s fX0_init_35 rfl rfl rfl ?_
  refine t_s fX0_init_36 rfl rfl rfl ?_
  obtain ⟨W26, v27, e28, h⟩ := bd_some h
  refine kcX7_init fX0_init_38 rfl (q_X7_init e28) (by decide) ?_
  obtain ⟨⟨f29, f30⟩, h⟩ := gd_some h
  refine k9_pr fX0_init_41 (f29) kp_0_2 ?_
  replace h := lt_some h
  refine t_ret fX0_init_44 rX0_init ?_
  exact qfw_v h

theorem q_X1_init {X : mX} {r0 : Nat} {W W' : mW} {v : Int} (h : F_X1_init r0 W = some (W', v)) : Rn (X) (3) 8 [.ref r0] W.1 W.2.1 W.2.2.1 W.2.2.2 W'.1 W'.2.1 W'.2.2.1 W'.2.2.2 none := by
  refine qwv_toR (v := v) (L := [some (.ref r0)]) rfl ?_
  unfold F_X1_init at h
  obtain ⟨f1, h⟩ := gd_some h
  refine t_l fX1_init_0 rfl rfl rfl rfl ?_
  refine t_s fX1_init_1 rfl rfl rfl ?_
  refine t_l fX1_init_4 rfl rfl rfl rfl ?_
  refine k9_new fX1_init_5 (by decide) ?_
  replace h := lt_some h
  replace h := lt_some h
  obtain ⟨⟨f4, f5⟩, h⟩ := gd_some h
  refine t_s fX1_init_8 rfl rfl rfl ?_
  refine t_s fX1_init_9 rfl rfl rfl ?_
  obtain ⟨W6, v7, e8, h⟩ := bd_some h
  refine kcX7_init fX1_init_11 rfl (q_X7_init e8) (by decide) ?_
  obtain ⟨⟨f9, f10⟩, h⟩ := gd_some h
  refine k9_pr fX1_init_14 (f9) kp_1_0 ?_
  replace h := lt_some h
  refine t_l fX1_init_17 rfl rfl rfl rfl ?_
  refine k9_new fX1_init_18 (by decide) ?_
  replace h := lt_some h
  replace h := lt_some h
  obtain ⟨⟨f14, f15⟩, h⟩ := gd_some h
  refine t_s fX1_init_21 rfl rfl rfl ?_
  refine t_s fX1_init_22 rfl rfl rfl ?_
  obtain ⟨W16, v17, e18, h⟩ := bd_some h
  refine kcX7_init fX1_init_24 rfl (q_X7_init e18) (by decide) ?_
  obtain ⟨⟨f19, f20⟩, h⟩ := gd_some h
  refine k9_pr fX1_init_27 (f19) kp_1_1 ?_
  replace h := lt_some h
  refine t_l fX1_init_30 rfl rfl rfl rfl ?_
  refine k9_new fX1_init_31 (by decide) ?_
  replace h := lt_some h
  replace h := lt_some h
  obtain ⟨⟨f24, f25⟩, h⟩ := gd_some h
  refine t_s fX1_init_34 rfl rfl rfl ?_
  refine t_s fX1_init_35 rfl rfl rfl ?_
  obtain ⟨W26, v27, e28, h⟩ := bd_some h
  refine kcX7_init fX1_init_37 rfl (q_X7_init e28) (by decide) ?_
  obtain ⟨⟨f29, f30⟩, h⟩ := gd_some h
  refine k9_pr fX1_init_40 (f29) kp_1_2 ?_
  replace h := lt_some h
  refine t_l fX1_init_43 rfl rfl rfl rfl ?_
  refine k9_new fX1_init_44 (by decide) ?_
  replace h := lt_some h
  replace h := lt_some h
  obtain ⟨⟨f34, f35⟩, h⟩ := gd_some h
  refine t_s fX1_init_47 rfl rfl rfl ?_
  refine t_s fX1_init_48 rfl rfl rfl ?_
  obtain ⟨W36, v37, e38, h⟩ := bd_some h
  refine kcX7_init fX1_init_50 rfl (q_X7_init e38) (by decide) ?_
  obtain ⟨⟨f39, f40⟩, h⟩ := gd_some h
  refine k9_pr fX1_init_53 (f39) kp_1_3 ?_
  replace h := lt_some h
  refine t_l fX1_init_56 rfl rfl rfl rfl ?_
  refine k9_new fX1_init_57 (by decide) ?_
  replace h := lt_some h
  replace h := lt_some h
  obtain ⟨⟨f44, f45⟩, h⟩ := gd_some h
  refine t_s fX1_init_60 rfl rfl rfl ?_
  refine t_s fX1_init_61 rfl rfl rfl ?_
  obtain ⟨W46, v47, e48, h⟩ := bd_some h
  refine kcX7_init fX1_init_63 rfl (q_X7_init e48) (by decide) ?_
  obtain ⟨⟨f49, f50⟩, h⟩ := gd_some h
  refine k9_pr fX1_init_66 (f49) kp_1_4 ?_
  replace h := lt_some h
  refine t_l fX1_init_69 rfl rfl rfl rfl ?_
  refine k9_new fX1_init_70 (by decide) ?_
  replace h := lt_some h
  replace h := lt_some h
  obtain ⟨⟨f54, f55⟩, h⟩ := gd_some h
  refine t_s fX1_init_73 rfl rfl rfl ?_
  refine t_s fX1_init_74 rfl rfl rfl ?_
  obtain ⟨W56, v57, e58, h⟩ := bd_some h
  refine kcX7_init fX1_init_76 rfl (q_X7_init e58) (by decide) ?_
  obtain ⟨⟨f59, f60⟩, h⟩ := gd_some h
  refine k9_pr fX1_init_79 (f59) kp_1_5 ?_
  replace h := lt_some h
  refine t_l fX1_init_82 rfl rfl rfl rfl ?_
  refine k9_new fX1_init_83 (by decide) ?_
  replace h := lt_some h
  replace h := lt_some h
  obtain ⟨⟨f64, f65⟩, h⟩ := gd_some h
  refine t_s fX1_init_86 rfl rfl rfl ?_
  refine t_s fX1_init_87 rfl rfl rfl ?_
  obtain ⟨W66, v67, e68, h⟩ := bd_some h
  refine kcX7_init fX1_init_89 rfl (q_X7_init e68) (by decide) ?_
  obtain ⟨⟨f69, f70⟩, h⟩ := gd_some h
  refine k9_pr fX1_init_92 (f69) kp_1_6 ?_
  replace h := lt_some h
  refine t_l fX1_init_95 rfl rfl rfl rfl ?_
  refine k9_new fX1_init_96 (by decide) ?_
  replace h := lt_some h
  replace h := lt_some h
  obtain ⟨⟨f74, f75⟩, h⟩ := gd_some h
  refine t_s fX1_init_99 rfl rfl rfl ?_
  refine t_s fX1_init_100 rfl rfl rfl ?_
  obtain ⟨W76, v77, e78, h⟩ := bd_some h
  refine kcX7_init fX1_init_102 rfl (q_X7_init e78) (by decide) ?_
  obtain ⟨⟨f79, f80⟩, h⟩ := gd_some h
  refine k9_pr fX1_init_105 (f79) kp_1_7 ?_
  replace h := lt_some h
  refine t_l fX1_init_108 rfl rfl rfl rfl ?_
  refine k9_new fX1_init_109 (by decide) ?_
  replace h := lt_some h
  replace h := lt_some h
  obtain ⟨⟨f84, f85⟩, h⟩ := gd_some h
  refine t_s fX1_init_112 rfl rfl rfl ?_
  refine t_s fX1_init_113 rfl rfl rfl ?_
  obtain ⟨W86, v87, e88, h⟩ := bd_some h
  refine kcX7_init fX1_init_115 rfl (q_X7_init e88) (by decide) ?_
  obtain ⟨⟨f89, f90⟩, h⟩ := gd_some h
  refine k9_pr fX1_init_118 (f89) kp_1_8 ?_
  replace h := lt_some h
  refine t_l fX1_init_121 rfl rfl rfl rfl ?_
  refine k9_new fX1_init_122 (by decide) ?_
  replace h := lt_some h
  replace h := lt_some h
  obtain ⟨⟨f94, f95⟩, h⟩ := gd_some h
  refine t_s fX1_init_125 rfl rfl rfl ?_
  refine t_s fX1_init_126 rfl rfl rfl ?_
  obtain ⟨W96, v97, e98, h⟩ := bd_some h
  refine kcX7_init fX1_init_128 rfl (q_X7_init e98) (by decide) ?_
  obtain ⟨⟨f99, f100⟩, h⟩ := gd_some h
  refine k9_pr fX1_init_131 (f99) kp_1_9 ?_
  replace h := lt_some h
  refine t_l fX1_init_134 rfl rfl rfl rfl ?_
  refine k9_new fX1_init_135 (by decide) ?_
  replace h := lt_some h
  replace h := lt_some h
  obtain ⟨⟨f104, f105⟩, h⟩ := gd_some h
  refine t_s fX1_init_138 rfl rfl rfl ?_
  obtain ⟨W106, v107, e108, h⟩ := bd_some h
  refine kcX3_init fX1_init_139 rfl (q_X3_init e108) (by decide) ?_
  obtain ⟨⟨f109, f110⟩, h⟩ := gd_some h
  refine k9_pr fX1_init_142 (f109) kp_1_10 ?_
  replace h := lt_some h
  refine t_l fX1_init_145 rfl rfl rfl rfl ?_
  refine k9_new fX1_init_146 (by decide) ?_
  replace h := lt_some h
  replace h := lt_some h
  obtain ⟨⟨f114, f115⟩, h⟩ := gd_some h
  refine t_s fX1_init_149 rfl rfl rfl ?_
  obtain ⟨W116, v117, e118, h⟩ := bd_some h
  refine kcX3_init fX1_init_150 rfl (q_X3_init e118) (by decide) ?_
  obtain ⟨⟨f119, f120⟩, h⟩ := gd_some h
  refine k9_pr fX1_init_153 (f119) kp_1_11 ?_
  replace h := lt_some h
  refine t_l fX1_init_156 rfl rfl rfl rfl ?_
  refine k9_new fX1_init_157 (by decide) ?_
  replace h := lt_some h
  replace h := lt_some h
  obtain ⟨⟨f124, f125⟩, h⟩ := gd_some h
  refine t_s fX1_init_160 rfl rfl rfl ?_
  obtain ⟨W126, v127, e128, h⟩ := bd_some h
  refine kcX3_init fX1_init_161 rfl (q_X3_init e128) (by decide) ?_
  obtain ⟨⟨f129, f130⟩, h⟩ := gd_some h
  refine k9_pr fX1_init_164 (f129) kp_1_12 ?_
  replace h := lt_some h
  refine t_l fX1_init_167 rfl rfl rfl rfl ?_
  refine k9_new fX1_init_168 (by decide) ?_
  replace h := lt_some h
  replace h := lt_some h
  obtain ⟨⟨f134, f135⟩, h⟩ := gd_some h
  refine t_s fX1_init_171 rfl rfl rfl ?_
  obtain ⟨W136, v137, e138, h⟩ := bd_some h
  refine kcX3_init fX1_init_172 rfl (q_X3_init e138) (by decide) ?_
  obtain ⟨⟨f139, f140⟩, h⟩ := gd_some h
  refine k9_pr fX1_init_175 (f139) kp_1_13 ?_
  replace h := lt_some h
  refine t_ret fX1_init_178 rX1_init ?_
  exact qfw_v h

theorem q_X2_init {X : mX} {r0 : Nat} {W W' : mW} {v : Int} (h : F_X2_init r0 W = some (W', v)) : Rn (X) (2) 16 [.ref r0] W.1 W.2.1 W.2.2.1 W.2.2.2 W'.1 W'.2.1 W'.2.2.1 W'.2.2.2 none := by
  refine qwv_toR (v := v) (L := [some (.ref r0)]) rfl ?_
  unfold F_X2_init at h
  obtain ⟨f1, h⟩ := gd_some h
  refine t_l fX2_init_0 rfl rfl rfl rfl ?_
  refine t_s fX2_init_1 rfl rfl rfl ?_
  refine t_l fX2_init_4 rfl rfl rfl rfl ?_
  refine k9_new fX2_init_5 (by decide) ?_
  replace h := lt_some h
  replace h := lt_some h
  obtain ⟨⟨f4, f5⟩, h⟩ := gd_some h
  refine t_s fX2_init_8 rfl rfl rfl ?_
  refine t_s fX2_init_9 rfl rfl rfl ?_
  obtain ⟨W6, v7, e8, h⟩ := bd_some h
  refine kcX7_init fX2_init_11 rfl (q_X7_init e8) (by decide) ?_
  obtain ⟨⟨f9, f10⟩, h⟩ := gd_some h
  refine k9_pr fX2_init_14 (f9) kp_2_0 ?_
  replace h := lt_some h
  refine t_l fX2_init_17 rfl rfl rfl rfl ?_
  refine k9_new fX2_init_18 (by decide) ?_
  replace h := lt_some h
  replace h := lt_some h
  obtain ⟨⟨f14, f15⟩, h⟩ := gd_some h
  refine t_s fX2_init_21 rfl rfl rfl ?_
  refine t_s fX2_init_22 rfl rfl rfl ?_
  obtain ⟨W16, v17, e18, h⟩ := bd_some h
  refine kcX7_init fX2_init_24 rfl (q_X7_init e18) (by decide) ?_
  obtain ⟨⟨f19, f20⟩, h⟩ := gd_some h
  refine k9_pr fX2_init_27 (f19) kp_2_1 ?_
  replace h := lt_some h
  refine t_l fX2_init_30 rfl rfl rfl rfl ?_
  refine t_s fX2_init_31 rfl rfl rfl ?_
  refine k9_pi fX2_init_32 (f19) kp_2_2 ?_
  replace h := lt_some h
  refine t_l fX2_init_35 rfl rfl rfl rfl ?_
  refine k9_new fX2_init_36 (by decide) ?_
  replace h := lt_some h
  replace h := lt_some h
  obtain ⟨⟨f25, f26⟩, h⟩ := gd_some h
  refine t_s fX2_init_39 rfl rfl rfl ?_
  refine t_s fX2_init_40 rfl rfl rfl ?_
  obtain ⟨W27, v28, e29, h⟩ := bd_some h
  refine kcX7_init fX2_init_41 rfl (q_X7_init e29) (by decide) ?_
  obtain ⟨⟨f30, f31⟩, h⟩ := gd_some h
  refine k9_pr fX2_init_44 (f30) kp_2_3 ?_
  replace h := lt_some h
  refine t_l fX2_init_47 rfl rfl rfl rfl ?_
  refine k9_new fX2_init_48 (by decide) ?_
  replace h := lt_some h
  replace h := lt_some h
  obtain ⟨⟨f35, f36⟩, h⟩ := gd_some h
  refine t_s fX2_init_51 rfl rfl rfl ?_
  refine t_s fX2_init_52 rfl rfl rfl ?_
  obtain ⟨W37, v38, e39, h⟩ := bd_some h
  refine kcX7_init fX2_init_53 rfl (q_X7_init e39) (by decide) ?_
  obtain ⟨⟨f40, f41⟩, h⟩ := gd_some h
  refine k9_pr fX2_init_56 (f40) kp_2_4 ?_
  replace h := lt_some h
  refine t_l fX2_init_59 rfl rfl rfl rfl ?_
  refine k9_new fX2_init_60 (by decide) ?_
  replace h := lt_some h
  replace h := lt_some h
  obtain ⟨⟨f45, f46⟩, h⟩ := gd_some h
  refine t_s fX2_init_63 rfl rfl rfl ?_
  refine t_s fX2_init_64 rfl rfl rfl ?_
  obtain ⟨W47, v48, e49, h⟩ := bd_some h
  refine kcX7_init fX2_init_66 rfl (q_X7_init e49) (by decide) ?_
  obtain ⟨⟨f50, f51⟩, h⟩ := gd_some h
  refine k9_pr fX2_init_69 (f50) kp_2_5 ?_
  replace h := lt_some h
  refine t_l fX2_init_72 rfl rfl rfl rfl ?_
  obtain ⟨⟨f53, f54⟩, h⟩ := gd_some h
  refine k9_gr fX2_init_73 (f50) kg_2_0 f53 ?_
  refine t_s fX2_init_76 rfl rfl rfl ?_
  refine t_s fX2_init_78 rfl rfl rfl ?_
  obtain ⟨V55, v56, e57, h⟩ := bd_some h
  refine kcX7_fill fX2_init_79 (f54).1 rfl (q_X7_fill (f54) e57) (by decide) ?_
  refine t_ret fX2_init_82 rX2_init ?_
  exact qfw_v h

theorem q_X4_init {X : mX} {r0 : Nat} {W W' : mW} {v : Int} (h : F_X4_init r0 W = some (W', v)) : Rn (X) (2) 41 [.ref r0] W.1 W.2.1 W.2.2.1 W.2.2.2 W'.1 W'.2.1 W'.2.2.1 W'.2.2.2 none := by
  refine qwv_toR (v := v) (L := [some (.ref r0)]) rfl ?_
  unfold F_X4_init at h
  obtain ⟨f1, h⟩ := gd_some h
  refine t_l fX4_init_0 rfl rfl rfl rfl ?_
  refine t_s fX4_init_1 rfl rfl rfl ?_
  refine t_l fX4_init_4 rfl rfl rfl rfl ?_
  refine k9_new fX4_init_5 (by decide) ?_
  replace h := lt_some h
  replace h := lt_some h
  obtain ⟨⟨f4, f5⟩, h⟩ := gd_some h
  refine t_s fX4_init_8 rfl rfl rfl ?_
  refine t_s fX4_init_9 rfl rfl rfl ?_
  obtain ⟨W6, v7, e8, h⟩ := bd_some h
  refine kcX7_init fX4_init_11 rfl (q_X7_init e8) (by decide) ?_
  obtain ⟨⟨f9, f10⟩, h⟩ := gd_some h
  refine k9_pr fX4_init_14 (f9) kp_4_1 ?_
  replace h := lt_some h
  refine t_l fX4_init_17 rfl rfl rfl rfl ?_
  refine k9_new fX4_init_18 (by decide) ?_
  replace h := lt_some h
  replace h := lt_some h
  obtain ⟨⟨f14, f15⟩, h⟩ := gd_some h
  refine t_s fX4_init_21 rfl rfl rfl ?_
  refine t_s fX4_init_22 rfl rfl rfl ?_
  obtain ⟨W16, v17, e18, h⟩ := bd_some h
  refine kcX7_init fX4_init_24 rfl (q_X7_init e18) (by decide) ?_
  obtain ⟨⟨f19, f20⟩, h⟩ := gd_some h
  refine k9_pr fX4_init_27 (f19) kp_4_2 ?_
  replace h := lt_some h
  refine t_l fX4_init_30 rfl rfl rfl rfl ?_
  refine k9_new fX4_init_31 (by decide) ?_
  replace h := lt_some h
  replace h := lt_some h
  obtain ⟨⟨f24, f25⟩, h⟩ := gd_some h
  refine t_s fX4_init_34 rfl rfl rfl ?_
  refine t_s fX4_init_35 rfl rfl rfl ?_
  obtain ⟨W26, v27, e28, h⟩ := bd_some h
  refine kcX7_init fX4_init_37 rfl (q_X7_init e28) (by decide) ?_
  obtain ⟨⟨f29, f30⟩, h⟩ := gd_some h
  refine k9_pr fX4_init_40 (f29) kp_4_3 ?_
  replace h := lt_some h
  refine t_l fX4_init_43 rfl rfl rfl rfl ?_
  refine k9_new fX4_init_44 (by decide) ?_
  replace h := lt_some h
  replace h := lt_some h
  obtain ⟨⟨f34, f35⟩, h⟩ := gd_some h
  refine t_s fX4_init_47 rfl rfl rfl ?_
  refine t_s fX4_init_48 rfl rfl rfl ?_
  obtain ⟨W36, v37, e38, h⟩ := bd_some h
  refine kcX7_init fX4_init_51 rfl (q_X7_init e38) (by decide) ?_
  obtain ⟨⟨f39, f40⟩, h⟩ := gd_some h
  refine k9_pr fX4_init_54 (f39) kp_4_4 ?_
  replace h := lt_some h
  refine t_ret fX4_init_57 rX4_init ?_
  exact qfw_v h

theorem tb_X5_init_15 {X : mX} {r0 : Nat} {x1 : Int} {W W' : mW} {q : Nat × Int} {Q : Nat → Nat → mG → mV → Option Value → Prop} (h0 : q.1 = 0 → T (X) (3) 50 15 [some (.ref r0), some (.int (iI q.2))] [] W'.1 W'.2.1 W'.2.2.1 W'.2.2.2 Q) (h1 : q.1 = 1 → T (X) (3) 50 43 [some (.ref r0), some (.int (iI q.2))] [] W'.1 W'.2.1 W'.2.2.1 W'.2.2.2 Q) (h : B_X5_init_15 r0 x1 W = some (W', q)) : T (X) (3) 50 15 [some (.ref r0), some (.int (iI x1))] [] W.1 W.2.1 W.2.2.1 W.2.2.2 Q := by
  unfold B_X5_init_15 at h
  obtain ⟨f6, h⟩ := gd_some h
  refine t_l fX5_init_15 rfl rfl rfl rfl ?_
  refine t_l fX5_init_16 rfl rfl rfl rfl ?_
  obtain ⟨⟨f7, f8⟩, h⟩ := gd_some h
  refine k9_gr fX5_init_17 (f6) kg_5_0 f7 ?_
  refine k9_len fX5_init_20 (f8) (by decide) ?_
  obtain ⟨g10, h⟩ := gd_some h
  obtain ⟨g11, h⟩ := gd_some h
  refine k9_ic_ge fX5_init_21 rfl g10 g11 (fun c9 => ?_) (fun c9 => ?_)
  · replace h := ite_t (c9) h
    cases h
    exact h1 rfl
  · replace h := ite_f (c9) h
    refine t_l fX5_init_24 rfl rfl rfl rfl ?_
    obtain ⟨⟨f12, f13⟩, h⟩ := gd_some h
    refine k9_gr fX5_init_25 (f6) kg_5_0 f12 ?_
    refine t_l fX5_init_28 rfl rfl rfl rfl ?_
    refine k9_new fX5_init_29 (by decide) ?_
    replace h := lt_some h
    replace h := lt_some h
    obtain ⟨⟨f16, f17, f18⟩, h⟩ := gd_some h
    refine t_s fX5_init_32 rfl rfl rfl ?_
    obtain ⟨W19, v20, e21, h⟩ := bd_some h
    refine kcX4_init fX5_init_33 rfl (q_X4_init e21) (by decide) ?_
    obtain ⟨⟨f22, f23, f24⟩, h⟩ := gd_some h
    obtain ⟨g25, h⟩ := gd_some h
    refine k8_aas fX5_init_36 (f23) (f24).1 g25.1 g25.2.1 g25.2.2 ?_
    replace h := lt_some h
    replace h := lt_some h
    refine k9_iinc fX5_init_37 rfl (Nat.le_of_ble_eq_true rfl) rfl ?_
    refine k9_goto fX5_init_40 rfl ?_
    cases h
    exact h0 rfl

theorem tl_X5_init_15 {X : mX} {r0 : Nat} {x1 : Int} {W W' : mW} {fu : Nat} {q : Nat × Int} {Q : Nat → Nat → mG → mV → Option Value → Prop} (k1 : q.1 = 1 → T (X) (3) 50 43 [some (.ref r0), some (.int (iI q.2))] [] W'.1 W'.2.1 W'.2.2.1 W'.2.2.2 Q) (h : lp (fun (s : Int) (Z : mW) => B_X5_init_15 r0 s Z) fu x1 W = some (W', q)) : T (X) (3) 50 15 [some (.ref r0), some (.int (iI x1))] [] W.1 W.2.1 W.2.2.1 W.2.2.2 Q :=
  lp_go (P0 := fun s W => T (X) (3) 50 15 [some (.ref r0), some (.int (iI s))] [] W.1 W.2.1 W.2.2.1 W.2.2.2 Q) (PE := fun t s W => (t = 1 → T (X) (3) 50 43 [some (.ref r0), some (.int (iI s))] [] W.1 W.2.1 W.2.2.1 W.2.2.2 Q)) (fun s W W' q hb h0 h1 => tb_X5_init_15 h0 (fun e => (h1 (by omega)) e) hb) fu x1 W W' q h k1

theorem q_X5_init {X : mX} {r0 : Nat} {W W' : mW} {v : Int} (h : F_X5_init r0 W = some (W', v)) : Rn (X) (3) 50 [.ref r0] W.1 W.2.1 W.2.2.1 W.2.2.2 W'.1 W'.2.1 W'.2.2.1 W'.2.2.2 none := by
  refine qwv_toR (v := v) (L := [some (.ref r0), none]) rfl ?_
  unfold F_X5_init at h
  obtain ⟨f1, h⟩ := gd_some h
  refine t_l fX5_init_0 rfl rfl rfl rfl ?_
  refine t_s fX5_init_1 rfl rfl rfl ?_
  refine t_l fX5_init_4 rfl rfl rfl rfl ?_
  refine t_s fX5_init_5 rfl rfl rfl ?_
  refine k8_anew fX5_init_7 ?_
  replace h := lt_some h
  obtain ⟨⟨f3, f4⟩, h⟩ := gd_some h
  refine k9_pr fX5_init_10 (f3) kp_5_0 ?_
  replace h := lt_some h
  refine t_s fX5_init_13 rfl rfl rfl ?_
  refine t_l fX5_init_14 rfl rfl rfl rfl ?_
  obtain ⟨W28, u29, e30, h⟩ := bd_some h
  refine tl_X5_init_15 (fun e31 => ?_) e30
  obtain ⟨f32, h⟩ := gd_some h
  refine t_ret fX5_init_43 rX5_init ?_
  exact qfw_v h

theorem q_X6_init {X : mX} {r0 : Nat} {W W' : mW} {v : Int} (h : F_X6_init r0 W = some (W', v)) : Rn (X) (5) 56 [.ref r0] W.1 W.2.1 W.2.2.1 W.2.2.2 W'.1 W'.2.1 W'.2.2.1 W'.2.2.2 none := by
  refine qwv_toR (v := v) (L := [some (.ref r0)]) rfl ?_
  unfold F_X6_init at h
  obtain ⟨f1, h⟩ := gd_some h
  refine t_l fX6_init_0 rfl rfl rfl rfl ?_
  refine t_s fX6_init_1 rfl rfl rfl ?_
  refine t_l fX6_init_4 rfl rfl rfl rfl ?_
  refine k9_new fX6_init_5 (by decide) ?_
  replace h := lt_some h
  replace h := lt_some h
  obtain ⟨⟨f4, f5⟩, h⟩ := gd_some h
  refine t_s fX6_init_8 rfl rfl rfl ?_
  refine t_s fX6_init_9 rfl rfl rfl ?_
  obtain ⟨W6, v7, e8, h⟩ := bd_some h
  refine kcX7_init fX6_init_12 rfl (q_X7_init e8) (by decide) ?_
  obtain ⟨⟨f9, f10⟩, h⟩ := gd_some h
  refine k9_pr fX6_init_15 (f9) kp_6_0 ?_
  replace h := lt_some h
  refine t_l fX6_init_18 rfl rfl rfl rfl ?_
  refine k9_new fX6_init_19 (by decide) ?_
  replace h := lt_some h
  replace h := lt_some h
  obtain ⟨⟨f14, f15⟩, h⟩ := gd_some h
  refine t_s fX6_init_22 rfl rfl rfl ?_
  refine t_s fX6_init_23 rfl rfl rfl ?_
  obtain ⟨W16, v17, e18, h⟩ := bd_some h
  refine kcX7_init fX6_init_26 rfl (q_X7_init e18) (by decide) ?_
  obtain ⟨⟨f19, f20⟩, h⟩ := gd_some h
  refine k9_pr fX6_init_29 (f19) kp_6_1 ?_
  replace h := lt_some h
  refine t_l fX6_init_32 rfl rfl rfl rfl ?_
  refine k9_new fX6_init_33 (by decide) ?_
  replace h := lt_some h
  replace h := lt_some h
  obtain ⟨⟨f24, f25⟩, h⟩ := gd_some h
  refine t_s fX6_init_36 rfl rfl rfl ?_
  refine t_s fX6_init_37 rfl rfl rfl ?_
  obtain ⟨W26, v27, e28, h⟩ := bd_some h
  refine kcX7_init fX6_init_40 rfl (q_X7_init e28) (by decide) ?_
  obtain ⟨⟨f29, f30⟩, h⟩ := gd_some h
  refine k9_pr fX6_init_43 (f29) kp_6_2 ?_
  replace h := lt_some h
  refine t_l fX6_init_46 rfl rfl rfl rfl ?_
  refine k9_new fX6_init_47 (by decide) ?_
  replace h := lt_some h
  replace h := lt_some h
  obtain ⟨⟨f34, f35⟩, h⟩ := gd_some h
  refine t_s fX6_init_50 rfl rfl rfl ?_
  refine t_s fX6_init_51 rfl rfl rfl ?_
  obtain ⟨W36, v37, e38, h⟩ := bd_some h
  refine kcX7_init fX6_init_54 rfl (q_X7_init e38) (by decide) ?_
  obtain ⟨⟨f39, f40⟩, h⟩ := gd_some h
  refine k9_pr fX6_init_57 (f39) kp_6_3 ?_
  replace h := lt_some h
  refine t_l fX6_init_60 rfl rfl rfl rfl ?_
  refine k9_new fX6_init_61 (by decide) ?_
  replace h := lt_some h
  replace h := lt_some h
  obtain ⟨⟨f44, f45⟩, h⟩ := gd_some h
  refine t_s fX6_init_64 rfl rfl rfl ?_
  refine t_s fX6_init_65 rfl rfl rfl ?_
  obtain ⟨W46, v47, e48, h⟩ := bd_some h
  refine kcX7_init fX6_init_68 rfl (q_X7_init e48) (by decide) ?_
  obtain ⟨⟨f49, f50⟩, h⟩ := gd_some h
  refine k9_pr fX6_init_71 (f49) kp_6_4 ?_
  replace h := lt_some h
  refine t_l fX6_init_74 rfl rfl rfl rfl ?_
  refine k9_new fX6_init_75 (by decide) ?_
  replace h := lt_some h
  replace h := lt_some h
  obtain ⟨⟨f54, f55⟩, h⟩ := gd_some h
  refine t_s fX6_init_78 rfl rfl rfl ?_
  refine t_s fX6_init_79 rfl rfl rfl ?_
  obtain ⟨W56, v57, e58, h⟩ := bd_some h
  refine kcX7_init fX6_init_81 rfl (q_X7_init e58) (by decide) ?_
  obtain ⟨⟨f59, f60⟩, h⟩ := gd_some h
  refine k9_pr fX6_init_84 (f59) kp_6_5 ?_
  replace h := lt_some h
  refine t_l fX6_init_87 rfl rfl rfl rfl ?_
  refine k9_new fX6_init_88 (by decide) ?_
  replace h := lt_some h
  replace h := lt_some h
  obtain ⟨⟨f64, f65⟩, h⟩ := gd_some h
  refine t_s fX6_init_91 rfl rfl rfl ?_
  obtain ⟨W66, v67, e68, h⟩ := bd_some h
  refine kcX3_init fX6_init_92 rfl (q_X3_init e68) (by decide) ?_
  obtain ⟨⟨f69, f70⟩, h⟩ := gd_some h
  refine k9_pr fX6_init_95 (f69) kp_6_7 ?_
  replace h := lt_some h
  refine t_l fX6_init_98 rfl rfl rfl rfl ?_
  refine t_l fX6_init_99 rfl rfl rfl rfl ?_
  obtain ⟨⟨f72, f73⟩, h⟩ := gd_some h
  refine k9_gr fX6_init_100 (f69) kg_6_7 f72 ?_
  refine k9_pr fX6_init_103 (f69) kp_6_9 ?_
  replace h := lt_some h
  refine t_l fX6_init_106 rfl rfl rfl rfl ?_
  refine t_s fX6_init_107 rfl rfl rfl ?_
  refine k9_pi fX6_init_108 (f69) kp_6_12 ?_
  replace h := lt_some h
  refine t_l fX6_init_111 rfl rfl rfl rfl ?_
  refine t_s fX6_init_112 rfl rfl rfl ?_
  obtain ⟨f79, h⟩ := gd_some h
  obtain ⟨V76, v77, e78, h⟩ := bd_some h
  refine kcX6_addWords fX6_init_114 (f79).1 rfl rfl (q_X6_addWords (f79) (by decide) e78) (by decide) ?_
  refine t_l fX6_init_117 rfl rfl rfl rfl ?_
  refine t_s fX6_init_118 rfl rfl rfl ?_
  obtain ⟨f83, h⟩ := gd_some h
  obtain ⟨V80, v81, e82, h⟩ := bd_some h
  refine kcX6_addWords fX6_init_120 (f83).1 rfl rfl (q_X6_addWords (f83) (by decide) e82) (by decide) ?_
  refine t_ret fX6_init_123 rX6_init ?_
  exact qfw_v h

theorem q_X9_init {X : mX} {r0 : Nat} {W W' : mW} {v : Int} (h : F_X9_init r0 W = some (W', v)) : Rn (X) (6) 108 [.ref r0] W.1 W.2.1 W.2.2.1 W.2.2.2 W'.1 W'.2.1 W'.2.2.1 W'.2.2.2 none := by
  refine qwv_toR (v := v) (L := [some (.ref r0)]) rfl ?_
  unfold F_X9_init at h
  obtain ⟨f1, h⟩ := gd_some h
  refine t_l fX9_init_0 rfl rfl rfl rfl ?_
  refine t_s fX9_init_1 rfl rfl rfl ?_
  refine t_l fX9_init_4 rfl rfl rfl rfl ?_
  refine k9_new fX9_init_5 (by decide) ?_
  replace h := lt_some h
  replace h := lt_some h
  obtain ⟨⟨f4, f5⟩, h⟩ := gd_some h
  refine t_s fX9_init_8 rfl rfl rfl ?_
  refine t_s fX9_init_9 rfl rfl rfl ?_
  obtain ⟨W6, v7, e8, h⟩ := bd_some h
  refine kcX7_init fX9_init_12 rfl (q_X7_init e8) (by decide) ?_
  obtain ⟨⟨f9, f10⟩, h⟩ := gd_some h
  refine k9_pr fX9_init_15 (f9) kp_9_0 ?_
  replace h := lt_some h
  refine t_l fX9_init_18 rfl rfl rfl rfl ?_
  refine k9_new fX9_init_19 (by decide) ?_
  replace h := lt_some h
  replace h := lt_some h
  obtain ⟨⟨f14, f15⟩, h⟩ := gd_some h
  refine t_s fX9_init_22 rfl rfl rfl ?_
  refine t_s fX9_init_23 rfl rfl rfl ?_
  obtain ⟨W16, v17, e18, h⟩ := bd_some h
  refine kcX7_init fX9_init_25 rfl (q_X7_init e18) (by decide) ?_
  obtain ⟨⟨f19, f20⟩, h⟩ := gd_some h
  refine k9_pr fX9_init_28 (f19) kp_9_1 ?_
  replace h := lt_some h
  refine t_l fX9_init_31 rfl rfl rfl rfl ?_
  refine k9_new fX9_init_32 (by decide) ?_
  replace h := lt_some h
  replace h := lt_some h
  obtain ⟨⟨f24, f25⟩, h⟩ := gd_some h
  refine t_s fX9_init_35 rfl rfl rfl ?_
  refine t_s fX9_init_36 rfl rfl rfl ?_
  obtain ⟨W26, v27, e28, h⟩ := bd_some h
  refine kcX7_init fX9_init_38 rfl (q_X7_init e28) (by decide) ?_
  obtain ⟨⟨f29, f30⟩, h⟩ := gd_some h
  refine k9_pr fX9_init_41 (f29) kp_9_2 ?_
  replace h := lt_some h
  refine t_l fX9_init_44 rfl rfl rfl rfl ?_
  refine k9_new fX9_init_45 (by decide) ?_
  replace h := lt_some h
  replace h := lt_some h
  obtain ⟨⟨f34, f35⟩, h⟩ := gd_some h
  refine t_s fX9_init_48 rfl rfl rfl ?_
  refine t_s fX9_init_49 rfl rfl rfl ?_
  obtain ⟨W36, v37, e38, h⟩ := bd_some h
  refine kcX7_init fX9_init_51 rfl (q_X7_init e38) (by decide) ?_
  obtain ⟨⟨f39, f40⟩, h⟩ := gd_some h
  refine k9_pr fX9_init_54 (f39) kp_9_3 ?_
  replace h := lt_some h
  refine t_l fX9_init_57 rfl rfl rfl rfl ?_
  refine k9_new fX9_init_58 (by decide) ?_
  replace h := lt_some h
  replace h := lt_some h
  obtain ⟨⟨f44, f45⟩, h⟩ := gd_some h
  refine t_s fX9_init_61 rfl rfl rfl ?_
  obtain ⟨W46, v47, e48, h⟩ := bd_some h
  refine kcX6_init fX9_init_62 rfl (q_X6_init e48) (by decide) ?_
  obtain ⟨⟨f49, f50⟩, h⟩ := gd_some h
  refine k9_pr fX9_init_65 (f49) kp_9_4 ?_
  replace h := lt_some h
  refine t_l fX9_init_68 rfl rfl rfl rfl ?_
  refine k9_new fX9_init_69 (by decide) ?_
  replace h := lt_some h
  replace h := lt_some h
  obtain ⟨⟨f54, f55⟩, h⟩ := gd_some h
  refine t_s fX9_init_72 rfl rfl rfl ?_
  obtain ⟨W56, v57, e58, h⟩ := bd_some h
  refine kcX2_init fX9_init_73 rfl (q_X2_init e58) (by decide) ?_
  obtain ⟨⟨f59, f60⟩, h⟩ := gd_some h
  refine k9_pr fX9_init_76 (f59) kp_9_5 ?_
  replace h := lt_some h
  refine t_l fX9_init_79 rfl rfl rfl rfl ?_
  refine k9_new fX9_init_80 (by decide) ?_
  replace h := lt_some h
  replace h := lt_some h
  obtain ⟨⟨f64, f65⟩, h⟩ := gd_some h
  refine t_s fX9_init_83 rfl rfl rfl ?_
  obtain ⟨W66, v67, e68, h⟩ := bd_some h
  refine kcX0_init fX9_init_84 rfl (q_X0_init e68) (by decide) ?_
  obtain ⟨⟨f69, f70⟩, h⟩ := gd_some h
  refine k9_pr fX9_init_87 (f69) kp_9_6 ?_
  replace h := lt_some h
  refine t_l fX9_init_90 rfl rfl rfl rfl ?_
  refine k9_new fX9_init_91 (by decide) ?_
  replace h := lt_some h
  replace h := lt_some h
  obtain ⟨⟨f74, f75⟩, h⟩ := gd_some h
  refine t_s fX9_init_94 rfl rfl rfl ?_
  obtain ⟨W76, v77, e78, h⟩ := bd_some h
  refine kcX5_init fX9_init_95 rfl (q_X5_init e78) (by decide) ?_
  obtain ⟨⟨f79, f80⟩, h⟩ := gd_some h
  refine k9_pr fX9_init_98 (f79) kp_9_7 ?_
  replace h := lt_some h
  refine t_l fX9_init_101 rfl rfl rfl rfl ?_
  refine k9_new fX9_init_102 (by decide) ?_
  replace h := lt_some h
  replace h := lt_some h
  obtain ⟨⟨f84, f85⟩, h⟩ := gd_some h
  refine t_s fX9_init_105 rfl rfl rfl ?_
  obtain ⟨W86, v87, e88, h⟩ := bd_some h
  refine kcX4_init fX9_init_106 rfl (q_X4_init e88) (by decide) ?_
  obtain ⟨⟨f89, f90⟩, h⟩ := gd_some h
  refine k9_pr fX9_init_109 (f89) kp_9_8 ?_
  replace h := lt_some h
  refine t_l fX9_init_112 rfl rfl rfl rfl ?_
  refine k9_new fX9_init_113 (by decide) ?_
  replace h := lt_some h
  replace h := lt_some h
  obtain ⟨⟨f94, f95⟩, h⟩ := gd_some h
  refine t_s fX9_init_116 rfl rfl rfl ?_
  obtain ⟨W96, v97, e98, h⟩ := bd_some h
  refine kcX4_init fX9_init_117 rfl (q_X4_init e98) (by decide) ?_
  obtain ⟨⟨f99, f100⟩, h⟩ := gd_some h
  refine k9_pr fX9_init_120 (f99) kp_9_9 ?_
  replace h := lt_some h
  refine t_l fX9_init_123 rfl rfl rfl rfl ?_
  refine k9_new fX9_init_124 (by decide) ?_
  replace h := lt_some h
  replace h := lt_some h
  obtain ⟨⟨f104, f105⟩, h⟩ := gd_some h
  refine t_s fX9_init_127 rfl rfl rfl ?_
  obtain ⟨W106, v107, e108, h⟩ := bd_some h
  refine kcX1_init fX9_init_128 rfl (q_X1_init e108) (by decide) ?_
  obtain ⟨⟨f109, f110⟩, h⟩ := gd_some h
  refine k9_pr fX9_init_131 (f109) kp_9_10 ?_
  replace h := lt_some h
  refine t_l fX9_init_134 rfl rfl rfl rfl ?_
  refine k9_new fX9_init_135 (by decide) ?_
  replace h := lt_some h
  replace h := lt_some h
  obtain ⟨⟨f114, f115⟩, h⟩ := gd_some h
  refine t_s fX9_init_138 rfl rfl rfl ?_
  obtain ⟨W116, v117, e118, h⟩ := bd_some h
  refine kcX1_init fX9_init_139 rfl (q_X1_init e118) (by decide) ?_
  obtain ⟨⟨f119, f120⟩, h⟩ := gd_some h
  refine k9_pr fX9_init_142 (f119) kp_9_11 ?_
  replace h := lt_some h
  refine t_l fX9_init_145 rfl rfl rfl rfl ?_
  refine t_s fX9_init_146 rfl rfl rfl ?_
  refine k9_pi fX9_init_147 (f119) kp_9_12 ?_
  replace h := lt_some h
  refine t_l fX9_init_150 rfl rfl rfl rfl ?_
  refine t_s fX9_init_151 rfl rfl rfl ?_
  refine k9_pj fX9_init_152 (f119) kp_9_13 ?_
  replace h := lt_some h
  refine t_l fX9_init_155 rfl rfl rfl rfl ?_
  obtain ⟨⟨f124, f125⟩, h⟩ := gd_some h
  refine k9_gr fX9_init_156 (f119) kg_9_2 f124 ?_
  refine t_s fX9_init_159 rfl rfl rfl ?_
  refine t_s fX9_init_161 rfl rfl rfl ?_
  obtain ⟨V126, v127, e128, h⟩ := bd_some h
  refine kcX7_fill fX9_init_162 (f125).1 rfl (q_X7_fill (f125) e128) (by decide) ?_
  refine t_l fX9_init_165 rfl rfl rfl rfl ?_
  obtain ⟨⟨f129, f130⟩, h⟩ := gd_some h
  refine k9_gr fX9_init_166 (f119) kg_9_10 f129 ?_
  obtain ⟨V131, v132, e133, h⟩ := bd_some h
  refine kcX1_clear fX9_init_169 (f130).1 rfl (q_X1_clear (f130) e133) (by decide) ?_
  refine t_l fX9_init_172 rfl rfl rfl rfl ?_
  obtain ⟨⟨f134, f135⟩, h⟩ := gd_some h
  refine k9_gr fX9_init_173 (f119) kg_9_8 f134 ?_
  refine t_l fX9_init_176 rfl rfl rfl rfl ?_
  obtain ⟨⟨f136, f137⟩, h⟩ := gd_some h
  refine k9_gr fX9_init_177 (f119) kg_9_10 f136 ?_
  obtain ⟨V138, v139, e140, h⟩ := bd_some h
  refine kcX4_begin fX9_init_180 (f135).1 rfl rfl (q_X4_begin (f135) (f137) e140) (by decide) ?_
  refine t_ret fX9_init_183 rX9_init ?_
  exact qfw_v h

theorem tj_X6_readRule_J16 {X : mX} {r0 r1 : Nat} {x2 : Int} {W W' : mW} {v : Int} (h : F_X6_readRule_J16 r0 r1 x2 W = some (W', v)) : T (X) (95) 84 16 [some (.ref r0), some (.ref r1), some (.int (iI x2))] [] W.1 W.2.1 W.2.2.1 W.2.2.2 (qwv W' v) := by
  unfold F_X6_readRule_J16 at h
  obtain ⟨⟨f8, f9⟩, h⟩ := gd_some h
  refine t_l fX6_readRule_16 rfl rfl rfl rfl ?_
  refine t_l fX6_readRule_17 rfl rfl rfl rfl ?_
  refine t_s fX6_readRule_18 rfl rfl rfl ?_
  obtain ⟨g11, h⟩ := gd_some h
  refine k9_ic_ne fX6_readRule_20 rfl g11 ⟨by decide, by decide⟩ (fun c10 => ?_) (fun c10 => ?_)
  · replace h := ite_f (c10) h
    refine t_l fX6_readRule_30 rfl rfl rfl rfl ?_
    refine k9_gr fX6_readRule_31 (f9).1 kg_1_11 (s1_11r f9) ?_
    refine k9_pr fX6_readRule_34 (f8).1 kp_6_7 ?_
    replace h := lt_some h
    obtain ⟨⟨f13, f14⟩, h⟩ := gd_some h
    refine t_l fX6_readRule_37 rfl rfl rfl rfl ?_
    refine t_s fX6_readRule_38 rfl rfl rfl ?_
    refine k9_pj fX6_readRule_41 (f13).1 kp_6_8 ?_
    replace h := lt_some h
    refine t_l fX6_readRule_44 rfl rfl rfl rfl ?_
    refine t_s fX6_readRule_45 rfl rfl rfl ?_
    obtain ⟨V16, v17, e18, h⟩ := bd_some h
    refine kcX6_readSum fX6_readRule_46 (f13).1 rfl (q_FR3 (f13) e18) (by decide) ?_
    refine k9_goto fX6_readRule_49 rfl ?_
    refine t_ret fX6_readRule_97 rX6_readRule ?_
    exact qfw_v h
  · replace h := ite_t (Classical.not_not.mp c10) h
    refine t_l fX6_readRule_23 rfl rfl rfl rfl ?_
    refine k9_gr fX6_readRule_24 (f9).1 kg_1_10 (s1_10r f9) ?_
    refine k9_goto fX6_readRule_27 rfl ?_
    refine k9_pr fX6_readRule_34 (f8).1 kp_6_7 ?_
    replace h := lt_some h
    obtain ⟨⟨f20, f21⟩, h⟩ := gd_some h
    refine t_l fX6_readRule_37 rfl rfl rfl rfl ?_
    refine t_s fX6_readRule_38 rfl rfl rfl ?_
    refine k9_pj fX6_readRule_41 (f20).1 kp_6_8 ?_
    replace h := lt_some h
    refine t_l fX6_readRule_44 rfl rfl rfl rfl ?_
    refine t_s fX6_readRule_45 rfl rfl rfl ?_
    obtain ⟨V23, v24, e25, h⟩ := bd_some h
    refine kcX6_readSum fX6_readRule_46 (f20).1 rfl (q_FR3 (f20) e25) (by decide) ?_
    refine k9_goto fX6_readRule_49 rfl ?_
    refine t_ret fX6_readRule_97 rX6_readRule ?_
    exact qfw_v h

theorem q_X6_readRule {X : mX} {r0 r1 : Nat} {x2 : Int} {W W' : mW} {v : Int} (h : F_X6_readRule r0 r1 x2 W = some (W', v)) : Rn (X) (95) 84 [.ref r0, .ref r1, .int (iI x2)] W.1 W.2.1 W.2.2.1 W.2.2.2 W'.1 W'.2.1 W'.2.2.1 W'.2.2.2 none := by
  refine qwv_toR (v := v) (L := [some (.ref r0), some (.ref r1), some (.int (iI x2))]) rfl ?_
  unfold F_X6_readRule at h
  obtain ⟨⟨f1, f2⟩, h⟩ := gd_some h
  refine t_l fX6_readRule_0 rfl rfl rfl rfl ?_
  obtain ⟨V3, v4, e5, h⟩ := bd_some h
  refine kcX6_take fX6_readRule_1 (f1).1 rfl (q_X6_take (f1) e5) (by decide) ?_
  refine t_l fX6_readRule_4 rfl rfl rfl rfl ?_
  refine t_s fX6_readRule_5 rfl rfl rfl ?_
  obtain ⟨g7, h⟩ := gd_some h
  refine k9_ic_eq fX6_readRule_7 rfl g7 ⟨by decide, by decide⟩ (fun c6 => ?_) (fun c6 => ?_)
  · replace h := ite_t (c6) h
    exact tj_X6_readRule_J16  h
  · replace h := ite_f (c6) h
    refine t_l fX6_readRule_10 rfl rfl rfl rfl ?_
    refine t_s fX6_readRule_11 rfl rfl rfl ?_
    refine k9_ic_ne fX6_readRule_13 rfl g7 ⟨by decide, by decide⟩ (fun c26 => ?_) (fun c26 => ?_)
    · replace h := ite_f (c26) h
      refine t_l fX6_readRule_52 rfl rfl rfl rfl ?_
      refine t_l fX6_readRule_53 rfl rfl rfl rfl ?_
      refine t_s fX6_readRule_54 rfl rfl rfl ?_
      refine k9_ic_ne fX6_readRule_56 rfl g7 ⟨by decide, by decide⟩ (fun c27 => ?_) (fun c27 => ?_)
      · replace h := ite_f (c27) h
        refine t_l fX6_readRule_66 rfl rfl rfl rfl ?_
        refine k9_gr fX6_readRule_67 (f2).1 kg_1_13 (s1_13r f2) ?_
        refine k9_pr fX6_readRule_70 (f1).1 kp_6_7 ?_
        replace h := lt_some h
        obtain ⟨⟨f29, f30⟩, h⟩ := gd_some h
        refine t_l fX6_readRule_73 rfl rfl rfl rfl ?_
        refine t_l fX6_readRule_74 rfl rfl rfl rfl ?_
        refine t_s fX6_readRule_75 rfl rfl rfl ?_
        refine k9_ic_ne fX6_readRule_77 rfl g7 ⟨by decide, by decide⟩ (fun c31 => ?_) (fun c31 => ?_)
        · replace h := ite_f (c31) h
          refine t_s fX6_readRule_86 rfl rfl rfl ?_
          refine k9_pj fX6_readRule_89 (f29).1 kp_6_8 ?_
          replace h := lt_some h
          refine t_l fX6_readRule_92 rfl rfl rfl rfl ?_
          refine t_s fX6_readRule_93 rfl rfl rfl ?_
          obtain ⟨V33, v34, e35, h⟩ := bd_some h
          refine kcX6_readTest fX6_readRule_94 (f29).1 rfl (q_FR0 (f29) e35) (by decide) ?_
          refine t_ret fX6_readRule_97 rX6_readRule ?_
          exact qfw_v h
        · replace h := ite_t (Classical.not_not.mp c31) h
          refine t_s fX6_readRule_80 rfl rfl rfl ?_
          refine k9_goto fX6_readRule_83 rfl ?_
          refine k9_pj fX6_readRule_89 (f29).1 kp_6_8 ?_
          replace h := lt_some h
          refine t_l fX6_readRule_92 rfl rfl rfl rfl ?_
          refine t_s fX6_readRule_93 rfl rfl rfl ?_
          obtain ⟨V37, v38, e39, h⟩ := bd_some h
          refine kcX6_readTest fX6_readRule_94 (f29).1 rfl (q_FR0 (f29) e39) (by decide) ?_
          refine t_ret fX6_readRule_97 rX6_readRule ?_
          exact qfw_v h
      · replace h := ite_t (Classical.not_not.mp c27) h
        refine t_l fX6_readRule_59 rfl rfl rfl rfl ?_
        refine k9_gr fX6_readRule_60 (f2).1 kg_1_12 (s1_12r f2) ?_
        refine k9_goto fX6_readRule_63 rfl ?_
        refine k9_pr fX6_readRule_70 (f1).1 kp_6_7 ?_
        replace h := lt_some h
        obtain ⟨⟨f41, f42⟩, h⟩ := gd_some h
        refine t_l fX6_readRule_73 rfl rfl rfl rfl ?_
        refine t_l fX6_readRule_74 rfl rfl rfl rfl ?_
        refine t_s fX6_readRule_75 rfl rfl rfl ?_
        refine k9_ic_ne fX6_readRule_77 rfl g7 ⟨by decide, by decide⟩ (fun c43 => ?_) (fun c43 => ?_)
        · replace h := ite_f (c43) h
          refine t_s fX6_readRule_86 rfl rfl rfl ?_
          refine k9_pj fX6_readRule_89 (f41).1 kp_6_8 ?_
          replace h := lt_some h
          refine t_l fX6_readRule_92 rfl rfl rfl rfl ?_
          refine t_s fX6_readRule_93 rfl rfl rfl ?_
          obtain ⟨V45, v46, e47, h⟩ := bd_some h
          refine kcX6_readTest fX6_readRule_94 (f41).1 rfl (q_FR0 (f41) e47) (by decide) ?_
          refine t_ret fX6_readRule_97 rX6_readRule ?_
          exact qfw_v h
        · replace h := ite_t (Classical.not_not.mp c43) h
          refine t_s fX6_readRule_80 rfl rfl rfl ?_
          refine k9_goto fX6_readRule_83 rfl ?_
          refine k9_pj fX6_readRule_89 (f41).1 kp_6_8 ?_
          replace h := lt_some h
          refine t_l fX6_readRule_92 rfl rfl rfl rfl ?_
          refine t_s fX6_readRule_93 rfl rfl rfl ?_
          obtain ⟨V49, v50, e51, h⟩ := bd_some h
          refine kcX6_readTest fX6_readRule_94 (f41).1 rfl (q_FR0 (f41) e51) (by decide) ?_
          refine t_ret fX6_readRule_97 rX6_readRule ?_
          exact qfw_v h
    · replace h := ite_t (Classical.not_not.mp c26) h
      exact tj_X6_readRule_J16  h

theorem tj_X6_readQuestion_J134 {X : mX} {r0 : Nat} {j1 j2 : Option Value} {W W' : mW} {v : Int} (h : F_X6_readQuestion_J134 r0 W = some (W', v)) : T (X) (95) 85 134 [some (.ref r0), j1, j2] [] W.1 W.2.1 W.2.2.1 W.2.2.2 (qwv W' v) := by
  unfold F_X6_readQuestion_J134 at h
  obtain ⟨f31, h⟩ := gd_some h
  refine t_l fX6_readQuestion_134 rfl rfl rfl rfl ?_
  refine k9_gr fX6_readQuestion_135 (f31).1 kg_6_0 (s6_0r f31) ?_
  refine t_l fX6_readQuestion_138 rfl rfl rfl rfl ?_
  refine k9_gi fX6_readQuestion_139 (f31).1 kg_6_6 ?_
  obtain ⟨V32, v33, e34, h⟩ := bd_some h
  refine kcX7_get fX6_readQuestion_142 (s6_0s f31).1 rfl (q_X7_get (s6_0s f31) e34) (by decide) ?_
  refine t_s fX6_readQuestion_145 rfl rfl rfl ?_
  obtain ⟨g36, h⟩ := gd_some h
  refine k9_ic_eq fX6_readQuestion_146 rfl g36 ⟨by decide, by decide⟩ (fun c35 => ?_) (fun c35 => ?_)
  · replace h := ite_t (c35) h
    refine t_ret fX6_readQuestion_158 rX6_readQuestion ?_
    exact qfw_v h
  · replace h := ite_f (c35) h
    refine t_l fX6_readQuestion_149 rfl rfl rfl rfl ?_
    refine t_s fX6_readQuestion_150 rfl rfl rfl ?_
    refine t_l fX6_readQuestion_151 rfl rfl rfl rfl ?_
    obtain ⟨V37, v38, e39, h⟩ := bd_some h
    refine kcX6_here fX6_readQuestion_152 (f31).1 rfl (q_X6_here (f31) e39) (by decide) ?_
    obtain ⟨V40, v41, e42, h⟩ := bd_some h
    refine kcX6_fail fX6_readQuestion_155 (f31).1 rfl (q_X6_fail (f31) e42) (by decide) ?_
    refine t_ret fX6_readQuestion_158 rX6_readQuestion ?_
    exact qfw_v h

theorem tj_X6_readQuestion_J113 {X : mX} {r0 : Nat} {x1 : Int} {j2 : Option Value} {W W' : mW} {v : Int} (h : F_X6_readQuestion_J113 r0 x1 W = some (W', v)) : T (X) (95) 85 113 [some (.ref r0), some (.int (iI x1)), j2] [] W.1 W.2.1 W.2.2.1 W.2.2.2 (qwv W' v) := by
  unfold F_X6_readQuestion_J113 at h
  obtain ⟨f22, h⟩ := gd_some h
  refine t_l fX6_readQuestion_113 rfl rfl rfl rfl ?_
  obtain ⟨V23, v24, e25, h⟩ := bd_some h
  refine kcX6_take fX6_readQuestion_114 (f22).1 rfl (q_X6_take (f22) e25) (by decide) ?_
  refine t_l fX6_readQuestion_117 rfl rfl rfl rfl ?_
  obtain ⟨g27, h⟩ := gd_some h
  refine k9_if_eq fX6_readQuestion_118 rfl g27 (fun c26 => ?_) (fun c26 => ?_)
  · replace h := ite_t (c26) h
    refine t_l fX6_readQuestion_129 rfl rfl rfl rfl ?_
    refine t_s fX6_readQuestion_130 rfl rfl rfl ?_
    obtain ⟨V28, v29, e30, h⟩ := bd_some h
    refine kcX6_readSum fX6_readQuestion_131 (f22).1 rfl (q_FR3 (f22) e30) (by decide) ?_
    exact tj_X6_readQuestion_J134  h
  · replace h := ite_f (c26) h
    refine t_l fX6_readQuestion_121 rfl rfl rfl rfl ?_
    refine t_s fX6_readQuestion_122 rfl rfl rfl ?_
    obtain ⟨V43, v44, e45, h⟩ := bd_some h
    refine kcX6_readTest fX6_readQuestion_123 (f22).1 rfl (q_FR0 (f22) e45) (by decide) ?_
    refine k9_goto fX6_readQuestion_126 rfl ?_
    exact tj_X6_readQuestion_J134  h

theorem tj_X6_readQuestion_J95 {X : mX} {r0 : Nat} {x1 s0 : Int} {j2 : Option Value} {W W' : mW} {v : Int} (h : F_X6_readQuestion_J95 r0 x1 s0 W = some (W', v)) : T (X) (95) 85 95 [some (.ref r0), some (.int (iI x1)), j2] [.int (iI s0)] W.1 W.2.1 W.2.2.1 W.2.2.2 (qwv W' v) := by
  unfold F_X6_readQuestion_J95 at h
  obtain ⟨f19, h⟩ := gd_some h
  refine t_l fX6_readQuestion_95 rfl rfl rfl rfl ?_
  refine t_l fX6_readQuestion_96 rfl rfl rfl rfl ?_
  obtain ⟨g21, h⟩ := gd_some h
  refine k9_if_ne fX6_readQuestion_97 rfl g21 (fun c20 => ?_) (fun c20 => ?_)
  · replace h := ite_f (c20) h
    exact tj_X6_readQuestion_J113  h
  · replace h := ite_t (Classical.not_not.mp c20) h
    refine t_l fX6_readQuestion_100 rfl rfl rfl rfl ?_
    obtain ⟨g47, h⟩ := gd_some h
    refine k9_if_ne fX6_readQuestion_101 rfl g47 (fun c46 => ?_) (fun c46 => ?_)
    · replace h := ite_f (c46) h
      exact tj_X6_readQuestion_J113  h
    · replace h := ite_t (Classical.not_not.mp c46) h
      refine t_l fX6_readQuestion_104 rfl rfl rfl rfl ?_
      refine t_s fX6_readQuestion_105 rfl rfl rfl ?_
      refine t_l fX6_readQuestion_106 rfl rfl rfl rfl ?_
      obtain ⟨V48, v49, e50, h⟩ := bd_some h
      refine kcX6_here fX6_readQuestion_107 (f19).1 rfl (q_X6_here (f19) e50) (by decide) ?_
      obtain ⟨V51, v52, e53, h⟩ := bd_some h
      refine kcX6_fail fX6_readQuestion_110 (f19).1 rfl (q_X6_fail (f19) e53) (by decide) ?_
      exact tj_X6_readQuestion_J113  h

theorem tj_X6_readQuestion_J90 {X : mX} {r0 : Nat} {x1 : Int} {j2 : Option Value} {W W' : mW} {v : Int} (h : F_X6_readQuestion_J90 r0 x1 W = some (W', v)) : T (X) (95) 85 90 [some (.ref r0), some (.int (iI x1)), j2] [] W.1 W.2.1 W.2.2.1 W.2.2.2 (qwv W' v) := by
  unfold F_X6_readQuestion_J90 at h
  obtain ⟨f18, h⟩ := gd_some h
  refine t_s fX6_readQuestion_90 rfl rfl rfl ?_
  refine k9_goto fX6_readQuestion_91 rfl ?_
  exact tj_X6_readQuestion_J95  h

theorem tj_X6_readQuestion_J62 {X : mX} {r0 : Nat} {s0 : Int} {j1 j2 : Option Value} {W W' : mW} {v : Int} (h : F_X6_readQuestion_J62 r0 s0 W = some (W', v)) : T (X) (95) 85 62 [some (.ref r0), j1, j2] [.int (iI s0)] W.1 W.2.1 W.2.2.1 W.2.2.2 (qwv W' v) := by
  unfold F_X6_readQuestion_J62 at h
  obtain ⟨f15, h⟩ := gd_some h
  refine t_l fX6_readQuestion_62 rfl rfl rfl rfl ?_
  refine t_l fX6_readQuestion_63 rfl rfl rfl rfl ?_
  refine k9_gi fX6_readQuestion_64 (f15).1 kg_6_10 ?_
  refine t_s fX6_readQuestion_67 rfl rfl rfl ?_
  obtain ⟨g17, h⟩ := gd_some h
  refine k9_ic_eq fX6_readQuestion_69 rfl g17 ⟨by decide, by decide⟩ (fun c16 => ?_) (fun c16 => ?_)
  · replace h := ite_t (c16) h
    exact tj_X6_readQuestion_J90  h
  · replace h := ite_f (c16) h
    refine t_l fX6_readQuestion_72 rfl rfl rfl rfl ?_
    refine k9_gi fX6_readQuestion_73 (f15).1 kg_6_10 ?_
    refine t_s fX6_readQuestion_76 rfl rfl rfl ?_
    refine k9_ic_eq fX6_readQuestion_78 rfl g17 ⟨by decide, by decide⟩ (fun c54 => ?_) (fun c54 => ?_)
    · replace h := ite_t (c54) h
      exact tj_X6_readQuestion_J90  h
    · replace h := ite_f (c54) h
      refine t_l fX6_readQuestion_81 rfl rfl rfl rfl ?_
      refine k9_gi fX6_readQuestion_82 (f15).1 kg_6_10 ?_
      refine t_s fX6_readQuestion_85 rfl rfl rfl ?_
      refine k9_ic_ne fX6_readQuestion_87 rfl g17 ⟨by decide, by decide⟩ (fun c55 => ?_) (fun c55 => ?_)
      · replace h := ite_f (c55) h
        refine t_s fX6_readQuestion_94 rfl rfl rfl ?_
        exact tj_X6_readQuestion_J95  h
      · replace h := ite_t (Classical.not_not.mp c55) h
        exact tj_X6_readQuestion_J90  h

theorem tj_X6_readQuestion_J57 {X : mX} {r0 : Nat} {j1 j2 : Option Value} {W W' : mW} {v : Int} (h : F_X6_readQuestion_J57 r0 W = some (W', v)) : T (X) (95) 85 57 [some (.ref r0), j1, j2] [] W.1 W.2.1 W.2.2.1 W.2.2.2 (qwv W' v) := by
  unfold F_X6_readQuestion_J57 at h
  obtain ⟨f14, h⟩ := gd_some h
  refine t_s fX6_readQuestion_57 rfl rfl rfl ?_
  refine k9_goto fX6_readQuestion_58 rfl ?_
  exact tj_X6_readQuestion_J62  h

theorem q_X6_readQuestion {X : mX} {r0 : Nat} {W W' : mW} {v : Int} (h : F_X6_readQuestion r0 W = some (W', v)) : Rn (X) (95) 85 [.ref r0] W.1 W.2.1 W.2.2.1 W.2.2.2 W'.1 W'.2.1 W'.2.2.1 W'.2.2.2 none := by
  refine qwv_toR (v := v) (L := [some (.ref r0), none, none]) rfl ?_
  unfold F_X6_readQuestion at h
  obtain ⟨f1, h⟩ := gd_some h
  refine t_l fX6_readQuestion_0 rfl rfl rfl rfl ?_
  refine t_l fX6_readQuestion_1 rfl rfl rfl rfl ?_
  obtain ⟨V2, v3, e4, h⟩ := bd_some h
  refine kcX6_word fX6_readQuestion_2 (f1).1 rfl (q_X6_word (f1) e4) (by decide) ?_
  refine k9_pi fX6_readQuestion_5 (f1).1 kp_6_10 ?_
  replace h := lt_some h
  refine t_l fX6_readQuestion_8 rfl rfl rfl rfl ?_
  refine t_l fX6_readQuestion_9 rfl rfl rfl rfl ?_
  refine k9_gr fX6_readQuestion_10 (f1).1 kg_6_9 (s6_9r f1) ?_
  refine k9_pr fX6_readQuestion_13 (f1).1 kp_6_7 ?_
  replace h := lt_some h
  obtain ⟨f7, h⟩ := gd_some h
  refine t_l fX6_readQuestion_16 rfl rfl rfl rfl ?_
  refine k9_gr fX6_readQuestion_17 (f7).1 kg_6_7 (s6_7r f7) ?_
  obtain ⟨V8, v9, e10, h⟩ := bd_some h
  refine kcX3_clear fX6_readQuestion_20 (s6_7s f7).1 rfl (q_X3_clear (s6_7s f7) e10) (by decide) ?_
  refine t_l fX6_readQuestion_23 rfl rfl rfl rfl ?_
  refine t_s fX6_readQuestion_24 rfl rfl rfl ?_
  refine k9_pj fX6_readQuestion_27 (f7).1 kp_6_8 ?_
  replace h := lt_some h
  refine t_l fX6_readQuestion_30 rfl rfl rfl rfl ?_
  refine k9_gi fX6_readQuestion_31 (f7).1 kg_6_10 ?_
  refine t_s fX6_readQuestion_34 rfl rfl rfl ?_
  obtain ⟨g13, h⟩ := gd_some h
  refine k9_ic_eq fX6_readQuestion_36 rfl g13 ⟨by decide, by decide⟩ (fun c12 => ?_) (fun c12 => ?_)
  · replace h := ite_t (c12) h
    exact tj_X6_readQuestion_J57  h
  · replace h := ite_f (c12) h
    refine t_l fX6_readQuestion_39 rfl rfl rfl rfl ?_
    refine k9_gi fX6_readQuestion_40 (f7).1 kg_6_10 ?_
    refine t_s fX6_readQuestion_43 rfl rfl rfl ?_
    refine k9_ic_eq fX6_readQuestion_45 rfl g13 ⟨by decide, by decide⟩ (fun c56 => ?_) (fun c56 => ?_)
    · replace h := ite_t (c56) h
      exact tj_X6_readQuestion_J57  h
    · replace h := ite_f (c56) h
      refine t_l fX6_readQuestion_48 rfl rfl rfl rfl ?_
      refine k9_gi fX6_readQuestion_49 (f7).1 kg_6_10 ?_
      refine t_s fX6_readQuestion_52 rfl rfl rfl ?_
      refine k9_ic_ne fX6_readQuestion_54 rfl g13 ⟨by decide, by decide⟩ (fun c57 => ?_) (fun c57 => ?_)
      · replace h := ite_f (c57) h
        refine t_s fX6_readQuestion_61 rfl rfl rfl ?_
        exact tj_X6_readQuestion_J62  h
      · replace h := ite_t (Classical.not_not.mp c57) h
        exact tj_X6_readQuestion_J57  h

theorem tj_X6_readCity_J154_6 {X : mX} {r0 r1 : Nat} {x2 : Int} {j3 : Option Value} {W W' : mW} {q : Nat × Int} {Q : Nat → Nat → mG → mV → Option Value → Prop} (h0 : q.1 = 0 → ∀ j3 : Option Value, T (X) (96) 77 6 [some (.ref r0), some (.ref r1), some (.int (iI q.2)), j3] [] W'.1 W'.2.1 W'.2.2.1 W'.2.2.2 Q) (h1 : q.1 = 1 → ∀ j3 : Option Value, T (X) (96) 77 176 [some (.ref r0), some (.ref r1), some (.int (iI q.2)), j3] [] W'.1 W'.2.1 W'.2.2.1 W'.2.2.2 Q) (h : F_X6_readCity_J154_6 r0 r1 x2 W = some (W', q)) : T (X) (96) 77 154 [some (.ref r0), some (.ref r1), some (.int (iI x2)), j3] [] W.1 W.2.1 W.2.2.1 W.2.2.2 Q := by
  unfold F_X6_readCity_J154_6 at h
  obtain ⟨⟨f32, f33⟩, h⟩ := gd_some h
  refine t_l fX6_readCity_154 rfl rfl rfl rfl ?_
  refine t_s fX6_readCity_155 rfl rfl rfl ?_
  obtain ⟨V34, v35, e36, h⟩ := bd_some h
  refine kcX6_takeSign fX6_readCity_157 (f32).1 rfl (q_X6_takeSign (f32) e36) (by decide) ?_
  refine t_l fX6_readCity_160 rfl rfl rfl rfl ?_
  refine t_s fX6_readCity_161 rfl rfl rfl ?_
  refine k9_gi fX6_readCity_162 (f33).1 kg_1_14 ?_
  refine t_s fX6_readCity_165 rfl rfl rfl ?_
  refine k9_iadd fX6_readCity_166 ?_
  refine k9_pi fX6_readCity_167 (f33).1 kp_1_14 ?_
  replace h := lt_some h
  replace h := lt_some h
  refine k9_iinc fX6_readCity_170 rfl (Nat.le_of_ble_eq_true rfl) rfl ?_
  refine k9_goto fX6_readCity_173 rfl ?_
  cases h
  exact h0 rfl _

theorem tj_X6_readCity_J53_6 {X : mX} {r0 r1 : Nat} {x2 : Int} {j3 : Option Value} {W W' : mW} {q : Nat × Int} {Q : Nat → Nat → mG → mV → Option Value → Prop} (h0 : q.1 = 0 → ∀ j3 : Option Value, T (X) (96) 77 6 [some (.ref r0), some (.ref r1), some (.int (iI q.2)), j3] [] W'.1 W'.2.1 W'.2.2.1 W'.2.2.2 Q) (h1 : q.1 = 1 → ∀ j3 : Option Value, T (X) (96) 77 176 [some (.ref r0), some (.ref r1), some (.int (iI q.2)), j3] [] W'.1 W'.2.1 W'.2.2.1 W'.2.2.2 Q) (h : F_X6_readCity_J53_6 r0 r1 x2 W = some (W', q)) : T (X) (96) 77 53 [some (.ref r0), some (.ref r1), some (.int (iI x2)), j3] [] W.1 W.2.1 W.2.2.1 W.2.2.2 Q := by
  unfold F_X6_readCity_J53_6 at h
  obtain ⟨⟨f24, f25⟩, h⟩ := gd_some h
  refine t_l fX6_readCity_53 rfl rfl rfl rfl ?_
  refine t_s fX6_readCity_54 rfl rfl rfl ?_
  refine t_l fX6_readCity_55 rfl rfl rfl rfl ?_
  obtain ⟨V26, v27, e28, h⟩ := bd_some h
  refine kcX6_here fX6_readCity_56 (f24).1 rfl (q_X6_here (f24) e28) (by decide) ?_
  obtain ⟨V29, v30, e31, h⟩ := bd_some h
  refine kcX6_fail fX6_readCity_59 (f24).1 rfl (q_X6_fail (f24) e31) (by decide) ?_
  refine k9_goto fX6_readCity_62 rfl ?_
  exact tj_X6_readCity_J154_6 h0 h1 h

theorem tj_X6_readCity_J74_6 {X : mX} {r0 r1 : Nat} {x2 x3 : Int} {W W' : mW} {q : Nat × Int} {Q : Nat → Nat → mG → mV → Option Value → Prop} (h0 : q.1 = 0 → ∀ j3 : Option Value, T (X) (96) 77 6 [some (.ref r0), some (.ref r1), some (.int (iI q.2)), j3] [] W'.1 W'.2.1 W'.2.2.1 W'.2.2.2 Q) (h1 : q.1 = 1 → ∀ j3 : Option Value, T (X) (96) 77 176 [some (.ref r0), some (.ref r1), some (.int (iI q.2)), j3] [] W'.1 W'.2.1 W'.2.2.1 W'.2.2.2 Q) (h : F_X6_readCity_J74_6 r0 r1 x2 x3 W = some (W', q)) : T (X) (96) 77 74 [some (.ref r0), some (.ref r1), some (.int (iI x2)), some (.int (iI x3))] [] W.1 W.2.1 W.2.2.1 W.2.2.2 Q := by
  unfold F_X6_readCity_J74_6 at h
  obtain ⟨⟨f46, f47⟩, h⟩ := gd_some h
  refine t_l fX6_readCity_74 rfl rfl rfl rfl ?_
  refine t_l fX6_readCity_75 rfl rfl rfl rfl ?_
  refine t_l fX6_readCity_76 rfl rfl rfl rfl ?_
  obtain ⟨V48, v49, e50, h⟩ := bd_some h
  refine kcX6_readGiven fX6_readCity_77 (f46).1 rfl rfl (q_X6_readGiven (f46) (f47) e50) (by decide) ?_
  refine k9_goto fX6_readCity_80 rfl ?_
  exact tj_X6_readCity_J154_6 h0 h1 h

theorem tj_X6_readCity_J145_6 {X : mX} {r0 r1 : Nat} {x2 : Int} {j3 : Option Value} {W W' : mW} {q : Nat × Int} {Q : Nat → Nat → mG → mV → Option Value → Prop} (h0 : q.1 = 0 → ∀ j3 : Option Value, T (X) (96) 77 6 [some (.ref r0), some (.ref r1), some (.int (iI q.2)), j3] [] W'.1 W'.2.1 W'.2.2.1 W'.2.2.2 Q) (h1 : q.1 = 1 → ∀ j3 : Option Value, T (X) (96) 77 176 [some (.ref r0), some (.ref r1), some (.int (iI q.2)), j3] [] W'.1 W'.2.1 W'.2.2.1 W'.2.2.2 Q) (h : F_X6_readCity_J145_6 r0 r1 x2 W = some (W', q)) : T (X) (96) 77 145 [some (.ref r0), some (.ref r1), some (.int (iI x2)), j3] [] W.1 W.2.1 W.2.2.1 W.2.2.2 Q := by
  unfold F_X6_readCity_J145_6 at h
  obtain ⟨⟨f56, f57⟩, h⟩ := gd_some h
  refine t_l fX6_readCity_145 rfl rfl rfl rfl ?_
  refine t_s fX6_readCity_146 rfl rfl rfl ?_
  refine t_l fX6_readCity_147 rfl rfl rfl rfl ?_
  obtain ⟨V58, v59, e60, h⟩ := bd_some h
  refine kcX6_here fX6_readCity_148 (f56).1 rfl (q_X6_here (f56) e60) (by decide) ?_
  obtain ⟨V61, v62, e63, h⟩ := bd_some h
  refine kcX6_fail fX6_readCity_151 (f56).1 rfl (q_X6_fail (f56) e63) (by decide) ?_
  exact tj_X6_readCity_J154_6 h0 h1 h

theorem tb_X6_readCity_6 {X : mX} {r0 r1 : Nat} {x2 : Int} {j3 : Option Value} {W W' : mW} {q : Nat × Int} {Q : Nat → Nat → mG → mV → Option Value → Prop} (h0 : q.1 = 0 → ∀ j3 : Option Value, T (X) (96) 77 6 [some (.ref r0), some (.ref r1), some (.int (iI q.2)), j3] [] W'.1 W'.2.1 W'.2.2.1 W'.2.2.2 Q) (h1 : q.1 = 1 → ∀ j3 : Option Value, T (X) (96) 77 176 [some (.ref r0), some (.ref r1), some (.int (iI q.2)), j3] [] W'.1 W'.2.1 W'.2.2.1 W'.2.2.2 Q) (h : B_X6_readCity_6 r0 r1 x2 W = some (W', q)) : T (X) (96) 77 6 [some (.ref r0), some (.ref r1), some (.int (iI x2)), j3] [] W.1 W.2.1 W.2.2.1 W.2.2.2 Q := by
  unfold B_X6_readCity_6 at h
  obtain ⟨⟨f6, f7⟩, h⟩ := gd_some h
  refine t_l fX6_readCity_6 rfl rfl rfl rfl ?_
  refine t_s fX6_readCity_7 rfl rfl rfl ?_
  obtain ⟨g9, h⟩ := gd_some h
  refine k9_ic_gt fX6_readCity_9 rfl g9 ⟨by decide, by decide⟩ (fun c8 => ?_) (fun c8 => ?_)
  · replace h := ite_t (c8) h
    cases h
    exact h1 rfl _
  · replace h := ite_f (c8) h
    refine t_l fX6_readCity_12 rfl rfl rfl rfl ?_
    obtain ⟨V10, v11, e12, h⟩ := bd_some h
    refine kcX6_fine fX6_readCity_13 (f6).1 rfl (q_X6_fine (f6) e12) (by decide) ?_
    obtain ⟨g14, h⟩ := gd_some h
    refine k9_if_eq fX6_readCity_16 rfl g14 (fun c13 => ?_) (fun c13 => ?_)
    · replace h := ite_t (c13) h
      cases h
      exact h1 rfl _
    · replace h := ite_f (c13) h
      refine t_l fX6_readCity_19 rfl rfl rfl rfl ?_
      refine k9_gr fX6_readCity_20 (f6).1 kg_6_0 (s6_0r f6) ?_
      refine t_l fX6_readCity_23 rfl rfl rfl rfl ?_
      refine k9_gi fX6_readCity_24 (f6).1 kg_6_6 ?_
      obtain ⟨V15, v16, e17, h⟩ := bd_some h
      refine kcX7_get fX6_readCity_27 (s6_0s f6).1 rfl (q_X7_get (s6_0s f6) e17) (by decide) ?_
      refine t_s fX6_readCity_30 rfl rfl rfl ?_
      obtain ⟨g19, h⟩ := gd_some h
      refine k9_ic_eq fX6_readCity_31 rfl g19 ⟨by decide, by decide⟩ (fun c18 => ?_) (fun c18 => ?_)
      · replace h := ite_t (c18) h
        cases h
        exact h1 rfl _
      · replace h := ite_f (c18) h
        refine t_l fX6_readCity_34 rfl rfl rfl rfl ?_
        obtain ⟨V20, v21, e22, h⟩ := bd_some h
        refine kcX6_word fX6_readCity_35 (f6).1 rfl (q_X6_word (f6) e22) (by decide) ?_
        refine t_l fX6_readCity_38 rfl rfl rfl rfl ?_
        refine t_l fX6_readCity_39 rfl rfl rfl rfl ?_
        refine t_s fX6_readCity_40 rfl rfl rfl ?_
        refine k9_ic_eq fX6_readCity_42 rfl g9 ⟨by decide, by decide⟩ (fun c23 => ?_) (fun c23 => ?_)
        · replace h := ite_t (c23) h
          exact tj_X6_readCity_J53_6 h0 h1 h
        · replace h := ite_f (c23) h
          refine t_l fX6_readCity_45 rfl rfl rfl rfl ?_
          refine t_l fX6_readCity_46 rfl rfl rfl rfl ?_
          obtain ⟨V39, v40, e41, h⟩ := bd_some h
          refine kcX6_isTooMany fX6_readCity_47 rfl rfl (q_X6_isTooMany (f7) e41) (by decide) ?_
          obtain ⟨g43, h⟩ := gd_some h
          refine k9_if_eq fX6_readCity_50 rfl g43 (fun c42 => ?_) (fun c42 => ?_)
          · replace h := ite_t (c42) h
            refine t_l fX6_readCity_65 rfl rfl rfl rfl ?_
            obtain ⟨g45, h⟩ := gd_some h
            refine k9_if_eq fX6_readCity_66 rfl g45 (fun c44 => ?_) (fun c44 => ?_)
            · replace h := ite_t (c44) h
              exact tj_X6_readCity_J74_6 h0 h1 h
            · replace h := ite_f (c44) h
              refine t_l fX6_readCity_69 rfl rfl rfl rfl ?_
              refine t_s fX6_readCity_70 rfl rfl rfl ?_
              refine k9_ic_ne fX6_readCity_71 rfl g45 ⟨by decide, by decide⟩ (fun c51 => ?_) (fun c51 => ?_)
              · replace h := ite_f (c51) h
                refine t_l fX6_readCity_83 rfl rfl rfl rfl ?_
                refine t_s fX6_readCity_84 rfl rfl rfl ?_
                refine k9_ic_ne fX6_readCity_85 rfl g45 ⟨by decide, by decide⟩ (fun c52 => ?_) (fun c52 => ?_)
                · replace h := ite_f (c52) h
                  refine t_l fX6_readCity_96 rfl rfl rfl rfl ?_
                  refine t_s fX6_readCity_97 rfl rfl rfl ?_
                  refine k9_ic_ne fX6_readCity_99 rfl g45 ⟨by decide, by decide⟩ (fun c53 => ?_) (fun c53 => ?_)
                  · replace h := ite_f (c53) h
                    refine t_l fX6_readCity_110 rfl rfl rfl rfl ?_
                    refine t_s fX6_readCity_111 rfl rfl rfl ?_
                    refine k9_ic_ne fX6_readCity_113 rfl g45 ⟨by decide, by decide⟩ (fun c54 => ?_) (fun c54 => ?_)
                    · replace h := ite_f (c54) h
                      refine t_l fX6_readCity_124 rfl rfl rfl rfl ?_
                      refine t_s fX6_readCity_125 rfl rfl rfl ?_
                      refine k9_ic_lt fX6_readCity_127 rfl g45 ⟨by decide, by decide⟩ (fun c55 => ?_) (fun c55 => ?_)
                      · replace h := ite_t (c55) h
                        exact tj_X6_readCity_J145_6 h0 h1 h
                      · replace h := ite_f (c55) h
                        refine t_l fX6_readCity_130 rfl rfl rfl rfl ?_
                        refine t_s fX6_readCity_131 rfl rfl rfl ?_
                        refine k9_ic_gt fX6_readCity_133 rfl g45 ⟨by decide, by decide⟩ (fun c64 => ?_) (fun c64 => ?_)
                        · replace h := ite_t (c64) h
                          exact tj_X6_readCity_J145_6 h0 h1 h
                        · replace h := ite_f (c64) h
                          refine t_l fX6_readCity_136 rfl rfl rfl rfl ?_
                          refine t_l fX6_readCity_137 rfl rfl rfl rfl ?_
                          refine t_l fX6_readCity_138 rfl rfl rfl rfl ?_
                          obtain ⟨W65, v66, e67, h⟩ := bd_some h
                          refine kcX6_readRule fX6_readCity_139 (f6).1 rfl rfl (q_X6_readRule e67) (by decide) ?_
                          obtain ⟨⟨f68, f69⟩, h⟩ := gd_some h
                          refine k9_goto fX6_readCity_142 rfl ?_
                          exact tj_X6_readCity_J154_6 h0 h1 h
                    · replace h := ite_t (Classical.not_not.mp c54) h
                      refine t_l fX6_readCity_116 rfl rfl rfl rfl ?_
                      refine t_l fX6_readCity_117 rfl rfl rfl rfl ?_
                      obtain ⟨V70, v71, e72, h⟩ := bd_some h
                      refine kcX6_readKnowing fX6_readCity_118 (f6).1 rfl rfl (q_X6_readKnowing (f6) (f7) e72) (by decide) ?_
                      refine k9_goto fX6_readCity_121 rfl ?_
                      exact tj_X6_readCity_J154_6 h0 h1 h
                  · replace h := ite_t (Classical.not_not.mp c53) h
                    refine t_l fX6_readCity_102 rfl rfl rfl rfl ?_
                    refine t_l fX6_readCity_103 rfl rfl rfl rfl ?_
                    obtain ⟨V73, v74, e75, h⟩ := bd_some h
                    refine kcX6_readCover fX6_readCity_104 (f6).1 rfl rfl (q_X6_readCover (f6) (f7) e75) (by decide) ?_
                    refine k9_goto fX6_readCity_107 rfl ?_
                    exact tj_X6_readCity_J154_6 h0 h1 h
                · replace h := ite_t (Classical.not_not.mp c52) h
                  refine t_l fX6_readCity_88 rfl rfl rfl rfl ?_
                  refine t_l fX6_readCity_89 rfl rfl rfl rfl ?_
                  obtain ⟨V76, v77, e78, h⟩ := bd_some h
                  refine kcX6_readDuty fX6_readCity_90 (f6).1 rfl rfl (q_X6_readDuty (f6) (f7) e78) (by decide) ?_
                  refine k9_goto fX6_readCity_93 rfl ?_
                  exact tj_X6_readCity_J154_6 h0 h1 h
              · replace h := ite_t (Classical.not_not.mp c51) h
                exact tj_X6_readCity_J74_6 h0 h1 h
          · replace h := ite_f (c42) h
            exact tj_X6_readCity_J53_6 h0 h1 h

theorem tl_X6_readCity_6 {X : mX} {r0 r1 : Nat} {x2 : Int} {j3 : Option Value} {W W' : mW} {fu : Nat} {q : Nat × Int} {Q : Nat → Nat → mG → mV → Option Value → Prop} (k1 : q.1 = 1 → ∀ j3 : Option Value, T (X) (96) 77 176 [some (.ref r0), some (.ref r1), some (.int (iI q.2)), j3] [] W'.1 W'.2.1 W'.2.2.1 W'.2.2.2 Q) (h : lp (fun (s : Int) (Z : mW) => B_X6_readCity_6 r0 r1 s Z) fu x2 W = some (W', q)) : T (X) (96) 77 6 [some (.ref r0), some (.ref r1), some (.int (iI x2)), j3] [] W.1 W.2.1 W.2.2.1 W.2.2.2 Q :=
  lp_go (P0 := fun s W => ∀ j3 : Option Value, T (X) (96) 77 6 [some (.ref r0), some (.ref r1), some (.int (iI s)), j3] [] W.1 W.2.1 W.2.2.1 W.2.2.2 Q) (PE := fun t s W => (t = 1 → ∀ j3 : Option Value, T (X) (96) 77 176 [some (.ref r0), some (.ref r1), some (.int (iI s)), j3] [] W.1 W.2.1 W.2.2.1 W.2.2.2 Q)) (fun s W W' q hb h0 h1 => fun _ => tb_X6_readCity_6 h0 (fun e => (h1 (by omega)) e) hb) fu x2 W W' q h k1 _

theorem q_X6_readCity {X : mX} {r0 r1 : Nat} {W W' : mW} {v : Int} (h : F_X6_readCity r0 r1 W = some (W', v)) : Rn (X) (96) 77 [.ref r0, .ref r1] W.1 W.2.1 W.2.2.1 W.2.2.2 W'.1 W'.2.1 W'.2.2.1 W'.2.2.2 none := by
  refine qwv_toR (v := v) (L := [some (.ref r0), some (.ref r1), none, none]) rfl ?_
  unfold F_X6_readCity at h
  obtain ⟨⟨f1, f2⟩, h⟩ := gd_some h
  refine t_l fX6_readCity_0 rfl rfl rfl rfl ?_
  obtain ⟨V3, v4, e5, h⟩ := bd_some h
  refine kcX1_clear fX6_readCity_1 (f2).1 rfl (q_X1_clear (f2) e5) (by decide) ?_
  refine t_s fX6_readCity_4 rfl rfl rfl ?_
  refine t_l fX6_readCity_5 rfl rfl rfl rfl ?_
  obtain ⟨W79, u80, e81, h⟩ := bd_some h
  refine tl_X6_readCity_6 (fun e82 j3 => ?_) e81
  obtain ⟨⟨f83, f84⟩, h⟩ := gd_some h
  refine t_ret fX6_readCity_176 rX6_readCity ?_
  exact qfw_v h

theorem tb_X9_answer_28 {X : mX} {r0 r2 : Nat} {x1 x3 : Int} {W W' : mW} {q : Nat × Int} {Q : Nat → Nat → mG → mV → Option Value → Prop} (h0 : q.1 = 0 → T (X) (7) 154 28 [some (.ref r0), some (.int (iI x1)), some (.ref r2), some (.int (iI q.2))] [] W'.1 W'.2.1 W'.2.2.1 W'.2.2.2 Q) (h1 : q.1 = 1 → T (X) (7) 154 104 [some (.ref r0), some (.int (iI x1)), some (.ref r2), some (.int (iI q.2))] [] W'.1 W'.2.1 W'.2.2.1 W'.2.2.2 Q) (h2 : q.1 = 2 → T (X) (7) 154 128 [some (.ref r0), some (.int (iI x1)), some (.ref r2), some (.int (iI q.2))] [] W'.1 W'.2.1 W'.2.2.1 W'.2.2.2 Q) (h : B_X9_answer_28 r0 r2 x1 x3 W = some (W', q)) : T (X) (7) 154 28 [some (.ref r0), some (.int (iI x1)), some (.ref r2), some (.int (iI x3))] [] W.1 W.2.1 W.2.2.1 W.2.2.2 Q := by
  unfold B_X9_answer_28 at h
  obtain ⟨⟨f16, f17⟩, h⟩ := gd_some h
  refine t_l fX9_answer_28 rfl rfl rfl rfl ?_
  refine t_s fX9_answer_29 rfl rfl rfl ?_
  obtain ⟨g19, h⟩ := gd_some h
  refine k9_ic_ge fX9_answer_31 rfl g19 ⟨by decide, by decide⟩ (fun c18 => ?_) (fun c18 => ?_)
  · replace h := ite_t (c18) h
    cases h
    exact h2 rfl
  · replace h := ite_f (c18) h
    refine t_l fX9_answer_34 rfl rfl rfl rfl ?_
    refine k9_gr fX9_answer_35 (f16).1 kg_9_9 (s9_9r f16) ?_
    refine k9_gi fX9_answer_38 (s9_9s f16).1 kg_4_0 ?_
    refine t_s fX9_answer_41 rfl rfl rfl ?_
    obtain ⟨g21, h⟩ := gd_some h
    refine k9_ic_gt fX9_answer_44 rfl g21 ⟨by decide, by decide⟩ (fun c20 => ?_) (fun c20 => ?_)
    · replace h := ite_t (c20) h
      cases h
      exact h2 rfl
    · replace h := ite_f (c20) h
      refine t_l fX9_answer_47 rfl rfl rfl rfl ?_
      refine k9_gr fX9_answer_48 (f16).1 kg_9_5 (s9_5r f16) ?_
      refine t_l fX9_answer_51 rfl rfl rfl rfl ?_
      refine k9_gr fX9_answer_52 (f16).1 kg_9_10 (s9_10r f16) ?_
      refine t_l fX9_answer_55 rfl rfl rfl rfl ?_
      refine k9_gr fX9_answer_56 (f16).1 kg_9_9 (s9_9r f16) ?_
      refine t_l fX9_answer_59 rfl rfl rfl rfl ?_
      obtain ⟨V22, v23, e24, h⟩ := bd_some h
      refine kcX2_setAskFacts fX9_answer_60 (s9_5s f16).1 rfl rfl rfl (q_X2_setAskFacts (s9_5s f16) (s9_10s f16) (s9_9s f16) e24) (by decide) ?_
      refine t_l fX9_answer_63 rfl rfl rfl rfl ?_
      refine t_l fX9_answer_64 rfl rfl rfl rfl ?_
      refine k9_gr fX9_answer_65 (f16).1 kg_9_9 (s9_9r f16) ?_
      refine k9_gi fX9_answer_68 (s9_9s f16).1 kg_4_0 ?_
      refine t_l fX9_answer_71 rfl rfl rfl rfl ?_
      refine k9_gr fX9_answer_72 (f16).1 kg_9_4 (s9_4r f16) ?_
      refine k9_gr fX9_answer_75 (s9_4s f16).1 kg_6_9 (s6_9r (s9_4s f16)) ?_
      refine t_l fX9_answer_78 rfl rfl rfl rfl ?_
      refine k9_gr fX9_answer_79 (f16).1 kg_9_5 (s9_5r f16) ?_
      refine k9_gr fX9_answer_82 (s9_5s f16).1 kg_2_0 (s2_0r (s9_5s f16)) ?_
      obtain ⟨V25, v26, e27, h⟩ := bd_some h
      refine kcX3_value fX9_answer_85 (s6_9s (s9_4s f16)).1 rfl rfl (q_X3_value (s6_9s (s9_4s f16)) (s2_0s (s9_5s f16)) e27) (by decide) ?_
      obtain ⟨V28, v29, e30, h⟩ := bd_some h
      refine kcX8_count fX9_answer_88 (f17).1 rfl (q_X8_count (f17) e30) (by decide) ?_
      refine t_l fX9_answer_91 rfl rfl rfl rfl ?_
      refine k9_gr fX9_answer_92 (f16).1 kg_9_9 (s9_9r f16) ?_
      refine k9_gi fX9_answer_95 (s9_9s f16).1 kg_4_0 ?_
      refine t_s fX9_answer_98 rfl rfl rfl ?_
      obtain ⟨g32, h⟩ := gd_some h
      refine k9_ic_ne fX9_answer_101 rfl g32 ⟨by decide, by decide⟩ (fun c31 => ?_) (fun c31 => ?_)
      · replace h := ite_f (c31) h
        refine t_l fX9_answer_107 rfl rfl rfl rfl ?_
        refine k9_gr fX9_answer_108 (f16).1 kg_9_5 (s9_5r f16) ?_
        refine t_l fX9_answer_111 rfl rfl rfl rfl ?_
        refine k9_gr fX9_answer_112 (f16).1 kg_9_10 (s9_10r f16) ?_
        refine t_l fX9_answer_115 rfl rfl rfl rfl ?_
        refine k9_gr fX9_answer_116 (f16).1 kg_9_9 (s9_9r f16) ?_
        obtain ⟨V33, v34, e35, h⟩ := bd_some h
        refine kcX2_comes fX9_answer_119 (s9_5s f16).1 rfl rfl rfl (q_X2_comes (s9_5s f16) (s9_10s f16) (s9_9s f16) e35) (by decide) ?_
        replace h := lt_some h
        refine k9_iinc fX9_answer_122 rfl (Nat.le_of_ble_eq_true rfl) rfl ?_
        refine k9_goto fX9_answer_125 rfl ?_
        cases h
        exact h0 rfl
      · replace h := ite_t (Classical.not_not.mp c31) h
        cases h
        exact h1 rfl

theorem tl_X9_answer_28 {X : mX} {r0 r2 : Nat} {x1 x3 : Int} {W W' : mW} {fu : Nat} {q : Nat × Int} {Q : Nat → Nat → mG → mV → Option Value → Prop} (k1 : q.1 = 1 → T (X) (7) 154 104 [some (.ref r0), some (.int (iI x1)), some (.ref r2), some (.int (iI q.2))] [] W'.1 W'.2.1 W'.2.2.1 W'.2.2.2 Q) (k2 : q.1 = 2 → T (X) (7) 154 128 [some (.ref r0), some (.int (iI x1)), some (.ref r2), some (.int (iI q.2))] [] W'.1 W'.2.1 W'.2.2.1 W'.2.2.2 Q) (h : lp (fun (s : Int) (Z : mW) => B_X9_answer_28 r0 r2 x1 s Z) fu x3 W = some (W', q)) : T (X) (7) 154 28 [some (.ref r0), some (.int (iI x1)), some (.ref r2), some (.int (iI x3))] [] W.1 W.2.1 W.2.2.1 W.2.2.2 Q :=
  lp_go (P0 := fun s W => T (X) (7) 154 28 [some (.ref r0), some (.int (iI x1)), some (.ref r2), some (.int (iI s))] [] W.1 W.2.1 W.2.2.1 W.2.2.2 Q) (PE := fun t s W => (t = 1 → T (X) (7) 154 104 [some (.ref r0), some (.int (iI x1)), some (.ref r2), some (.int (iI s))] [] W.1 W.2.1 W.2.2.1 W.2.2.2 Q) ∧ (t = 2 → T (X) (7) 154 128 [some (.ref r0), some (.int (iI x1)), some (.ref r2), some (.int (iI s))] [] W.1 W.2.1 W.2.2.1 W.2.2.2 Q)) (fun s W W' q hb h0 h1 => tb_X9_answer_28 h0 (fun e => (h1 (by omega)).1 e) (fun e => (h1 (by omega)).2 e) hb) fu x3 W W' q h ⟨k1, k2⟩

theorem tj_X9_answer_J128 {X : mX} {r0 r2 : Nat} {x1 : Int} {j3 : Option Value} {W W' : mW} {v : Int} (h : F_X9_answer_J128 r0 r2 x1 W = some (W', v)) : T (X) (7) 154 128 [some (.ref r0), some (.int (iI x1)), some (.ref r2), j3] [] W.1 W.2.1 W.2.2.1 W.2.2.2 (qwj W' v) := by
  unfold F_X9_answer_J128 at h
  obtain ⟨⟨f43, f44⟩, h⟩ := gd_some h
  refine t_l fX9_answer_128 rfl rfl rfl rfl ?_
  refine t_l fX9_answer_129 rfl rfl rfl rfl ?_
  refine k9_gr fX9_answer_130 (f43).1 kg_9_4 (s9_4r f43) ?_
  refine k9_gi fX9_answer_133 (s9_4s f43).1 kg_6_10 ?_
  obtain ⟨V45, v46, e47, h⟩ := bd_some h
  refine kcX8_answer fX9_answer_136 (f44).1 rfl (q_X8_answer (f44) e47) (by decide) ?_
  refine t_ret fX9_answer_139 rX9_answer ?_
  exact qfw_j h

theorem q_X9_answer {X : mX} {r0 : Nat} {x1 : Int} {W W' : mW} {v : Int} (h : F_X9_answer r0 x1 W = some (W', v)) : Rn (X) (7) 154 [.ref r0, .int (iI x1)] W.1 W.2.1 W.2.2.1 W.2.2.2 W'.1 W'.2.1 W'.2.2.1 W'.2.2.2 (some (.long (lI v))) := by
  refine qwj_toR (v := v) (L := [some (.ref r0), some (.int (iI x1)), none, none]) rfl ?_
  unfold F_X9_answer at h
  obtain ⟨f1, h⟩ := gd_some h
  refine k9_new fX9_answer_0 (by decide) ?_
  replace h := lt_some h
  replace h := lt_some h
  obtain ⟨⟨f4, f5⟩, h⟩ := gd_some h
  refine t_s fX9_answer_3 rfl rfl rfl ?_
  obtain ⟨f9, h⟩ := gd_some h
  obtain ⟨V6, v7, e8, h⟩ := bd_some h
  refine kcX8_init fX9_answer_4 rfl (q_X8_init (f9) e8) (by decide) ?_
  refine t_l fX9_answer_7 rfl rfl rfl rfl ?_
  refine t_l fX9_answer_8 rfl rfl rfl rfl ?_
  refine k9_gr fX9_answer_9 (f4).1 kg_9_9 (s9_9r f4) ?_
  refine t_l fX9_answer_12 rfl rfl rfl rfl ?_
  refine k9_gr fX9_answer_13 (f4).1 kg_9_8 (s9_8r f4) ?_
  obtain ⟨V10, v11, e12, h⟩ := bd_some h
  refine kcX4_copy fX9_answer_16 (s9_9s f4).1 rfl rfl (q_X4_copy (s9_9s f4) (s9_8s f4) e12) (by decide) ?_
  refine t_l fX9_answer_19 rfl rfl rfl rfl ?_
  refine k9_gr fX9_answer_20 (f4).1 kg_9_5 (s9_5r f4) ?_
  obtain ⟨V13, v14, e15, h⟩ := bd_some h
  refine kcX2_forgetFailures fX9_answer_23 (s9_5s f4).1 rfl (q_X2_forgetFailures (s9_5s f4) e15) (by decide) ?_
  refine t_s fX9_answer_26 rfl rfl rfl ?_
  refine t_l fX9_answer_27 rfl rfl rfl rfl ?_
  obtain ⟨W37, u38, e39, h⟩ := bd_some h
  refine tl_X9_answer_28 (fun e40 => ?_) (fun e40 => ?_) e39
  · replace h := ite_t e40 h
    obtain ⟨⟨f41, f42⟩, h⟩ := gd_some h
    refine k9_goto fX9_answer_104 rfl ?_
    exact tj_X9_answer_J128  h
  · replace h := ite_f (by omega) h
    obtain ⟨⟨f48, f49⟩, h⟩ := gd_some h
    exact tj_X9_answer_J128  h

theorem tj_X9_ask_J21 {X : mX} {r0 : Nat} {x1 x2 : Int} {W W' : mW} {v : Int} (h : F_X9_ask_J21 r0 x1 x2 W = some (W', v)) : T (X) (96) 136 21 [some (.ref r0), some (.int (iI x1)), some (.int (iI x2))] [] W.1 W.2.1 W.2.2.1 W.2.2.2 (qwj W' v) := by
  unfold F_X9_ask_J21 at h
  obtain ⟨f7, h⟩ := gd_some h
  refine t_l fX9_ask_21 rfl rfl rfl rfl ?_
  refine k9_gr fX9_ask_22 (f7).1 kg_9_0 (s9_0r f7) ?_
  refine t_s fX9_ask_25 rfl rfl rfl ?_
  obtain ⟨V8, v9, e10, h⟩ := bd_some h
  refine kcX7_cut fX9_ask_26 (s9_0s f7).1 rfl (q_X7_cut (s9_0s f7) e10) (by decide) ?_
  refine t_l fX9_ask_29 rfl rfl rfl rfl ?_
  obtain ⟨g12, h⟩ := gd_some h
  refine k9_if_ne fX9_ask_30 rfl g12 (fun c11 => ?_) (fun c11 => ?_)
  · replace h := ite_f (c11) h
    refine t_l fX9_ask_37 rfl rfl rfl rfl ?_
    refine k9_gr fX9_ask_38 (f7).1 kg_9_4 (s9_4r f7) ?_
    obtain ⟨W13, v14, e15, h⟩ := bd_some h
    refine kcX6_readQuestion fX9_ask_41 (s9_4s f7).1 rfl (q_X6_readQuestion e15) (by decide) ?_
    obtain ⟨f16, h⟩ := gd_some h
    refine t_l fX9_ask_44 rfl rfl rfl rfl ?_
    refine k9_gr fX9_ask_45 (f16).1 kg_9_4 (s9_4r f16) ?_
    refine k9_gi fX9_ask_48 (s9_4s f16).1 kg_6_11 ?_
    obtain ⟨g18, h⟩ := gd_some h
    refine k9_if_eq fX9_ask_51 rfl g18 (fun c17 => ?_) (fun c17 => ?_)
    · replace h := ite_t (c17) h
      refine t_l fX9_ask_60 rfl rfl rfl rfl ?_
      refine t_l fX9_ask_61 rfl rfl rfl rfl ?_
      obtain ⟨W19, v20, e21, h⟩ := bd_some h
      refine kcX9_answer fX9_ask_62 (f16).1 rfl (q_X9_answer e21) (by decide) ?_
      obtain ⟨f22, h⟩ := gd_some h
      refine t_ret fX9_ask_65 rX9_ask ?_
      exact qfw_j h
    · replace h := ite_f (c17) h
      refine t_s fX9_ask_54 rfl rfl rfl ?_
      refine k9_goto fX9_ask_57 rfl ?_
      refine t_ret fX9_ask_65 rX9_ask ?_
      exact qfw_j h
  · replace h := ite_t (Classical.not_not.mp c11) h
    refine t_s fX9_ask_33 rfl rfl rfl ?_
    refine t_ret fX9_ask_36 rX9_ask ?_
    exact qfw_j h

theorem q_X9_ask {X : mX} {r0 : Nat} {x1 : Int} {W W' : mW} {v : Int} (h : F_X9_ask r0 x1 W = some (W', v)) : Rn (X) (96) 136 [.ref r0, .int (iI x1)] W.1 W.2.1 W.2.2.1 W.2.2.2 W'.1 W'.2.1 W'.2.2.1 W'.2.2.2 (some (.long (lI v))) := by
  refine qwj_toR (v := v) (L := [some (.ref r0), some (.int (iI x1)), none]) rfl ?_
  unfold F_X9_ask at h
  obtain ⟨f1, h⟩ := gd_some h
  refine t_l fX9_ask_0 rfl rfl rfl rfl ?_
  refine t_l fX9_ask_1 rfl rfl rfl rfl ?_
  obtain ⟨V2, v3, e4, h⟩ := bd_some h
  refine kcX9_isPerson fX9_ask_2 (f1).1 rfl (q_X9_isPerson (f1) e4) (by decide) ?_
  refine t_l fX9_ask_5 rfl rfl rfl rfl ?_
  refine t_l fX9_ask_6 rfl rfl rfl rfl ?_
  obtain ⟨g6, h⟩ := gd_some h
  refine k9_if_eq fX9_ask_7 rfl g6 (fun c5 => ?_) (fun c5 => ?_)
  · replace h := ite_t (c5) h
    exact tj_X9_ask_J21  h
  · replace h := ite_f (c5) h
    refine t_l fX9_ask_10 rfl rfl rfl rfl ?_
    refine k9_gr fX9_ask_11 (f1).1 kg_9_4 (s9_4r f1) ?_
    refine t_l fX9_ask_14 rfl rfl rfl rfl ?_
    refine k9_gr fX9_ask_15 (f1).1 kg_9_0 (s9_0r f1) ?_
    obtain ⟨V23, v24, e25, h⟩ := bd_some h
    refine kcX6_start fX9_ask_18 (s9_4s f1).1 rfl rfl (q_X6_start (s9_4s f1) (s9_0s f1) e25) (by decide) ?_
    exact tj_X9_ask_J21  h

theorem q_X9_city {X : mX} {r0 : Nat} {W W' : mW} {v : Int} (h : F_X9_city r0 W = some (W', v)) : Rn (X) (97) 111 [.ref r0] W.1 W.2.1 W.2.2.1 W.2.2.2 W'.1 W'.2.1 W'.2.2.1 W'.2.2.2 (some (.int (iI v))) := by
  refine qwi_toR (v := v) (L := [some (.ref r0), none]) rfl ?_
  unfold F_X9_city at h
  obtain ⟨f1, h⟩ := gd_some h
  refine t_l fX9_city_0 rfl rfl rfl rfl ?_
  refine k9_gr fX9_city_1 (f1).1 kg_9_4 (s9_4r f1) ?_
  refine t_l fX9_city_4 rfl rfl rfl rfl ?_
  refine k9_gr fX9_city_5 (f1).1 kg_9_0 (s9_0r f1) ?_
  obtain ⟨V2, v3, e4, h⟩ := bd_some h
  refine kcX6_start fX9_city_8 (s9_4s f1).1 rfl rfl (q_X6_start (s9_4s f1) (s9_0s f1) e4) (by decide) ?_
  refine t_l fX9_city_11 rfl rfl rfl rfl ?_
  refine k9_gr fX9_city_12 (f1).1 kg_9_0 (s9_0r f1) ?_
  refine t_s fX9_city_15 rfl rfl rfl ?_
  obtain ⟨V5, v6, e7, h⟩ := bd_some h
  refine kcX7_cut fX9_city_16 (s9_0s f1).1 rfl (q_X7_cut (s9_0s f1) e7) (by decide) ?_
  refine t_l fX9_city_19 rfl rfl rfl rfl ?_
  refine k9_gr fX9_city_20 (f1).1 kg_9_4 (s9_4r f1) ?_
  refine t_l fX9_city_23 rfl rfl rfl rfl ?_
  refine k9_gr fX9_city_24 (f1).1 kg_9_11 (s9_11r f1) ?_
  obtain ⟨W8, v9, e10, h⟩ := bd_some h
  refine kcX6_readCity fX9_city_27 (s9_4s f1).1 rfl rfl (q_X6_readCity e10) (by decide) ?_
  obtain ⟨f11, h⟩ := gd_some h
  refine t_l fX9_city_30 rfl rfl rfl rfl ?_
  refine k9_gr fX9_city_31 (f11).1 kg_9_4 (s9_4r f11) ?_
  refine k9_gi fX9_city_34 (s9_4s f11).1 kg_6_11 ?_
  obtain ⟨g13, h⟩ := gd_some h
  refine k9_if_eq fX9_city_37 rfl g13 (fun c12 => ?_) (fun c12 => ?_)
  · replace h := ite_t (c12) h
    refine t_l fX9_city_46 rfl rfl rfl rfl ?_
    refine k9_gr fX9_city_47 (f11).1 kg_9_11 (s9_11r f11) ?_
    refine t_l fX9_city_50 rfl rfl rfl rfl ?_
    refine t_l fX9_city_51 rfl rfl rfl rfl ?_
    refine t_l fX9_city_52 rfl rfl rfl rfl ?_
    refine k9_gr fX9_city_53 (f11).1 kg_9_10 (s9_10r f11) ?_
    refine k9_pr fX9_city_56 (f11).1 kp_9_11 ?_
    replace h := lt_some h
    obtain ⟨⟨f15, f16⟩, h⟩ := gd_some h
    refine t_l fX9_city_59 rfl rfl rfl rfl ?_
    refine t_l fX9_city_60 rfl rfl rfl rfl ?_
    refine k9_pr fX9_city_61 (f15).1 kp_9_10 ?_
    replace h := lt_some h
    obtain ⟨⟨f18, f19⟩, h⟩ := gd_some h
    refine t_l fX9_city_64 rfl rfl rfl rfl ?_
    refine k9_gr fX9_city_65 (f18).1 kg_9_8 (s9_8r f18) ?_
    refine t_l fX9_city_68 rfl rfl rfl rfl ?_
    refine k9_gr fX9_city_69 (f18).1 kg_9_10 (s9_10r f18) ?_
    obtain ⟨V20, v21, e22, h⟩ := bd_some h
    refine kcX4_begin fX9_city_72 (s9_8s f18).1 rfl rfl (q_X4_begin (s9_8s f18) (s9_10s f18) e22) (by decide) ?_
    refine t_l fX9_city_75 rfl rfl rfl rfl ?_
    refine k9_gr fX9_city_76 (f18).1 kg_9_7 (s9_7r f18) ?_
    obtain ⟨V23, v24, e25, h⟩ := bd_some h
    refine kcX5_clear fX9_city_79 (s9_7s f18).1 rfl (q_X5_clear (s9_7s f18) e25) (by decide) ?_
    refine t_l fX9_city_82 rfl rfl rfl rfl ?_
    refine k9_gr fX9_city_83 (f18).1 kg_9_3 (s9_3r f18) ?_
    refine t_s fX9_city_86 rfl rfl rfl ?_
    obtain ⟨V26, v27, e28, h⟩ := bd_some h
    refine kcX7_cut fX9_city_87 (s9_3s f18).1 rfl (q_X7_cut (s9_3s f18) e28) (by decide) ?_
    refine t_l fX9_city_90 rfl rfl rfl rfl ?_
    refine t_s fX9_city_91 rfl rfl rfl ?_
    refine k9_pi fX9_city_92 (f18).1 kp_9_12 ?_
    replace h := lt_some h
    refine t_l fX9_city_95 rfl rfl rfl rfl ?_
    refine k9_gr fX9_city_96 (f18).1 kg_9_10 (s9_10r f18) ?_
    refine k9_gi fX9_city_99 (s9_10s f18).1 kg_1_14 ?_
    refine t_ret fX9_city_102 rX9_city ?_
    exact qfw_i h
  · replace h := ite_f (c12) h
    refine t_l fX9_city_40 rfl rfl rfl rfl ?_
    refine t_s fX9_city_41 rfl rfl rfl ?_
    obtain ⟨V30, v31, e32, h⟩ := bd_some h
    refine kcX9_refuse fX9_city_42 (f11).1 rfl (q_X9_refuse (f11) e32) (by decide) ?_
    refine t_ret fX9_city_45 rX9_city ?_
    exact qfw_i h

